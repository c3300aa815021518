/-! the class marks how many bins each rule takes -/
theorem shl1 : ∀ b : Fin 25, (Int32.ofInt 1 <<< (Int32.ofInt (b.val : Int) &&& 31)).toInt = ((2 ^ b.val : Nat) : Int) := by decide +kernel
theorem or_v {x y : Nat} (hx : x < 33554432) (hy : y < 33554432) : (Int32.ofInt (x : Int) ||| Int32.ofInt (y : Int)).toInt = ((x ||| y : Nat) : Int) := by
  have h1 : (Int32.ofInt (x : Int) ||| Int32.ofInt (y : Int)).toBitVec = BitVec.ofInt 32 x ||| BitVec.ofInt 32 y := rfl
  have h2 : (BitVec.ofInt 32 (x : Int) ||| BitVec.ofInt 32 (y : Int)).toNat = x ||| y := by
    rw [BitVec.toNat_or, BitVec.toNat_ofInt, BitVec.toNat_ofInt]
    show ((x : Int) % 4294967296).toNat ||| ((y : Int) % 4294967296).toNat = _
    rw [show ((x : Int) % 4294967296).toNat = x by omega, show ((y : Int) % 4294967296).toNat = y by omega]
  have h3 : x ||| y < 2 ^ 25 := Nat.or_lt_two_pow (show x < 2 ^ 25 from hx) (show y < 2 ^ 25 from hy)
  have h4 : (2 : Nat) ^ 25 = 33554432 := rfl
  show (Int32.ofInt (x : Int) ||| Int32.ofInt (y : Int)).toBitVec.toInt = _
  rw [h1, BitVec.toInt_eq_toNat_of_lt (by rw [h2]; omega), h2]
theorem c_X1_see {d k : Nat} {c : Int} {K : Nat} {M1 : mM} {sz mn od : Int → Int} {m : Nat → Nat} {Q : mRes → mM → Prop} (h0 : M1 12 0 = c) (h1 : M1 12 1 = K) (hl : lotE K (M1 13) (M1 14) (M1 15) sz mn od) (hG : GLok c K sz mn od) (hP : PkL c K sz mn od) (hm : ∀ r : Nat, r < 8 → M1 109 r = ((m r : Nat) : Int) ∧ m r < 33554432) (hQ : ∀ M2, frN [28, 29, 30, 31, 109] M1 M2 → (∀ r : Nat, r < 8 → M2 109 r = ((m r ||| 2 ^ (pkA c r sz mn od K).1 : Nat) : Int)) → Q (.inl none) M2) : V (d + 4) k qX1_see 0 [mR 10 3 108, mR 11 5 12, mR 13 5 28, mE 0] [] M1 Q := by
  have hPl := hl.PL hG hP
  have loop : ∀ (n j : Nat) (M' : mM), j + n = 8 → frN [28, 29, 30, 31, 109] M1 M' → (∀ r : Nat, r < 8 → M' 109 r = if r < j then ((m r ||| 2 ^ (pkA c r sz mn od K).1 : Nat) : Int) else ((m r : Nat) : Int)) → V (d + 4) k qX1_see 2 [mR 10 3 108, mR 11 5 12, mR 13 5 28, mI j] [] M' Q := by
    intro n
    induction n with
    | zero =>
      intro j M' hj g1 g2
      exact B_X1_see_2 ⟨fun _ => hQ M' g1 (fun r hr => by rw [g2 r hr, if_pos (by omega)]), fun z => by omega⟩
    | succ n ih =>
      intro j M' hj g1 g2
      have f12 : M' 12 = M1 12 := g1 12 (by simp)
      have f13 : M' 13 = M1 13 := g1 13 (by simp)
      have f14 : M' 14 = M1 14 := g1 14 (by simp)
      have f15 : M' 15 = M1 15 := g1 15 (by simp)
      have ej := g2 j (by omega)
      rw [if_neg (by omega)] at ej
      have Bk := B_X1_see_2 (d := d + 3) (k := k) (M := M') (Q := Q) (x3 := j)
      rw [ej] at Bk
      refine Bk ⟨fun z => by omega, fun _ => ⟨by omega, c_X4_packAll (n0 := 28) (c := c) (K := K) (by omega) (by rw [f12]; exact h0) (by rw [f12]; exact h1) (by rw [f13, f14, f15]; exact hPl) (by omega) (fun M2 q1 q2 => ?_)⟩⟩
      rw [f13, f14, f15, hl.pk]
      have ok := pkA_ok hP (r := j) K (Nat.le_refl _)
      have hs := hP.sum (r := j)
      have hb : (pkA c j sz mn od K).1 < 25 := by have := ok.1.1; have := ok.2; omega
      have e1 := shl1 ⟨(pkA c j sz mn od K).1, hb⟩
      simp only [] at e1
      have hp : 2 ^ (pkA c j sz mn od K).1 < 33554432 := by
        have : 2 ^ (pkA c j sz mn od K).1 < 2 ^ 25 := Nat.pow_lt_pow_right (by omega) hb
        exact this
      have Bk := B_X1_see_22 (d := d + 3) (k := k) (M := M2) (Q := Q) (x3 := j) (sx0 := ((pkA c j sz mn od K).1 : Int)) (sx1 := 1) (sx2 := ((m j : Nat) : Int)) (sx3 := j)
      rw [e1, or_v (hm j (by omega)).2 hp] at Bk
      have g3 : frN [28, 29, 30, 31, 109] M1 M2 := g1.tr (fun t ht => q1 t (by simp at ht ⊢; omega))
      refine Bk ⟨by omega, by omega, ih (j + 1) _ (by omega) (g3.up (by simp)) (fun r hr => ?_)⟩
      by_cases e : r = j
      · subst e; rw [up_s, if_pos (by omega)]
      · rw [up_fld (by omega), q1 109 (by simp), g2 r hr]
        by_cases e2 : r < j
        · rw [if_pos e2, if_pos (by omega)]
        · rw [if_neg e2, if_neg (by omega)]
  exact B_X1_see_0 (loop 8 0 M1 (by omega) frN.rf (fun r hr => by rw [if_neg (by omega)]; exact (hm r hr).1))
