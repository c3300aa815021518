/-! the class's fewest bins -/
def st0 (P : pkT) : tS := (P.1, 0, 0, 0, 0, 0, fun i => cntF P.2.2.2.1 P.2.2.2.2 (i / 6) (i % 6) P.2.1)
/-- the tree of some goods -/
def fewT (c : Int) (K : Nat) (sz mn od : Int → Int) : tS := meetT c K sz od 24 0 mn (fun _ => 0) (st0 (pkA c 5 sz mn od K))
theorem st0_ok {c : Int} {K : Nat} {sz mn od : Int → Int} (h : PkL c K sz mn od) : tOK (st0 (pkA c 5 sz mn od K)) := by
  have h1 := pkA_ok h (r := 5) K (Nat.le_refl _)
  have h2 := h.sum (r := 5)
  have h3 := h1.1.1
  have h4 := h1.2
  refine ⟨⟨?_, ?_⟩, ⟨?_, ?_⟩, ⟨?_, ?_⟩, ⟨?_, ?_⟩, ⟨?_, ?_⟩, Or.inl rfl⟩ <;> simp only [st0] <;> omega
theorem fewT_ok {c : Int} {K : Nat} {sz mn od : Int → Int} (h : PkL c K sz mn od) : tOK (fewT c K sz mn od) := (meetT_ok 24 0 mn (fun _ => 0) _ (by omega) (st0_ok h) rfl).1
theorem c_X8_fewestOf {d k : Nat} {M : mM} {Q : mRes → mM → Prop} {c : Int} {K : Nat} {sz mn od : Int → Int} (hc : M 12 0 = c) (hK : M 12 1 = K) (h13 : M 13 = sz) (h14 : M 14 = mn) (h15 : M 15 = od) (hG : GLok c K sz mn od) (hP : PkL c K sz mn od) (hm : ∀ s : Nat, s < 6 → 0 ≤ mn s ∧ mn s ≤ 24)
    (hQ : ∀ M', (∀ n, ¬ (32 ≤ n ∧ n < 90) → M' n = M n) → trC M' (fewT c K sz mn od) → Q (.inl (some (mI (fewT c K sz mn od).1))) M') : V (d + 53) k qX8_fewestOf 0 [mR 16 10 32, mR 11 5 12] [] M Q := by
  refine B_X8_fewestOf_0 (c_X4_packAll (n0 := 34) (by omega) hc hK (by rw [h13, h14, h15]; exact hP) (by omega) (fun M1 q1 q2 => B_X8_fewestOf_10 ?_))
  rw [h13, h14, h15] at q2 ⊢
  have hok := st0_ok hP
  have hp1 := hok.1
  have hp1' : (pkA c 5 sz mn od K).1 ≤ 24 := by have : ((pkA c 5 sz mn od K).1 : Int) ≤ 24 := hp1.2; omega
  generalize hst : st0 (pkA c 5 sz mn od K) = st at *
  generalize hM2 : mCp (mUp (mUp (mUp (mUp (mUp (mCp (mUp M1 32 1 (pkA c 5 sz mn od K).1) 36 0 33 0 144) 32 2 0) 32 3 0) 32 4 0) 32 5 0) 32 6 0) 14 0 39 0 6 = M2
  have r2 : ∀ n, n ≠ 32 → n ≠ 33 → n ≠ 39 → M2 n = M1 n := fun n h1 h2 h3 => by
    rw [← hM2, cp_row h3, up_row h1, up_row h1, up_row h1, up_row h1, up_row h1, cp_row h2, up_row h1]
  have q0 : ∀ n, ¬ (32 ≤ n ∧ n < 90) → M1 n = M n := fun n hn => q1 n (by simp; omega)
  have T2 : trC M2 st := by
    rw [← hM2, ← hst]
    refine ⟨?_, ?_, ?_, ?_, ?_, ?_, fun i h1 h2 => ?_⟩
    · rw [cp_row (by decide), up_fld (by decide), up_fld (by decide), up_fld (by decide), up_fld (by decide), up_fld (by decide), cp_row (by decide), up_s]; rfl
    · rw [cp_row (by decide), up_fld (by decide), up_fld (by decide), up_fld (by decide), up_fld (by decide), up_s]; rfl
    · rw [cp_row (by decide), up_fld (by decide), up_fld (by decide), up_fld (by decide), up_s]; rfl
    · rw [cp_row (by decide), up_fld (by decide), up_fld (by decide), up_s]; rfl
    · rw [cp_row (by decide), up_fld (by decide), up_s]; rfl
    · rw [cp_row (by decide), up_s]; rfl
    · have h2' : i < 6 * ((pkA c 5 sz mn od K).1 : Int) := h2
      rw [cp_row (by decide), up_row (by decide), up_row (by decide), up_row (by decide), up_row (by decide), up_row (by decide), cp_in (by omega), up_row (by decide)]
      have h3 := q2.2.2.2.2 (i / 6).toNat (by omega) (i % 6).toNat (by omega)
      have e1 : ((i / 6).toNat : Int) = i / 6 := Int.toNat_of_nonneg (by omega)
      have e2 : ((i % 6).toNat : Int) = i % 6 := Int.toNat_of_nonneg (by omega)
      rw [e1, e2] at h3
      rw [show 0 + (i - 0) = i / 6 * 6 + i % 6 by omega]
      exact h3
  have h39 : ∀ s : Int, 0 ≤ s → s < 6 → M2 39 s = mn s := fun s h1 h2 => by
    rw [← hM2, cp_in (by omega), up_row (by decide), up_row (by decide), up_row (by decide), up_row (by decide), up_row (by decide), cp_row (by decide), up_row (by decide), q0 14 (by omega), h14, show 0 + (s - 0) = s by omega]
  have e12 : M2 12 = M 12 := by rw [r2 12 (by decide) (by decide) (by decide)]; exact q0 12 (by omega)
  have e13 : M2 13 = sz := by rw [r2 13 (by decide) (by decide) (by decide), q0 13 (by omega)]; exact h13
  have e15 : M2 15 = od := by rw [r2 15 (by decide) (by decide) (by decide), q0 15 (by omega)]; exact h15
  refine c_X8_meet (d := d) hP.1 24 0 mn (fun _ => 0) st M2 _ 0 (by omega) (by omega) (by rw [e12]; exact hc) (by rw [e12]; exact hK) e13 e15 (fun s h1 h2 => h39 s h1 h2) hG (fun s hs => by have := hm s hs; omega) (fun b s h1 => by omega) T2 hok (by rw [← hst]; rfl) (fun M3 f1 f2 => B_X8_fewestOf_80 ?_)
  have ef : meetT c K sz od 24 0 mn (fun _ => 0) st = fewT c K sz mn od := by unfold fewT; rw [hst]
  rw [ef] at f2
  rw [f2.1]
  refine hQ M3 (fun n hn => ?_) f2
  rw [f1 n (by omega) (by omega) (by omega) (by omega), r2 n (by omega) (by omega) (by omega)]
  exact q0 n hn
