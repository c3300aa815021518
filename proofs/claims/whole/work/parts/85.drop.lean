/-! a bin falls out -/
def rDrop (R : Int → Int) (b : Int) : Int → Int := fun i => if i = 6 then R 6 - 1 else if 7 + 6 * b ≤ i ∧ i < 73 then R (i + 6) else if 73 ≤ i ∧ i < 79 then 0 else R i
theorem rDrop_6 {R : Int → Int} {b : Int} : rDrop R b 6 = R 6 - 1 := by unfold rDrop; rw [if_pos rfl]
theorem rDrop_lo {R : Int → Int} {b i : Int} (h : i ≠ 6) (h1 : i < 7 + 6 * b) (h2 : i < 73) : rDrop R b i = R i := by unfold rDrop; rw [if_neg h, if_neg (by omega), if_neg (by omega)]
theorem rDrop_md {R : Int → Int} {b i : Int} (hb : 0 ≤ b) (h1 : 7 + 6 * b ≤ i) (h2 : i < 73) : rDrop R b i = R (i + 6) := by unfold rDrop; rw [if_neg (by omega), if_pos ⟨h1, h2⟩]
theorem rDrop_hi {R : Int → Int} {b i : Int} (h1 : 73 ≤ i) (h2 : i < 79) : rDrop R b i = 0 := by unfold rDrop; rw [if_neg (by omega), if_neg (by omega), if_pos ⟨h1, h2⟩]
theorem rDrop_bin {R : Int → Int} {b : Nat} (hb : b < 12) (b' s : Nat) (hb' : b' < 12) (hs : s < 6) : rDrop R b (7 + 6 * (b' : Int) + s) = if b' < b then R (7 + 6 * (b' : Int) + s) else if b' < 11 then R (7 + 6 * ((b' + 1 : Nat) : Int) + s) else 0 := by
  by_cases h : b' < b
  · rw [if_pos h, rDrop_lo (by omega) (by omega) (by omega)]
  · rw [if_neg h]
    by_cases h2 : b' < 11
    · rw [if_pos h2, rDrop_md (by omega) (by omega) (by omega)]; congr 1; omega
    · rw [if_neg h2, rDrop_hi (by omega) (by omega)]
theorem rDrop_ok {c : Int} {K : Nat} {sz R : Int → Int} {b : Nat} (hc : 1 ≤ c) (hK : K ≤ 6) (h : rowOK c K sz R) (hb : (b : Int) < R 6) : rowOK c K sz (rDrop R b) := by
  obtain ⟨g1, g2, g3, g4, g5⟩ := h
  have lo : ∀ s : Nat, s < 6 → rDrop R b s = R s := fun s hs => rDrop_lo (by omega) (by omega) (by omega)
  have bn := fun b' s hb' hs => rDrop_bin (R := R) (b := b) (by omega) b' s hb' hs
  refine ⟨fun s hs => by rw [lo s hs]; exact g1 s hs, by rw [sg_congr (g := R) (fun j hj => lo j (by omega))]; exact g2, by rw [rDrop_6]; omega, fun b' s hb' hs => ?_, fun b' hb' => ?_⟩
  · rw [bn b' s hb' hs, rDrop_6]
    by_cases e1 : b' < b
    · rw [if_pos e1]
      have := g4 b' s hb' hs
      exact ⟨this.1, this.2.1, this.2.2.1, fun z => this.2.2.2 (by omega)⟩
    · rw [if_neg e1]
      by_cases e2 : b' < 11
      · rw [if_pos e2]
        have := g4 (b' + 1) s (by omega) hs
        exact ⟨this.1, this.2.1, this.2.2.1, fun z => this.2.2.2 (by omega)⟩
      · rw [if_neg e2]; exact ⟨by omega, by omega, fun _ => rfl, fun _ => rfl⟩
  · by_cases e1 : b' < b
    · rw [sg_congr (f := fun s => sz s * rDrop R b (7 + 6 * b' + s)) (g := fun s => sz s * R (7 + 6 * b' + s)) (fun j hj => by show sz j * rDrop R b _ = sz j * R _; rw [bn b' j hb' (by omega), if_pos e1])]
      exact g5 b' hb'
    · by_cases e2 : b' < 11
      · rw [sg_congr (f := fun s => sz s * rDrop R b (7 + 6 * b' + s)) (g := fun s => sz s * R (7 + 6 * ((b' + 1 : Nat) : Int) + s)) (fun j hj => by show sz j * rDrop R b _ = sz j * R _; rw [bn b' j hb' (by omega), if_neg e1, if_pos e2])]
        exact g5 (b' + 1) (by omega)
      · have z : ∀ n : Nat, n ≤ 6 → sg (fun s => sz s * rDrop R b (7 + 6 * b' + s)) n = 0 := fun n => by
          induction n with
          | zero => intro _; rfl
          | succ n ih =>
            intro hn
            show sg (fun s => sz s * rDrop R b (7 + 6 * b' + s)) n + sz n * rDrop R b (7 + 6 * b' + n) = 0
            rw [ih (by omega), bn b' n hb' (by omega), if_neg e1, if_neg e2, Int.mul_zero]; omega
        rw [z K hK]; omega
theorem c_X7_dropBin {d k : Nat} {M : mM} {R : Int → Int} {Q : mRes → mM → Prop} {b : Nat} (h : stk 17 M R) (h6 : 0 ≤ R 6 ∧ R 6 ≤ 12) (hb : (b : Int) < R 6) (hQ : ∀ M', (∀ n, n ≠ 17 → M' n = M n) → stk 17 M' (rDrop R b) → Q (.inl none) M') : V (d + 2) k qX7_dropBin 0 [mR 15 7 16, mI b, mE 0] [] M Q := by
  have e13 : M 17 13 = R 6 := h.2.1
  refine B_X7_dropBin_0 (Or.inl rfl) (c_X7_isBin (Or.inl rfl) (by show 0 ≤ M 17 13 ∧ M 17 13 ≤ 12; omega) (fun r hr => ?_))
  rw [if_pos (by show 0 ≤ (b : Int) ∧ (b : Int) < M 17 13; omega)] at hr
  subst hr
  refine B_X7_dropBin_5 (Or.inl rfl) ⟨fun z => by omega, fun _ => ?_⟩
  have loop : ∀ (r j : Nat) (M' : mM), j + r = 11 → b ≤ j → (∀ n, n ≠ 17 → M' n = M n) → (∀ i : Nat, i < 14 → M' 17 i = if b ≤ i ∧ i < j then M 17 ((i + 1 : Nat) : Int) else M 17 i) → V (d + 2) k qX7_dropBin 10 [mR 15 7 16, mI b, mI j] [] M' Q := by
    intro r
    induction r with
    | zero =>
      intro j M' hj hbj g1 g2
      have e : j = 11 := by omega
      subst e
      have g13 : M' 17 13 = M 17 13 := by have := g2 13 (by omega); rw [if_neg (by omega)] at this; exact this
      refine B_X7_dropBin_10 (Or.inl rfl) ⟨by omega, fun _ => ⟨by show r64 (M' 17 13 - 1); omega, hQ _ (fun n hn => by rw [up_row (by omega), up_row (by omega)]; exact g1 n hn) ⟨?_, ?_, fun b' hb' => ?_⟩⟩, fun z => by omega⟩
      · show mUp (mUp M' 17 11 0) 17 13 _ 17 12 = _
        have := g2 12 (by omega); rw [if_neg (by omega)] at this
        rw [up_fld (by decide), up_fld (by decide)]
        exact this.trans (h.1.trans (pkL_congr (fun s hs => (rDrop_lo (by omega) (by omega) (by omega)).symm)))
      · show mUp (mUp M' 17 11 0) 17 13 (M' 17 13 - 1) 17 13 = _
        rw [up_s, rDrop_6]; omega
      · show mUp (mUp M' 17 11 0) 17 13 _ 17 b' = _
        rw [up_fld (by omega)]
        have bn := fun s hs => rDrop_bin (R := R) (b := b) (by omega) b' s hb' hs
        by_cases e1 : b' < b
        · rw [up_fld (by omega), g2 b' (by omega), if_neg (by omega), h.2.2 b' hb']
          exact pkL_congr (fun s hs => by rw [bn s hs, if_pos e1])
        · by_cases e2 : b' < 11
          · rw [up_fld (by omega), g2 b' (by omega), if_pos (by omega), h.2.2 (b' + 1) (by omega)]
            exact pkL_congr (fun s hs => by rw [bn s hs, if_neg e1, if_pos e2])
          · rw [show (b' : Int) = 11 by omega, up_s]
            have : pkL (fun s => rDrop R b (7 + 6 * 11 + s)) = pkL (fun _ => 0) := pkL_congr (fun s hs => by
              have := bn s hs
              rw [if_neg e1, if_neg e2, show (b' : Int) = 11 by omega] at this
              exact this)
            rw [this]; rfl
    | succ r ih =>
      intro j M' hj hbj g1 g2
      refine B_X7_dropBin_10 (Or.inl rfl) ⟨by omega, fun z => by omega, fun _ => ⟨by omega, by omega, by omega, by omega, ?_⟩⟩
      refine ih (j + 1) _ (by omega) (by omega) (fun n hn => by rw [up_row (by omega)]; exact g1 n hn) (fun i hi => ?_)
      show mUp M' 17 j (M' 17 ((j : Int) + 1)) 17 i = _
      by_cases e : i = j
      · subst e
        rw [up_s, if_pos (by omega)]
        have := g2 (i + 1) (by omega)
        rw [if_neg (by omega)] at this
        exact this
      · rw [up_fld (by omega), g2 i hi]
        by_cases e2 : b ≤ i ∧ i < j
        · rw [if_pos e2, if_pos (by omega)]
        · rw [if_neg e2, if_neg (by omega)]
  exact loop (11 - b) b M (by omega) (by omega) (fun _ _ => rfl) (fun i hi => by rw [if_neg (by omega)])
theorem c_X10_dropsBin {d k : Nat} {M : mM} {c : Int} {K : Nat} {sz R : Int → Int} {Q : mRes → mM → Prop} {b : Nat} (hM : ∀ i : Int, 0 ≤ i → i < 79 → M 113 i = R i) (h : rowOK c K sz R) (hb : (b : Int) < R 6) (hQ : ∀ M', (∀ n, n ≠ 113 → M' n = M n) → (∀ i : Int, 79 ≤ i → M' 113 i = M 113 i) → (∀ i : Int, 0 ≤ i → i < 79 → M' 113 i = rDrop R b i) → Q (.inl none) M') : V (d + 1) k qX10_dropsBin 0 [mR 18 58 112, mI b, mE 0] [] M Q := by
  have h6 := h.2.2.1
  have e6 := hM 6 (by omega) (by omega)
  obtain ⟨n, hn⟩ : ∃ n : Nat, R 6 - 1 = n := ⟨(R 6 - 1).toNat, by omega⟩
  have z0 : ∀ i : Int, 7 + 6 * (n : Int) + 6 ≤ i → i < 79 → R i = 0 := fun i a b => by
    have hd : i = 7 + 6 * (((i - 7) / 6).toNat : Int) + (((i - 7) % 6).toNat : Int) := by omega
    rw [hd]
    exact (h.2.2.2.1 _ _ (by omega) (by omega)).2.2.2 (by omega)
  have l2 : ∀ (r j : Nat) (M' : mM), j + r = 6 → (∀ n, n ≠ 113 → M' n = M n) → (∀ i : Int, 79 ≤ i → M' 113 i = M 113 i) → M' 113 6 = n → (∀ i : Int, 0 ≤ i → i < 79 → i ≠ 6 → M' 113 i = if 7 + 6 * (n : Int) ≤ i ∧ i < 7 + 6 * (n : Int) + j then 0 else if 7 + 6 * (b : Int) ≤ i ∧ i < 7 + 6 * (n : Int) then R (i + 6) else R i) → V (d + 1) k qX10_dropsBin 50 [mR 18 58 112, mI b, mI j] [] M' Q := by
    intro r
    induction r with
    | zero =>
      intro j M' hj g1 g2 g3 g4
      have e : j = 6 := by omega
      subst e
      refine B_X10_dropsBin_50 ⟨fun _ => hQ M' g1 g2 (fun i a b' => ?_), fun z => by omega⟩
      by_cases e : i = 6
      · rw [e, g3, rDrop_6]; omega
      · rw [g4 i a b' e]
        unfold rDrop
        rw [if_neg e]
        by_cases c1 : 7 + 6 * (n : Int) ≤ i ∧ i < 7 + 6 * (n : Int) + ((6 : Nat) : Int)
        · rw [if_pos c1]
          by_cases c2 : i < 73
          · rw [if_pos (by omega)]; exact (z0 (i + 6) (by omega) (by omega)).symm
          · rw [if_neg (by omega), if_pos (by omega)]
        · rw [if_neg c1]
          by_cases c2 : 7 + 6 * (b : Int) ≤ i ∧ i < 7 + 6 * (n : Int)
          · rw [if_pos c2, if_pos (by omega)]
          · rw [if_neg c2]
            by_cases c3 : 7 + 6 * (b : Int) ≤ i
            · rw [z0 i (by omega) b']
              by_cases c4 : i < 73
              · rw [if_pos (by omega)]; exact (z0 (i + 6) (by omega) (by omega)).symm
              · rw [if_neg (by omega), if_pos (by omega)]
            · rw [if_neg (by omega), if_neg (by omega)]
    | succ r ih =>
      intro j M' hj g1 g2 g3 g4
      refine B_X10_dropsBin_50 ⟨fun z => by omega, fun _ => c_X10_bins (fun x hx => B_X10_dropsBin_64 (c_X10_binAt (by omega) (fun y hy => B_X10_dropsBin_67 ⟨by omega, by omega, by omega, ?_⟩)))⟩
      have ey : y = 7 + 6 * (n : Int) := by omega
      subst ey
      refine ih (j + 1) _ (by omega) (fun n hn => by rw [up_row hn]; exact g1 n hn) (fun i hi => by rw [up_fld (by omega)]; exact g2 i hi) (by rw [up_fld (by omega)]; exact g3) (fun i a b' e => ?_)
      by_cases c1 : i = 7 + 6 * (n : Int) + j
      · rw [c1, up_s, if_pos (by omega)]
      · rw [up_fld c1, g4 i a b' e]
        by_cases c2 : 7 + 6 * (n : Int) ≤ i ∧ i < 7 + 6 * (n : Int) + j
        · rw [if_pos c2, if_pos (by omega)]
        · rw [if_neg c2, if_neg (show ¬ (7 + 6 * (n : Int) ≤ i ∧ i < 7 + 6 * (n : Int) + ((j + 1 : Nat) : Int)) by omega)]
  have l1 : ∀ (r : Nat) (x : Int) (M' : mM), x + r = 7 + 6 * (n : Int) → 7 + 6 * (b : Int) ≤ x → (∀ n, n ≠ 113 → M' n = M n) → (∀ i : Int, 79 ≤ i → M' 113 i = M 113 i) → M' 113 6 = n → (∀ i : Int, 0 ≤ i → i < 79 → i ≠ 6 → M' 113 i = if 7 + 6 * (b : Int) ≤ i ∧ i < x then R (i + 6) else R i) → V (d + 1) k qX10_dropsBin 16 [mR 18 58 112, mI b, mI x] [] M' Q := by
    intro r
    induction r with
    | zero =>
      intro x M' hx hbx g1 g2 g3 g4
      refine B_X10_dropsBin_16 (c_X10_bins (fun y hy => B_X10_dropsBin_21 (c_X10_binAt (by omega) (fun z hz => B_X10_dropsBin_24 ⟨fun _ => ?_, fun c => by omega⟩))))
      refine l2 6 0 M' (by omega) g1 g2 g3 (fun i a b' e => ?_)
      rw [g4 i a b' e, if_neg (show ¬ (7 + 6 * (n : Int) ≤ i ∧ i < 7 + 6 * (n : Int) + ((0 : Nat) : Int)) by omega), show x = 7 + 6 * (n : Int) by omega]
    | succ r ih =>
      intro x M' hx hbx g1 g2 g3 g4
      refine B_X10_dropsBin_16 (c_X10_bins (fun y hy => B_X10_dropsBin_21 (c_X10_binAt (by omega) (fun z hz => B_X10_dropsBin_24 ⟨fun c => by omega, fun _ => ⟨by omega, by omega, by omega, by omega, ?_⟩⟩))))
      refine ih (x + 1) _ (by omega) (by omega) (fun n hn => by rw [up_row hn]; exact g1 n hn) (fun i hi => by rw [up_fld (by omega)]; exact g2 i hi) (by rw [up_fld (by omega)]; exact g3) (fun i a b' e => ?_)
      by_cases c1 : i = x
      · rw [c1, up_s, if_pos (by omega), g4 (x + 6) (by omega) (by omega) (by omega), if_neg (by omega)]
      · rw [up_fld c1, g4 i a b' e]
        by_cases c2 : 7 + 6 * (b : Int) ≤ i ∧ i < x
        · rw [if_pos c2, if_pos (by omega)]
        · rw [if_neg c2, if_neg (by omega)]
  refine B_X10_dropsBin_0 ⟨by omega, c_X10_binAt (by omega) (fun r hr => B_X10_dropsBin_15 ?_)⟩
  subst hr
  exact l1 (6 * (n - b)) _ _ (by omega) (by omega) (fun n hn => up_row hn) (fun i hi => up_fld (by omega)) (by rw [up_s]; omega) (fun i a b' e => by rw [up_fld e, if_neg (by omega)]; exact hM i a b')
theorem MA.row {M M1 M2 : mM} {R R' : Int → Int} (h : MA M M1 R) (h1 : ∀ n, n ≠ 113 → M2 n = M1 n) (h2 : ∀ i : Int, 79 ≤ i → M2 113 i = M1 113 i) (h3 : ∀ i : Int, 0 ≤ i → i < 79 → M2 113 i = R' i) : MA M M2 R' := by
  obtain ⟨g1, g2, g3, g4, g5, g6, g7⟩ := h
  have e := h1 112 (by decide)
  exact ⟨fun n a b c => by rw [h1 n b]; exact g1 n a b c, fun j hj => by rw [e]; exact g2 j hj, by rw [e]; exact g3, by rw [e]; exact g4, h3, fun k j a b c => by rw [h2 _ (by omega)]; exact g6 k j a b c, fun j a => by rw [h2 _ (by omega)]; exact g7 j a⟩
/-- nothing lies in a bin: by its number, by its weight -/
theorem pk0_wt {K : Nat} {sz R : Int → Int} {c : Int} {b : Nat} (hK : K ≤ 6) (hz : ∀ t : Nat, t < K → 1 ≤ sz t) (h : rowOK c K sz R) (hb : b < 12) : pkL (fun s => R (7 + 6 * b + s)) = 0 ↔ wtR K sz R b = 0 := by
  have g := fun s hs => h.2.2.2.1 b s hb hs
  constructor
  · intro e
    have z : ∀ s : Nat, s < 6 → R (7 + 6 * b + s) = 0 := fun s hs => by
      have := pkL_at (f := fun s => R (7 + 6 * b + s)) (h.b7 hb) hs
      rw [e] at this
      have h0 : (0 : Int) / 2 ^ (7 * s) % 128 = 0 := by rw [Int.zero_ediv]; rfl
      rw [h0] at this
      exact this.symm
    unfold wtR
    have : ∀ n : Nat, n ≤ 6 → sg (fun s => sz s * R (7 + 6 * b + s)) n = 0 := fun n => by
      induction n with
      | zero => intro _; rfl
      | succ n ih =>
        intro hn
        show sg (fun s => sz s * R (7 + 6 * b + s)) n + sz n * R (7 + 6 * b + n) = 0
        rw [ih (by omega), z n (by omega), Int.mul_zero]; omega
    exact this K hK
  · intro e
    have z : ∀ s : Nat, s < 6 → R (7 + 6 * b + s) = 0 := fun s hs => by
      by_cases hk : K ≤ s
      · exact (g s hs).2.2.1 hk
      · have t1 := sg_term (f := fun j => sz j * R (7 + 6 * b + j)) (n := K) (fun j hj => Int.mul_nonneg (by have := hz j hj; omega) (g j (by omega)).1) s (by omega)
        have t2 : sz s * R (7 + 6 * b + s) ≤ wtR K sz R b := t1
        have t3 : 1 * R (7 + 6 * b + s) ≤ sz s * R (7 + 6 * b + s) := Int.mul_le_mul_of_nonneg_right (hz s (by omega)) (g s hs).1
        have := (g s hs).1
        omega
    rw [pkL_congr (g := fun _ => 0) z]; rfl
/-! acts: take -/
def okTake (K : Nat) (M : mM) (s b : Int) : Prop := (0 ≤ s ∧ s < K) ∧ (0 ≤ b ∧ b < M 113 6) ∧ 1 ≤ M 113 (7 + 6 * b + s) ∧ M 113 s < 12 ∧ sg (M 113) K < 24
def rTk (K : Nat) (M : mM) (s b : Int) : Int → Int := if wtR K (M 9) (rMv (M 113) s b (-1)) b = 0 then rDrop (rMv (M 113) s b (-1)) b else rMv (M 113) s b (-1)
theorem rTk_mv {c : Int} {K : Nat} {N : Int} {M : mM} {s b : Nat} (hS : St c K N M) (h : okTake K M s b) : rowOK c K (M 9) (rMv (M 113) s b (-1)) := by
  obtain ⟨h1, h2, h3, h4, h5⟩ := h
  have hz : ∀ t : Nat, t < K → 1 ≤ M 9 t := fun t ht => (hS.sz ht).2.1
  have hw := (hS.bin (b := b) (by have := hS.b13; omega)).2.2.2
  have hm := hS.mn s (by have := hS.1.2.1; omega)
  have := hz s (by omega)
  refine rMv_ok hS.1.1.2 hS.1.2.1 hz hS.row.2 (by omega) h2.2 (by omega) (by omega) (by omega) ?_
  have e : wtR K (M 9) (M 113) b = wtB K M b := rfl
  rw [e]; omega
theorem rTk_ok {c : Int} {K : Nat} {N : Int} {M : mM} {s b : Nat} (hS : St c K N M) (h : okTake K M s b) : rowOK c K (M 9) (rTk K M s b) := by
  have hr := rTk_mv hS h
  unfold rTk
  split
  · exact rDrop_ok hS.1.1.1 hS.1.2.1 hr (by rw [rMv_n (by have := hS.1.2.1; have := h.1; omega) (by omega)]; exact h.2.1.2)
  · exact hr
theorem xa_take {d k : Nat} {c : Int} {K : Nat} {N : Int} {M : mM} {Q : mRes → mM → Prop} {s b : Int} (hS : St c K N M) (hN : N ≤ 100000)
    (h1 : okTake K M s b → ∀ M1, XA M M1 (rTk K M s b) → Q (.inl (some (mI (rTk K M s b 6)))) M1) (h0 : ¬ okTake K M s b → Q (.inl (some (mI (-1)))) (rfX M)) : V (d + 60) k qX9_take 0 [mR 17 15 0, mI s, mI b] [] M Q := by
  have hL := hS.1
  have hK6 := hL.2.1
  have h13 := hS.b13
  have hrow := hS.row
  have hcl := hS.cl
  have hc := hL.1
  have no : ¬ okTake K M s b → V (d + 60) k qX9_take 61 [mR 17 15 0, mI s, mI b] [] M Q := fun h => B_X9_take_61 (c_X9_refuse hS hN (B_X9_take_65 (h0 h)))
  refine B_X9_take_0 (c_X9_isSort hL.2.2.2.2.1 hK6 (fun a1 => B_X9_take_5 ⟨fun z => by omega, fun _ => c_X7_isBin (Or.inl rfl) (by show 0 ≤ M 17 13 ∧ M 17 13 ≤ 12; omega) (fun r hr => ?_)⟩) (fun a1 => B_X9_take_5 ⟨fun _ => no (fun z => a1 z.1), fun z => (z rfl).elim⟩))
  by_cases a2 : 0 ≤ b ∧ b < M (16 + 1) 13
  · rw [if_pos a2] at hr
    subst hr
    have a2' : 0 ≤ b ∧ b < M 113 6 := by rw [← h13.1]; exact a2
    obtain ⟨sn, rfl⟩ : ∃ n : Nat, s = n := ⟨s.toNat, by omega⟩
    obtain ⟨bn, rfl⟩ : ∃ n : Nat, b = n := ⟨b.toNat, by omega⟩
    refine B_X9_take_16 ⟨fun z => by omega, fun _ => ⟨by omega, c_X7_part (hrow.1.2.2 bn (by omega)) (hrow.2.b7 (by omega)) (by omega) (fun r hr => ?_)⟩⟩
    subst hr
    refine B_X9_take_32 ⟨fun a3 => no (fun z => by have := z.2.2.1; omega), fun a3 => c_X7_restOf (Or.inl rfl) hrow.1.1 hrow.2.r7 (by omega) (fun r hr => ?_)⟩
    subst hr
    refine B_X9_take_44 ⟨fun a4 => no (fun z => by have := z.2.2.2.1; omega), fun a4 => c_X7_restOfAll (Or.inl rfl) hrow.1.1 (fun t ht => by have := hS.mn t ht; omega) (fun r hr => ?_)⟩
    rw [hS.s6] at hr
    subst hr
    refine B_X9_take_56 ⟨fun a5 => ?_, fun a5 => no (fun z => by have := z.2.2.2.2; omega)⟩
    have hok : okTake K M sn bn := ⟨a1, a2', by omega, by omega, a5⟩
    have hA := hS.A
    refine c_X7_remember (by omega) (fun M1 p1 p2 p3 p4 => B_X9_take_73 ?_)
    have e17 : M1 17 = M 17 := p1 17 (by decide) (by decide)
    have hpk := hcl.pk
    refine c_X7_moveOut (stk_cg e17 hrow.1) hrow.2.2.2.1 (by omega) (by omega) (by rw [e17]; exact ⟨hpk.1 bn (by omega), hpk.2⟩) (fun M2 q1 q2 => ?_)
    have hR' := rTk_mv hS hok
    have hz : ∀ t : Nat, t < K → 1 ≤ M 9 t := fun t ht => (hS.sz ht).2.1
    have e6 : rMv (M 113) sn bn (-1) 6 = M 113 6 := rMv_n (by omega) (by omega)
    have eb := q2.2.2 bn (by omega)
    have key := pk0_wt (b := bn) hK6 hz hR' (by omega)
    rw [← eb] at key
    have fin : ∀ M3 : mM, (∀ n, n ≠ 17 → M3 n = M1 n) → stk 17 M3 (rTk K M sn bn) → V (d + 60) k qX9_take 104 [mR 17 15 0, mI sn, mI bn] [] M3 Q := fun M3 u1 u2 => by
      have h6 := (rTk_ok hS hok).2.2.1
      have e13 : M3 17 13 = rTk K M sn bn 6 := u2.2.1
      refine B_X9_take_104 (c_X7_bins (Or.inl rfl) (by show 0 ≤ M3 17 13 ∧ M3 17 13 ≤ 12; omega) (fun r hr => B_X9_take_111 ?_))
      have hr' : r = rTk K M sn bn 6 := by rw [hr]; exact e13
      rw [hr']
      exact h1 hok M3 (XA.of p1 p2 p3 p4 (fun n a _ => u1 n a) u2)
    refine B_X9_take_82 ⟨by omega, fun z => ?_, fun z => ?_⟩
    · have hne : ¬ M2 17 bn = 0 := fun e => z (by rw [e]; rfl)
      have hn2 : ¬ wtR K (M 9) (rMv (M 113) sn bn (-1)) bn = 0 := fun e => hne (key.2 e)
      have er : rTk K M sn bn = rMv (M 113) sn bn (-1) := by unfold rTk; rw [if_neg hn2]
      exact fin M2 q1 (by rw [er]; exact q2)
    · have he0 : M2 17 bn = 0 := by
        by_cases c1 : 0 < M2 17 bn
        · rw [if_pos c1] at z; omega
        · rw [if_neg c1] at z
          by_cases c2 : M2 17 bn = 0
          · exact c2
          · rw [if_neg c2] at z; omega
      have er : rTk K M sn bn = rDrop (rMv (M 113) sn bn (-1)) bn := by unfold rTk; rw [if_pos (key.1 he0)]
      refine c_X7_dropBin q2 hR'.2.2.1 (by omega) (fun M3 u1 u2 => fin M3 (fun n a => by rw [u1 n a, q1 n a]) (by rw [er]; exact u2))
  · rw [if_neg a2] at hr
    subst hr
    exact B_X9_take_16 ⟨fun _ => no (fun z => a2 (by show 0 ≤ b ∧ b < M 17 13; rw [h13.1]; exact z.2.1)), fun z => (z rfl).elim⟩
theorem ma_take {d k : Nat} {c : Int} {K : Nat} {N : Int} {M : mM} {Q : mRes → mM → Prop} {s b : Int} (hS : St c K N M) (hN : N ≤ 100000) {M1 : mM} (hX : (okTake K M s b ∧ XA M M1 (rTk K M s b)) ∨ (¬ okTake K M s b ∧ M1 = rfX M))
    (h1 : okTake K M s b → ∀ M2, St c K N M2 → Q (.inl (some (mI (rTk K M s b 6)))) M2) (h0 : ¬ okTake K M s b → ∀ M2, St c K (N + 1) M2 → Q (.inl (some (mI (-1)))) M2) : V (d + 60) k qX10_take 0 [mR 18 58 112, mI s, mI b] [] M1 Q := by
  have hL := hS.1
  have hK6 := hL.2.1
  have h13 := hS.b13
  have hc := hL.1
  have hA := hS.A
  have he : M1 112 = M 112 ∧ M1 113 = M 113 ∧ M1 114 = M 114 ∧ M1 117 = M 117 := by
    rcases hX with ⟨_, z⟩ | ⟨_, z⟩
    · exact z.e
    · rw [z]; exact rfX.e
  have md := (hS.md he.1 he.2.1 he.2.2.1).up5 (v := 0)
  have kp0 : kpM M1 (mUp M1 112 5 0) := kpM.rf.fl (by simp)
  generalize hM0 : mUp M1 112 5 0 = M0 at *
  have f113 : M0 113 = M 113 := by rw [← hM0, up_row (by decide)]; exact he.2.1
  have f114 : M0 114 = M 114 := by rw [← hM0, up_row (by decide)]; exact he.2.2.1
  have f112 : ∀ i : Int, i ≠ 5 → M0 112 i = M 112 i := fun i hi => by rw [← hM0, up_fld hi, he.1]
  have no : ¬ okTake K M s b → V (d + 60) k qX10_take 67 [mR 18 58 112, mI s, mI b] [] M0 Q := fun hn => by
    have e1 : M1 = rfX M := by
      rcases hX with ⟨z, _⟩ | ⟨_, z⟩
      · exact (hn z).elim
      · exact z
    exact B_X10_take_67 (m_refuse hS hN (by rw [← e1]; exact kp0) (fun M2 h => B_X10_take_72 (h0 hn M2 h)))
  have Bk := B_X10_take_0 (d := d + 59) (k := k) (M := M1) (Q := Q) (x1 := s) (x2 := b)
  rw [he.1, hL.2.2.2.2.2.1, hM0] at Bk
  refine Bk ⟨by omega, c_X10_within (fun x hx => ?_)⟩
  by_cases a1 : 0 ≤ s ∧ s ≤ (K : Int) - 1
  · rw [if_pos a1] at hx
    subst hx
    refine B_X10_take_16 ⟨fun z => by omega, fun _ => c_X10_bins (fun x hx => B_X10_take_25 ⟨by rw [hx, f113]; omega, c_X10_within (fun y hy => ?_)⟩)⟩
    rw [f113] at hx
    subst hx
    by_cases a2 : 0 ≤ b ∧ b ≤ M 113 6 - 1
    · rw [if_pos a2] at hy
      subst hy
      obtain ⟨sn, rfl⟩ : ∃ n : Nat, s = n := ⟨s.toNat, by omega⟩
      obtain ⟨bn, rfl⟩ : ∃ n : Nat, b = n := ⟨b.toNat, by omega⟩
      have hm := hS.mn sn (by omega)
      have hb0 := hS.row.2.2.2.2.1 bn sn (by omega) (by omega)
      have hsum := hS.row.2.2.1
      refine B_X10_take_30 ⟨fun z => by omega, fun _ => c_X10_binAt (by omega) (fun r hr => ?_)⟩
      subst hr
      have Bk := B_X10_take_41 (d := d + 59) (k := k) (M := M0) (Q := Q) (x1 := sn) (x2 := bn) (sx0 := 7 + 6 * bn)
      rw [f113] at Bk
      refine Bk ⟨by omega, by omega, fun a3 => no (fun z => by have := z.2.2.1; omega), fun a3 => ⟨by omega, fun a4 => no (fun z => by have := z.2.2.2.1; omega), fun a4 => c_X10_restMany (K := K) (by rw [f112 7 (by decide)]; exact hL.2.2.2.2.2.1) hK6 (fun t ht => by rw [f113]; have := hS.mn t ht; omega) (fun r hr => ?_)⟩⟩
      rw [f113] at hr
      subst hr
      refine B_X10_take_62 ⟨fun a5 => ?_, fun a5 => no (fun z => by have := z.2.2.2.2; omega)⟩
      have hok : okTake K M sn bn := ⟨by omega, by omega, by omega, by omega, by omega⟩
      have hXA : XA M M1 (rTk K M sn bn) := by
        rcases hX with ⟨_, z⟩ | ⟨z, _⟩
        · exact z
        · exact (z hok).elim
      have hR' := rTk_mv hS hok
      have hR4 : rowOK c K (M0 114) (rMv (M 113) sn bn (-1)) := by rw [f114]; exact hR'.sz (fun t ht => (hS.sz ht).1)
      refine c_X10_keeps (by rw [f112 8 (by decide)]; omega) (by rw [f112 9 (by decide)]; omega) (fun M3 p1 p2 p3 p4 => B_X10_take_77 (c_X10_binAt (by omega) (fun r hr => ?_)))
      subst hr
      rw [f113] at p1
      have g : ∀ i : Int, 0 ≤ i → i < 79 → M3 113 i = M 113 i := p1.2.2.2.2.1
      have e1 := g (7 + 6 * (bn : Int) + sn) (by omega) (by omega)
      have e2 : mUp M3 113 (7 + 6 * (bn : Int) + sn) (M 113 (7 + 6 * (bn : Int) + sn) - 1) 113 sn = M 113 sn := by rw [up_fld (by omega)]; exact g sn (by omega) (by omega)
      have Bk := B_X10_take_85 (d := d + 59) (k := k) (M := M3) (Q := Q) (x1 := sn) (x2 := bn) (sx0 := 7 + 6 * bn)
      rw [e1, e2] at Bk
      have hma := (p1.up (i := 7 + 6 * (bn : Int) + sn) (v := M 113 (7 + 6 * (bn : Int) + sn) - 1) (by omega)).up (i := sn) (v := M 113 sn + 1) (by omega)
      have hma' : MA M0 (mUp (mUp M3 113 (7 + 6 * (bn : Int) + sn) (M 113 (7 + 6 * (bn : Int) + sn) - 1)) 113 sn (M 113 sn + 1)) (rMv (M 113) sn bn (-1)) := by
        have e : rMv (M 113) sn bn (-1) = fset (fset (M 113) (7 + 6 * (bn : Int) + sn) (M 113 (7 + 6 * (bn : Int) + sn) - 1)) sn (M 113 sn + 1) := by
          unfold rMv
          rw [show M 113 sn - -1 = M 113 sn + 1 by omega, show M 113 (7 + 6 * (bn : Int) + sn) + -1 = M 113 (7 + 6 * (bn : Int) + sn) - 1 by omega]
        rw [e]; exact hma
      have e114 : mUp (mUp M3 113 (7 + 6 * (bn : Int) + sn) (M 113 (7 + 6 * (bn : Int) + sn) - 1)) 113 sn (M 113 sn + 1) 114 = M 114 := by rw [up_row (by decide), up_row (by decide), p3 114 (by decide) (by decide)]; exact f114
      refine Bk ⟨by omega, by omega, by omega, by omega, by omega, by omega, by omega, c_X10_wtM (hma'.md md hR4) (by omega) ?_⟩
      generalize mUp (mUp M3 113 (7 + 6 * (bn : Int) + sn) (M 113 (7 + 6 * (bn : Int) + sn) - 1)) 113 sn (M 113 sn + 1) = M4 at *
      have ew : wtR K (M 114) (rMv (M 113) sn bn (-1)) bn = wtR K (M 9) (rMv (M 113) sn bn (-1)) bn := wtR_sz (fun t ht => (hS.sz ht).1)
      rw [e114, ew]
      have fin : ∀ M5 : mM, MA M0 M5 (rTk K M sn bn) → V (d + 60) k qX10_take 115 [mR 18 58 112, mI sn, mI bn] [] M5 Q := fun M5 u => by
        have e6 : M5 113 6 = rTk K M sn bn 6 := u.2.2.2.2.1 6 (by omega) (by omega)
        refine B_X10_take_115 (c_X10_bins (fun r hr => B_X10_take_119 ?_))
        rw [hr, e6]
        exact h1 hok _ (act_St hS hXA (u.kp kp0) (rTk_ok hS hok))
      refine B_X10_take_107 ⟨fun z => fin M4 ?_, fun z => ?_⟩
      · unfold rTk; rw [if_neg z]; exact hma'
      · refine c_X10_dropsBin hma'.2.2.2.2.1 hR' (by rw [rMv_n (by omega) (by omega)]; omega) (fun M5 u1 u2 u3 => fin M5 ?_)
        unfold rTk; rw [if_pos z]; exact hma'.row u1 u2 u3
    · rw [if_neg a2] at hy
      subst hy
      exact B_X10_take_30 ⟨fun _ => no (fun z => a2 (by have := z.2.1; omega)), fun z => (z rfl).elim⟩
  · rw [if_neg a1] at hx
    subst hx
    exact B_X10_take_16 ⟨fun _ => no (fun z => a1 (by have := z.1; omega)), fun z => (z rfl).elim⟩
