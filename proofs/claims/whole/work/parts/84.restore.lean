/-! restore, undo -/
theorem xa_restore {d k : Nat} {M : mM} {Q : mRes → mM → Prop} (hk : M 0 3 = 0 ∨ M 0 3 = 1) (h0 : M 0 3 = 0 → Q (.inl (some (mI 0))) M) (h1 : M 0 3 = 1 → ∀ M1, (∀ n, ¬ (16 ≤ n ∧ n ≤ 21) → M1 n = M n) → M1 16 2 = M 22 2 → M1 16 3 = M 22 3 → (∀ i : Nat, i < 14 → M1 17 i = M 23 i) → (∀ i : Nat, i < 3 → M1 18 i = M 24 i) → (∀ i : Nat, i < 560 → M1 19 i = M 25 i) → (∀ i : Nat, i < 8 → M1 20 i = M 26 i ∧ M1 21 i = M 27 i) → Q (.inl (some (mI 1))) M1) : V (d + 3) k qX9_restore 0 [mR 17 15 0] [] M Q := by
  refine B_X9_restore_0 ⟨fun e => B_X9_restore_18 ⟨by omega, by rw [e]; exact h0 e⟩, fun e => B_X7_becomeLike_0 (Or.inl rfl) (Or.inr rfl) ?_⟩
  have e1 : M 0 3 = 1 := by omega
  have cp : ∀ {M : mM} {a b cnt : Int} {i : Nat}, (i : Int) < cnt → mCp M a 0 b 0 cnt b i = M a i := fun h => by
    rw [cp_in (by omega)]; congr 1; omega
  have Bk := B_X9_restore_18 (d := d + 2) (k := k) (M := mCp (mCp (mCp (mCp (mCp (mUp (mUp M 16 2 (M 22 2)) 16 3 ((mUp M 16 2 (M 22 2)) 22 3)) (22 + 1) 0 (16 + 1) 0 14) (22 + 2) 0 (16 + 2) 0 3) (22 + 3) 0 (16 + 3) 0 560) (22 + 4) 0 (16 + 4) 0 8) (22 + 5) 0 (16 + 5) 0 8) (Q := Q)
  have e03 : mCp (mCp (mCp (mCp (mCp (mUp (mUp M 16 2 (M 22 2)) 16 3 ((mUp M 16 2 (M 22 2)) 22 3)) (22 + 1) 0 (16 + 1) 0 14) (22 + 2) 0 (16 + 2) 0 3) (22 + 3) 0 (16 + 3) 0 560) (22 + 4) 0 (16 + 4) 0 8) (22 + 5) 0 (16 + 5) 0 8 0 3 = 1 := by
    rw [cp_row (by decide), cp_row (by decide), cp_row (by decide), cp_row (by decide), cp_row (by decide), up_row (by decide), up_row (by decide)]; exact e1
  rw [e03] at Bk
  refine Bk ⟨by omega, h1 e1 _ (fun n a => ?_) ?_ ?_ (fun i hi => ?_) (fun i hi => ?_) (fun i hi => ?_) (fun i hi => ⟨?_, ?_⟩)⟩
  · rw [cp_row (by omega), cp_row (by omega), cp_row (by omega), cp_row (by omega), cp_row (by omega), up_row (by omega), up_row (by omega)]
  · rw [cp_row (by decide), cp_row (by decide), cp_row (by decide), cp_row (by decide), cp_row (by decide), up_fld (by decide), up_s]
  · rw [cp_row (by decide), cp_row (by decide), cp_row (by decide), cp_row (by decide), cp_row (by decide), up_s, up_row (by decide)]
  · rw [cp_row (by decide), cp_row (by decide), cp_row (by decide), cp_row (by decide), show (17 : Int) = 16 + 1 by decide, cp (by omega), up_row (by decide), up_row (by decide)]; rfl
  · rw [cp_row (by decide), cp_row (by decide), cp_row (by decide), show (18 : Int) = 16 + 2 by decide, cp (by omega), cp_row (by decide), up_row (by decide), up_row (by decide)]; rfl
  · rw [cp_row (by decide), cp_row (by decide), show (19 : Int) = 16 + 3 by decide, cp (by omega), cp_row (by decide), cp_row (by decide), up_row (by decide), up_row (by decide)]; rfl
  · rw [cp_row (by decide), show (20 : Int) = 16 + 4 by decide, cp (by omega), cp_row (by decide), cp_row (by decide), cp_row (by decide), up_row (by decide), up_row (by decide)]; rfl
  · rw [show (21 : Int) = 16 + 5 by decide, cp (by omega), cp_row (by decide), cp_row (by decide), cp_row (by decide), cp_row (by decide), up_row (by decide), up_row (by decide)]; rfl
theorem ma_restore0 {d k : Nat} {c : Int} {K : Nat} {N : Int} {M : mM} {Q : mRes → mM → Prop} (hS : St c K N M) (h : M 0 3 = 0) (hQ : ∀ M2, St c K N M2 → Q (.inl (some (mI 0))) M2) : V (d + 3) k qX10_restore 0 [mR 18 58 112, mE 0] [] M Q := by
  have e : M 112 14 = 0 := by rw [← hS.2.2.1.1]; exact h
  exact B_X10_restore_0 ⟨fun z => (z e).elim, fun _ => hQ _ hS.m0⟩
theorem ma_restore1 {d k : Nat} {c : Int} {K : Nat} {N : Int} {M M1 : mM} {Q : mRes → mM → Prop} (hS : St c K N M) (h03 : M 0 3 = 1) (x0 : ∀ n, ¬ (16 ≤ n ∧ n ≤ 21) → M1 n = M n) (x3 : M1 16 2 = M 22 2) (x4 : M1 16 3 = M 22 3) (x5 : ∀ i : Nat, i < 14 → M1 17 i = M 23 i) (x6 : ∀ i : Nat, i < 3 → M1 18 i = M 24 i) (x7 : ∀ i : Nat, i < 560 → M1 19 i = M 25 i) (x8 : ∀ i : Nat, i < 8 → M1 20 i = M 26 i ∧ M1 21 i = M 27 i) (hQ : ∀ M2, St c K N M2 → Q (.inl (some (mI 1))) M2) : V (d + 3) k qX10_restore 0 [mR 18 58 112, mE 0] [] M1 Q := by
  have hK6 := hS.1.2.1
  have h14 : M 112 14 = 1 := by rw [← hS.2.2.1.1]; exact h03
  have e112 : M1 112 = M 112 := x0 112 (by omega)
  have Bk := B_X10_restore_0 (d := d + 2) (k := k) (M := M1) (Q := Q)
  rw [e112, h14] at Bk
  refine Bk ⟨fun _ => c_X10_copies (n := 80) (by omega) (by omega) (by omega) (fun M3 p1 p2 => B_X10_restore_24 (c_X10_copies (n := 3200) (by omega) (by omega) (by omega) (fun M4 p3 p4 => B_X10_restore_36 ?_))), fun z => by omega⟩
  generalize hM5 : mUp (mUp (mUp M4 112 8 (M4 112 11)) 112 9 (M4 112 12)) 112 10 (M4 112 13) = M5
  have f4 : ∀ i : Int, i ≠ 5 → M4 112 i = M 112 i := fun i hi => by rw [p3 112 (by simp), p1 112 (by simp), up_fld hi, e112]
  have f5 : ∀ i : Int, i ≠ 5 → i ≠ 8 → i ≠ 9 → i ≠ 10 → M5 112 i = M 112 i := fun i a b e f => by rw [← hM5, up_fld f, up_fld e, up_fld b]; exact f4 i a
  have f8 : M5 112 8 = M 112 11 := by rw [← hM5, up_fld (by decide), up_fld (by decide), up_s]; exact f4 11 (by decide)
  have f9' : M5 112 9 = M 112 12 := by rw [← hM5, up_fld (by decide), up_s]; exact f4 12 (by decide)
  have f10 : M5 112 10 = M 112 13 := by rw [← hM5, up_s]; exact f4 13 (by decide)
  have r5 : ∀ n : Int, n ≠ 112 → n ≠ 113 → M5 n = M1 n := fun n a b => by rw [← hM5, up_row a, up_row a, up_row a, p3 n (by simp; omega), p1 n (by simp; omega), up_row a]
  have g113 : ∀ i : Int, M5 113 i = if 80 ≤ i ∧ i < 3280 then M 113 (3360 + (i - 80)) else if 0 ≤ i ∧ i < 80 then M 113 (3280 + i) else M 113 i := fun i => by
    have e0 : mUp M1 112 5 0 113 = M 113 := by rw [up_row (by decide), x0 113 (by omega)]
    rw [← hM5, up_row (by decide), up_row (by decide), up_row (by decide), p4 i]
    by_cases a : 80 ≤ i ∧ i < 80 + ((3200 : Nat) : Int)
    · rw [if_pos a, if_pos (by omega), p2, if_neg (by omega), e0]
    · rw [if_neg a, if_neg (by omega), p2, e0]
      by_cases b : 0 ≤ i ∧ i < 0 + ((80 : Nat) : Int)
      · rw [if_pos b, if_pos (by omega)]; congr 1; omega
      · rw [if_neg b, if_neg (by omega)]
  have fin : ∀ M6 : mM, (∀ n, n ≠ 115 → n ≠ 116 → n ≠ 117 → M6 n = M5 n) → (∀ i : Int, M6 115 i = if 0 ≤ i ∧ i < 8 then M 115 (8 + i) else M 115 i) → (∀ i : Int, M6 116 i = if 0 ≤ i ∧ i < 8 then M 116 (8 + i) else M 116 i) → (∀ i : Int, M6 117 i = if 0 ≤ i ∧ i < 3 then M 117 (3 + i) else M 117 i) → Q (.inl (some (mI 1))) M6 := by
    intro M7 u1 u2 u3 u4
    apply hQ
    have w112 : ∀ i : Int, M7 112 i = M5 112 i := fun i => by rw [u1 112 (by decide) (by decide) (by decide)]
    have wn : ∀ n : Int, n ≠ 112 → n ≠ 113 → n ≠ 115 → n ≠ 116 → n ≠ 117 → M7 n = M1 n := fun n a b e f g => by rw [u1 n e f g, r5 n a b]
    have w113 : ∀ i : Int, M7 113 i = M5 113 i := fun i => by rw [u1 113 (by decide) (by decide) (by decide)]
    have wo : ∀ n : Int, n ≠ 112 → n ≠ 113 → n ≠ 115 → n ≠ 116 → n ≠ 117 → ¬ (16 ≤ n ∧ n ≤ 21) → M7 n = M n := fun n b e f g h i => by rw [wn n b e f g h]; exact x0 n i
    have e9 : M7 9 = M 9 := wo 9 (by decide) (by decide) (by decide) (by decide) (by decide) (by omega)
    have g112 : ∀ i : Int, i ≠ 5 → i ≠ 8 → i ≠ 9 → i ≠ 10 → M7 112 i = M 112 i := fun i a b e f => by rw [w112 i]; exact f5 i a b e f
    obtain ⟨h1, h2, h3, h4, h5⟩ := hS
    have him : imgR c K (M 9) M 22 3280 3360 8 3 (M 112 11) (M 112 12) (M 112 13) N := by
      rcases h3.2 with z | z
      · omega
      · exact z.2
    refine ⟨?_, ?_, ⟨?_, Or.inr ⟨?_, ?_⟩⟩, ?_, ?_⟩
    · unfold lotR
      rw [wo 8 (by decide) (by decide) (by decide) (by decide) (by decide) (by omega), g112 6 (by decide) (by decide) (by decide) (by decide), g112 7 (by decide) (by decide) (by decide) (by decide), e9, wo 114 (by decide) (by decide) (by decide) (by decide) (by decide) (by omega), wo 11 (by decide) (by decide) (by decide) (by decide) (by decide) (by omega)]; exact h1
    · rw [e9, w112 8, w112 9, w112 10, f8, f9', f10]
      have q := fun n (a : 16 ≤ n ∧ n ≤ 21) => wn n (by omega) (by omega) (by omega) (by omega) (by omega)
      refine imgR.mv hK6 him (by rw [q 16 (by omega)]; exact x3) (by rw [q 16 (by omega)]; exact x4) (fun i hi => by rw [q (16 + 1) (by omega)]; exact x5 i hi) (fun i hi => by rw [q (16 + 2) (by omega)]; exact x6 i hi) (fun i hi => by rw [q (16 + 3) (by omega)]; exact x7 i hi) (fun i hi => by rw [q (16 + 4) (by omega), q (16 + 5) (by omega)]; exact x8 i hi) (fun i a b => ?_) (fun i a b => ?_) (fun i a b => ?_) (fun i a b => ?_)
      · rw [w113, g113, if_neg (by omega), if_pos (by omega)]; congr 1; omega
      · rw [w113, g113, if_pos (by omega)]; congr 1; omega
      · rw [u2, u3, if_pos (by omega), if_pos (by omega)]
        exact ⟨by congr 1; omega, by congr 1; omega⟩
      · rw [u4, if_pos (by omega)]; congr 1; omega
    · rw [wo 0 (by decide) (by decide) (by decide) (by decide) (by decide) (by omega), g112 14 (by decide) (by decide) (by decide) (by decide)]; exact h3.1
    · rw [wo 0 (by decide) (by decide) (by decide) (by decide) (by decide) (by omega)]; exact h03
    · rw [e9, g112 11 (by decide) (by decide) (by decide) (by decide), g112 12 (by decide) (by decide) (by decide) (by decide), g112 13 (by decide) (by decide) (by decide) (by decide)]
      have q := fun n (a : 22 ≤ n ∧ n ≤ 27) => wo n (by omega) (by omega) (by omega) (by omega) (by omega) (by omega)
      refine imgR.mv hK6 him (by rw [q 22 (by omega)]) (by rw [q 22 (by omega)]) (fun i _ => by rw [q (22 + 1) (by omega)]) (fun i _ => by rw [q (22 + 2) (by omega)]) (fun i _ => by rw [q (22 + 3) (by omega)]) (fun i _ => by rw [q (22 + 4) (by omega), q (22 + 5) (by omega)]; exact ⟨rfl, rfl⟩) (fun i a b => by rw [w113, g113, if_neg (by omega), if_neg (by omega)]) (fun i a b => by rw [w113, g113, if_neg (by omega), if_neg (by omega)]) (fun i a b => by rw [u2, u3, if_neg (by omega), if_neg (by omega)]; exact ⟨rfl, rfl⟩) (fun i a b => by rw [u4, if_neg (by omega)])
    · rw [wo 0 (by decide) (by decide) (by decide) (by decide) (by decide) (by omega), g112 16 (by decide) (by decide) (by decide) (by decide), wo 118 (by decide) (by decide) (by decide) (by decide) (by decide) (by omega), wo 1 (by decide) (by decide) (by decide) (by decide) (by decide) (by omega)]; exact h4
    · rw [wo 0 (by decide) (by decide) (by decide) (by decide) (by decide) (by omega), g112 17 (by decide) (by decide) (by decide) (by decide)]; exact h5
  have l117 : ∀ (r j : Nat) (M6 : mM), j + r = 3 → (∀ n, n ≠ 115 → n ≠ 116 → n ≠ 117 → M6 n = M5 n) → (∀ i : Int, M6 115 i = if 0 ≤ i ∧ i < 8 then M 115 (8 + i) else M 115 i) → (∀ i : Int, M6 116 i = if 0 ≤ i ∧ i < 8 then M 116 (8 + i) else M 116 i) → (∀ i : Int, M6 117 i = if 0 ≤ i ∧ i < j then M 117 (3 + i) else M 117 i) → V (d + 3) k qX10_restore 106 [mR 18 58 112, mI j] [] M6 Q := by
    intro r
    induction r with
    | zero =>
      intro j M6 hj u1 u2 u3 u4
      have e : j = 3 := by omega
      subst e
      exact B_X10_restore_106 ⟨fun _ => fin M6 u1 u2 u3 u4, fun z => by omega⟩
    | succ r ih =>
      intro j M6 hj u1 u2 u3 u4
      refine B_X10_restore_106 ⟨fun z => by omega, fun _ => ⟨by omega, by omega, by omega, by omega, ih (j + 1) _ (by omega) (fun n a b e => by rw [up_row e]; exact u1 n a b e) (fun i => by rw [up_row (by decide)]; exact u2 i) (fun i => by rw [up_row (by decide)]; exact u3 i) (fun i => ?_)⟩⟩
      by_cases e : i = j
      · rw [e, up_s, u4 (3 + j), if_neg (by omega), if_pos (by omega)]
      · rw [up_fld e, u4 i]
        by_cases h : 0 ≤ i ∧ i < j
        · rw [if_pos h, if_pos (by omega)]
        · rw [if_neg h, if_neg (by omega)]
  have l115 : ∀ (r j : Nat) (M6 : mM), j + r = 8 → (∀ n, n ≠ 115 → n ≠ 116 → M6 n = M5 n) → (∀ i : Int, M6 115 i = if 0 ≤ i ∧ i < j then M 115 (8 + i) else M 115 i) → (∀ i : Int, M6 116 i = if 0 ≤ i ∧ i < j then M 116 (8 + i) else M 116 i) → V (d + 3) k qX10_restore 62 [mR 18 58 112, mI j] [] M6 Q := by
    intro r
    induction r with
    | zero =>
      intro j M6 hj u1 u2 u3
      have e : j = 8 := by omega
      subst e
      refine B_X10_restore_62 ⟨fun _ => l117 3 0 M6 (by omega) (fun n a b _ => u1 n a b) u2 u3 (fun i => ?_), fun z => by omega⟩
      rw [u1 117 (by decide) (by decide), r5 117 (by decide) (by decide), x0 117 (by omega), if_neg (by omega)]
    | succ r ih =>
      intro j M6 hj u1 u2 u3
      refine B_X10_restore_62 ⟨fun z => by omega, fun _ => ⟨by omega, by omega, by omega, by omega, by omega, by omega, by omega, ih (j + 1) _ (by omega) (fun n a b => by rw [up_row b, up_row a]; exact u1 n a b) (fun i => ?_) (fun i => ?_)⟩⟩
      · rw [up_row (by decide)]
        by_cases e : i = j
        · rw [e, up_s, u2 (8 + j), if_neg (by omega), if_pos (by omega)]
        · rw [up_fld e, u2 i]
          by_cases h : 0 ≤ i ∧ i < j
          · rw [if_pos h, if_pos (by omega)]
          · rw [if_neg h, if_neg (by omega)]
      · by_cases e : i = j
        · rw [e, up_s, u3 (8 + j), if_neg (by omega), if_pos (by omega)]
        · rw [up_fld e, up_row (by decide), u3 i]
          by_cases h : 0 ≤ i ∧ i < j
          · rw [if_pos h, if_pos (by omega)]
          · rw [if_neg h, if_neg (by omega)]
  exact l115 8 0 M5 (by omega) (fun _ _ _ => rfl) (fun i => by rw [r5 115 (by decide) (by decide), x0 115 (by omega), if_neg (by omega)]) (fun i => by rw [r5 116 (by decide) (by decide), x0 116 (by omega), if_neg (by omega)])
/-! undo -/
def unX (M : mM) : mM := mCp (mUp M 16 2 (M 16 2 - 1)) (16 + 3) ((M 16 2 - 1) * 14) (16 + 1) 0 14
theorem xa_undo {d k : Nat} {c : Int} {K : Nat} {N : Int} {M : mM} {Q : mRes → mM → Prop} (hS : St c K N M) (h0 : M 112 8 = 0 → Q (.inl (some (mI (-1)))) M) (h1 : M 112 8 ≠ 0 → Q (.inl (some (mI (M 112 8 - 1)))) (unX M)) : V (d + 3) k qX9_undo 0 [mR 17 15 0] [] M Q := by
  have hA := hS.A
  refine B_X9_undo_0 (B_X7_goBack_0 (Or.inl rfl) ⟨fun e => B_X9_undo_7 ⟨fun _ => h0 (by omega), fun z => (z rfl).elim⟩, fun e => ⟨fun e2 => ⟨by omega, by omega, by omega, by omega, by omega, B_X9_undo_7 ⟨fun z => by omega, fun _ => ?_⟩⟩, fun e2 => by omega⟩⟩)
  have := h1 (by omega)
  have e3 : unX M 16 2 = M 112 8 - 1 := by unfold unX; rw [cp_row (by decide), up_s]; omega
  show Q (.inl (some (mI (unX M 16 2)))) (unX M)
  rw [e3]; exact this
theorem ma_undo0 {d k : Nat} {c : Int} {K : Nat} {N : Int} {M : mM} {Q : mRes → mM → Prop} (hS : St c K N M) (h : M 112 8 = 0) (hQ : ∀ M2, St c K N M2 → Q (.inl (some (mI (-1)))) M2) : V (d + 3) k qX10_undo 0 [mR 18 58 112] [] M Q := B_X10_undo_0 ⟨fun z => (z h).elim, fun _ => hQ _ hS.m0⟩
theorem ma_undo1 {d k : Nat} {c : Int} {K : Nat} {N : Int} {M : mM} {Q : mRes → mM → Prop} (hS : St c K N M) (h : M 112 8 ≠ 0) (hQ : ∀ M2, St c K N M2 → Q (.inl (some (mI (M 112 8 - 1)))) M2) : V (d + 3) k qX10_undo 0 [mR 18 58 112] [] (unX M) Q := by
  have hA := hS.A
  have hK6 := hS.1.2.1
  have hx : ∀ n : Int, n ≠ 16 → n ≠ 17 → unX M n = M n := fun n a b => by unfold unX; rw [cp_row (by omega), up_row a]
  have e112 : unX M 112 = M 112 := hx 112 (by decide) (by decide)
  have Bk := B_X10_undo_0 (d := d + 2) (k := k) (M := unX M) (Q := Q)
  rw [e112] at Bk
  refine Bk ⟨fun _ => ⟨by omega, B_X10_keptAt_0 ⟨by omega, by omega, by omega, by omega, B_X10_undo_36 (c_X10_copies (n := 80) (by omega) (by omega) (by omega) (fun M3 p1 p2 => ?_))⟩⟩, fun z => (h z).elim⟩
  have f8 : M3 112 8 = M 112 8 - 1 := by rw [p1 112 (by simp), up_s]
  have Bk := B_X10_undo_42 (d := d + 2) (k := k) (M := M3) (Q := Q)
  rw [f8] at Bk
  refine Bk (hQ _ ?_)
  have f112 : ∀ i : Int, i ≠ 5 → i ≠ 8 → M3 112 i = M 112 i := fun i a b => by rw [p1 112 (by simp), up_fld b, up_fld a, e112]
  have e113 : mUp (mUp (unX M) 112 5 0) 112 8 (M 112 8 - 1) 113 = M 113 := by rw [up_row (by decide), up_row (by decide), hx 113 (by decide) (by decide)]
  have wn : ∀ n : Int, n ≠ 112 → n ≠ 113 → n ≠ 16 → n ≠ 17 → M3 n = M n := fun n a b e f => by rw [p1 n (by simp; omega), up_row a, up_row a]; exact hx n e f
  have g113 : ∀ i : Int, M3 113 i = if 0 ≤ i ∧ i < 80 then M 113 (80 + 80 * ((M 112 9 + (M 112 8 - 1)) % 40) + i) else M 113 i := fun i => by
    rw [p2 i, e113]
    by_cases a : 0 ≤ i ∧ i < 0 + ((80 : Nat) : Int)
    · rw [if_pos a, if_pos (by omega)]; congr 1; omega
    · rw [if_neg a, if_neg (by omega)]
  have w16 : M3 16 = mUp M 16 2 (M 16 2 - 1) 16 := by rw [p1 16 (by simp), up_row (by decide), up_row (by decide)]; unfold unX; rw [cp_row (by decide)]
  have w17 : ∀ i : Nat, i < 14 → M3 17 i = M 19 (14 * (M 112 8 - 1) + i) := fun i hi => by
    rw [p1 17 (by simp), up_row (by decide), up_row (by decide)]; unfold unX
    rw [show (17 : Int) = 16 + 1 by decide, cp_in (by omega), up_row (by decide), hA.1]
    show M 19 _ = M 19 _
    congr 1; omega
  have e9 := wn 9 (by decide) (by decide) (by decide) (by decide)
  obtain ⟨h1, ⟨⟨i1, i2, i3, i4, i5⟩, i6, i7, i8, i9⟩, h3, h4, h5⟩ := hS
  obtain ⟨k', hk'⟩ : ∃ k' : Nat, M 112 8 - 1 = k' := ⟨(M 112 8 - 1).toNat, by omega⟩
  obtain ⟨o1, o2⟩ := i7 k' (by omega)
  rw [hk'] at g113 w17 f8
  have gr : ∀ i : Int, 0 ≤ i → i < 80 → M3 113 (0 + i) = M 113 (80 + 80 * ((M 112 9 + (k' : Int)) % 40) + i) := fun i a b => by rw [Int.zero_add, g113, if_pos ⟨a, b⟩]
  have hi8 : ∀ i : Int, 80 ≤ i → M3 113 i = M 113 i := fun i a => by rw [g113, if_neg (by omega)]
  refine ⟨?_, ⟨⟨by rw [w16, up_s, f8]; omega, by rw [w16, up_fld (by decide), f112 10 (by decide) (by decide)]; exact i2, by rw [f8]; omega, by rw [f112 9 (by decide) (by decide)]; exact i4, by rw [f112 10 (by decide) (by decide)]; exact i5⟩, ⟨⟨?_, ?_, fun b hb => ?_⟩, ?_⟩, fun k hk => ?_, ?_, ?_⟩, ?_, ?_, ?_⟩
  · unfold lotR
    rw [wn 8 (by decide) (by decide) (by decide) (by decide), f112 6 (by decide) (by decide), f112 7 (by decide) (by decide), e9, wn 114 (by decide) (by decide) (by decide) (by decide), wn 11 (by decide) (by decide) (by decide) (by decide)]; exact h1
  · rw [Int.zero_add]
    exact (w17 12 (by omega)).trans (o1.1.trans (pkL_congr (fun s hs => (gr s (by omega) (by omega)).symm)))
  · rw [Int.zero_add]
    exact (w17 13 (by omega)).trans (o1.2.1.trans (gr 6 (by omega) (by omega)).symm)
  · rw [Int.zero_add]
    exact (w17 b (by omega)).trans ((o1.2.2 b hb).trans (pkL_congr (fun s hs => (gr (7 + 6 * b + s) (by omega) (by omega)).symm)))
  · rw [e9]; exact rEq_ok hK6 (fun i a b => gr i a (by omega)) o2
  · rw [f8] at hk
    obtain ⟨q1, q2⟩ := i7 k (by omega)
    rw [e9, f112 9 (by decide) (by decide)]
    have gk : ∀ i : Int, 0 ≤ i → M3 113 (80 + 80 * ((M 112 9 + (k : Int)) % 40) + i) = M 113 (80 + 80 * ((M 112 9 + (k : Int)) % 40) + i) := fun i a => hi8 _ (by omega)
    have w19 : M3 (16 + 3) = M 19 := wn 19 (by decide) (by decide) (by decide) (by decide)
    refine ⟨⟨?_, ?_, fun b hb => ?_⟩, rEq_ok hK6 (fun i a b => gk i a) q2⟩
    · rw [w19]; exact q1.1.trans (pkL_congr (fun s hs => (gk s (by omega)).symm))
    · rw [w19]; exact q1.2.1.trans (gk 6 (by omega)).symm
    · rw [w19]; exact (q1.2.2 b hb).trans (pkL_congr (fun s hs => (gk (7 + 6 * b + s) (by omega)).symm))
  · rw [f112 10 (by decide) (by decide), wn (16 + 4) (by decide) (by decide) (by decide) (by decide), wn (16 + 5) (by decide) (by decide) (by decide) (by decide), wn 115 (by decide) (by decide) (by decide) (by decide), wn 116 (by decide) (by decide) (by decide) (by decide)]; exact i8
  · rw [wn (16 + 2) (by decide) (by decide) (by decide) (by decide), wn 117 (by decide) (by decide) (by decide) (by decide)]; exact i9
  · rw [wn 0 (by decide) (by decide) (by decide) (by decide), f112 14 (by decide) (by decide), e9, f112 11 (by decide) (by decide), f112 12 (by decide) (by decide), f112 13 (by decide) (by decide)]
    refine ⟨h3.1, h3.2.imp (fun z => z) (fun z => ⟨z.1, ?_⟩)⟩
    have q := fun n (a : 22 ≤ n ∧ n ≤ 27) => wn n (by omega) (by omega) (by omega) (by omega)
    refine imgR.mv hK6 z.2 (by rw [q 22 (by omega)]) (by rw [q 22 (by omega)]) (fun i _ => by rw [q (22 + 1) (by omega)]) (fun i _ => by rw [q (22 + 2) (by omega)]) (fun i _ => by rw [q (22 + 3) (by omega)]) (fun i _ => by rw [q (22 + 4) (by omega), q (22 + 5) (by omega)]; exact ⟨rfl, rfl⟩) (fun i a b => hi8 _ (by omega)) (fun i a b => hi8 _ (by omega)) (fun i a b => by rw [wn 115 (by decide) (by decide) (by decide) (by decide), wn 116 (by decide) (by decide) (by decide) (by decide)]; exact ⟨rfl, rfl⟩) (fun i a b => by rw [wn 117 (by decide) (by decide) (by decide) (by decide)])
  · rw [wn 0 (by decide) (by decide) (by decide) (by decide), f112 16 (by decide) (by decide), wn 118 (by decide) (by decide) (by decide) (by decide), wn 1 (by decide) (by decide) (by decide) (by decide)]; exact h4
  · rw [wn 0 (by decide) (by decide) (by decide) (by decide), f112 17 (by decide) (by decide)]; exact h5
