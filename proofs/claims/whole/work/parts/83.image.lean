/-! image, restore, undo -/
theorem imgR.mv {c : Int} {K : Nat} {sz : Int → Int} {M M' : mM} {n n' ro ro' kb kb' no no' fo fo' A F nn N : Int} (hK : K ≤ 6) (h : imgR c K sz M n ro kb no fo A F nn N) (e2 : M' n' 2 = M n 2) (e3 : M' n' 3 = M n 3) (f1 : ∀ i : Nat, i < 14 → M' (n' + 1) i = M (n + 1) i) (f2 : ∀ i : Nat, i < 3 → M' (n' + 2) i = M (n + 2) i) (f3 : ∀ i : Nat, i < 560 → M' (n' + 3) i = M (n + 3) i) (f4 : ∀ i : Nat, i < 8 → M' (n' + 4) i = M (n + 4) i ∧ M' (n' + 5) i = M (n + 5) i) (g1 : ∀ i : Int, 0 ≤ i → i < 80 → M' 113 (ro' + i) = M 113 (ro + i)) (g2 : ∀ i : Int, 0 ≤ i → i < 3200 → M' 113 (kb' + i) = M 113 (kb + i)) (g3 : ∀ i : Int, 0 ≤ i → i < 8 → M' 115 (no' + i) = M 115 (no + i) ∧ M' 116 (no' + i) = M 116 (no + i)) (g4 : ∀ i : Int, 0 ≤ i → i < 3 → M' 117 (fo' + i) = M 117 (fo + i)) : imgR c K sz M' n' ro' kb' no' fo' A F nn N := by
  obtain ⟨⟨i1, i2, i3, i4, i5⟩, ⟨a1, a2⟩, i7, i8, i9⟩ := h
  refine ⟨⟨by rw [e2]; exact i1, by rw [e3]; exact i2, i3, i4, i5⟩, ⟨⟨?_, ?_, fun b hb => ?_⟩, ?_⟩, fun k hk => ?_, fun i hi => ?_, fun i hi => ?_⟩
  · have := f1 12 (by omega)
    have h2 := a1.1
    rw [Int.zero_add] at h2 ⊢
    exact this.trans (h2.trans (pkL_congr (fun s hs => (g1 s (by omega) (by omega)).symm)))
  · have := f1 13 (by omega)
    have h2 := a1.2.1
    rw [Int.zero_add] at h2 ⊢
    exact this.trans (h2.trans (g1 6 (by omega) (by omega)).symm)
  · have h2 := a1.2.2 b hb
    rw [Int.zero_add] at h2 ⊢
    rw [f1 b (by omega), h2]
    exact pkL_congr (fun s hs => (g1 (7 + 6 * b + s) (by omega) (by omega)).symm)
  · exact rEq_ok hK (fun i a b => g1 i a (by omega)) a2
  · obtain ⟨o1, o2⟩ := i7 k hk
    have gk : ∀ i : Int, 0 ≤ i → i < 80 → M' 113 (kb' + 80 * ((F + k) % 40) + i) = M 113 (kb + 80 * ((F + k) % 40) + i) := fun i a b => by
      have := g2 (80 * ((F + k) % 40) + i) (by omega) (by omega)
      rw [← Int.add_assoc, ← Int.add_assoc] at this
      exact this
    have fk : ∀ i : Nat, i < 14 → M' (n' + 3) (14 * (k : Int) + i) = M (n + 3) (14 * (k : Int) + i) := fun i hi => by
      have := f3 (14 * k + i) (by omega)
      rw [show ((14 * k + i : Nat) : Int) = 14 * (k : Int) + i by omega] at this
      exact this
    refine ⟨⟨(fk 12 (by omega)).trans (o1.1.trans (pkL_congr (fun s hs => (gk s (by omega) (by omega)).symm))), (fk 13 (by omega)).trans (o1.2.1.trans (gk 6 (by omega) (by omega)).symm), fun b hb => (fk b (by omega)).trans ((o1.2.2 b hb).trans (pkL_congr (fun s hs => (gk (7 + 6 * b + s) (by omega) (by omega)).symm)))⟩, rEq_ok hK (fun i a b => gk i a (by omega)) o2⟩
  · have := i8 i hi
    rw [(f4 i (by omega)).1, (f4 i (by omega)).2, (g3 i (by omega) (by omega)).1, (g3 i (by omega) (by omega)).2]; exact this
  · have := i9 i hi
    rw [f2 i hi, g4 i (by omega) (by omega)]; exact this
theorem xa_image {d k : Nat} {M : mM} {Q : mRes → mM → Prop} (hQ : ∀ M1, (∀ n, n ≠ 0 → ¬ (22 ≤ n ∧ n ≤ 27) → M1 n = M n) → (∀ i : Int, i ≠ 3 → M1 0 i = M 0 i) → M1 0 3 = 1 → M1 22 2 = M 16 2 → M1 22 3 = M 16 3 → (∀ i : Nat, i < 14 → M1 23 i = M 17 i) → (∀ i : Nat, i < 3 → M1 24 i = M 18 i) → (∀ i : Nat, i < 560 → M1 25 i = M 19 i) → (∀ i : Nat, i < 8 → M1 26 i = M 20 i ∧ M1 27 i = M 21 i) → Q (.inl none) M1) : V (d + 3) k qX9_image 0 [mR 17 15 0] [] M Q := by
  refine B_X9_image_0 (B_X7_becomeLike_0 (Or.inr rfl) (Or.inl rfl) (B_X9_image_11 ?_))
  have cp : ∀ {M : mM} {a b cnt : Int} {i : Nat}, (i : Int) < cnt → mCp M a 0 b 0 cnt b i = M a i := fun h => by
    rw [cp_in (by omega)]; congr 1; omega
  refine hQ _ (fun n a b => ?_) (fun i hi => ?_) up_s ?_ ?_ (fun i hi => ?_) (fun i hi => ?_) (fun i hi => ?_) (fun i hi => ⟨?_, ?_⟩)
  · rw [up_row a, cp_row (by omega), cp_row (by omega), cp_row (by omega), cp_row (by omega), cp_row (by omega), up_row (by omega), up_row (by omega)]
  · rw [up_fld hi, cp_row (by decide), cp_row (by decide), cp_row (by decide), cp_row (by decide), cp_row (by decide), up_row (by decide), up_row (by decide)]
  · rw [up_row (by decide), cp_row (by decide), cp_row (by decide), cp_row (by decide), cp_row (by decide), cp_row (by decide), up_fld (by decide), up_s]
  · rw [up_row (by decide), cp_row (by decide), cp_row (by decide), cp_row (by decide), cp_row (by decide), cp_row (by decide), up_s, up_row (by decide)]
  · rw [up_row (by decide), cp_row (by decide), cp_row (by decide), cp_row (by decide), cp_row (by decide), show (23 : Int) = 22 + 1 by decide, cp (by omega), up_row (by decide), up_row (by decide)]; rfl
  · rw [up_row (by decide), cp_row (by decide), cp_row (by decide), cp_row (by decide), show (24 : Int) = 22 + 2 by decide, cp (by omega), cp_row (by decide), up_row (by decide), up_row (by decide)]; rfl
  · rw [up_row (by decide), cp_row (by decide), cp_row (by decide), show (25 : Int) = 22 + 3 by decide, cp (by omega), cp_row (by decide), cp_row (by decide), up_row (by decide), up_row (by decide)]; rfl
  · rw [up_row (by decide), cp_row (by decide), show (26 : Int) = 22 + 4 by decide, cp (by omega), cp_row (by decide), cp_row (by decide), cp_row (by decide), up_row (by decide), up_row (by decide)]; rfl
  · rw [up_row (by decide), show (27 : Int) = 22 + 5 by decide, cp (by omega), cp_row (by decide), cp_row (by decide), cp_row (by decide), cp_row (by decide), up_row (by decide), up_row (by decide)]; rfl
theorem ma_image {d k : Nat} {c : Int} {K : Nat} {N : Int} {M M1 : mM} {Q : mRes → mM → Prop} (hS : St c K N M) (x0 : ∀ n, n ≠ 0 → ¬ (22 ≤ n ∧ n ≤ 27) → M1 n = M n) (x1 : ∀ i : Int, i ≠ 3 → M1 0 i = M 0 i) (x2 : M1 0 3 = 1) (x3 : M1 22 2 = M 16 2) (x4 : M1 22 3 = M 16 3) (x5 : ∀ i : Nat, i < 14 → M1 23 i = M 17 i) (x6 : ∀ i : Nat, i < 3 → M1 24 i = M 18 i) (x7 : ∀ i : Nat, i < 560 → M1 25 i = M 19 i) (x8 : ∀ i : Nat, i < 8 → M1 26 i = M 20 i ∧ M1 27 i = M 21 i) (hQ : ∀ M2, St c K N M2 → Q (.inl none) M2) : V (d + 3) k qX10_image 0 [mR 18 58 112, mE 0] [] M1 Q := by
  have hK6 := hS.1.2.1
  refine B_X10_image_0 (c_X10_copies (n := 80) (by omega) (by omega) (by omega) (fun M3 p1 p2 => B_X10_image_15 (c_X10_copies (n := 3200) (by omega) (by omega) (by omega) (fun M4 p3 p4 => B_X10_image_27 ?_))))
  generalize hM5 : mUp (mUp (mUp M4 112 11 (M4 112 8)) 112 12 (M4 112 9)) 112 13 (M4 112 10) = M5
  have f4 : ∀ i : Int, i ≠ 5 → M4 112 i = M 112 i := fun i hi => by rw [p3 112 (by simp), p1 112 (by simp), up_fld hi, x0 112 (by decide) (by omega)]
  have f5 : ∀ i : Int, i ≠ 5 → i ≠ 11 → i ≠ 12 → i ≠ 13 → M5 112 i = M 112 i := fun i a b e f => by rw [← hM5, up_fld f, up_fld e, up_fld b]; exact f4 i a
  have f11 : M5 112 11 = M 112 8 := by rw [← hM5, up_fld (by decide), up_fld (by decide), up_s]; exact f4 8 (by decide)
  have f12 : M5 112 12 = M 112 9 := by rw [← hM5, up_fld (by decide), up_s]; exact f4 9 (by decide)
  have f13 : M5 112 13 = M 112 10 := by rw [← hM5, up_s]; exact f4 10 (by decide)
  have r5 : ∀ n : Int, n ≠ 112 → n ≠ 113 → M5 n = M1 n := fun n a b => by rw [← hM5, up_row a, up_row a, up_row a, p3 n (by simp; omega), p1 n (by simp; omega), up_row a]
  have g113 : ∀ i : Int, M5 113 i = if 3360 ≤ i ∧ i < 6560 then M 113 (80 + (i - 3360)) else if 3280 ≤ i ∧ i < 3360 then M 113 (i - 3280) else M 113 i := fun i => by
    have e0 : mUp M1 112 5 0 113 = M 113 := by rw [up_row (by decide), x0 113 (by decide) (by omega)]
    rw [← hM5, up_row (by decide), up_row (by decide), up_row (by decide), p4 i]
    by_cases a : 3360 ≤ i ∧ i < 3360 + ((3200 : Nat) : Int)
    · rw [if_pos a, if_pos (by omega), p2, if_neg (by omega), e0]
    · rw [if_neg a, if_neg (by omega), p2, e0]
      by_cases b : 3280 ≤ i ∧ i < 3280 + ((80 : Nat) : Int)
      · rw [if_pos b, if_pos (by omega)]; congr 1; omega
      · rw [if_neg b, if_neg (by omega)]
  -- the end
  have fin : ∀ M6 : mM, (∀ n, n ≠ 115 → n ≠ 116 → n ≠ 117 → M6 n = M5 n) → (∀ i : Int, M6 115 i = if 8 ≤ i ∧ i < 16 then M 115 (i - 8) else M 115 i) → (∀ i : Int, M6 116 i = if 8 ≤ i ∧ i < 16 then M 116 (i - 8) else M 116 i) → (∀ i : Int, M6 117 i = if 3 ≤ i ∧ i < 6 then M 117 (i - 3) else M 117 i) → Q (.inl none) (mUp M6 112 14 1) := by
    intro M6 u1 u2 u3 u4
    apply hQ
    have w112 : ∀ i : Int, i ≠ 14 → mUp M6 112 14 1 112 i = M5 112 i := fun i hi => by rw [up_fld hi, u1 112 (by decide) (by decide) (by decide)]
    have wn : ∀ n : Int, n ≠ 112 → n ≠ 113 → n ≠ 115 → n ≠ 116 → n ≠ 117 → mUp M6 112 14 1 n = M1 n := fun n a b e f g => by rw [up_row a, u1 n e f g, r5 n a b]
    have w113 : ∀ i : Int, mUp M6 112 14 1 113 i = M5 113 i := fun i => by rw [up_row (by decide), u1 113 (by decide) (by decide) (by decide)]
    have w115 : ∀ i : Int, mUp M6 112 14 1 115 i = M6 115 i := fun i => by rw [up_row (by decide)]
    have w116 : ∀ i : Int, mUp M6 112 14 1 116 i = M6 116 i := fun i => by rw [up_row (by decide)]
    have w117 : ∀ i : Int, mUp M6 112 14 1 117 i = M6 117 i := fun i => by rw [up_row (by decide)]
    have w14 : mUp M6 112 14 1 112 14 = 1 := up_s
    generalize mUp M6 112 14 1 = M7 at *
    have wo : ∀ n : Int, n ≠ 0 → n ≠ 112 → n ≠ 113 → n ≠ 115 → n ≠ 116 → n ≠ 117 → ¬ (22 ≤ n ∧ n ≤ 27) → M7 n = M n := fun n a b e f g h i => by rw [wn n b e f g h]; exact x0 n a i
    have e9 : M7 9 = M 9 := wo 9 (by decide) (by decide) (by decide) (by decide) (by decide) (by decide) (by omega)
    have e112 : ∀ i : Int, i ≠ 5 → i ≠ 11 → i ≠ 12 → i ≠ 13 → i ≠ 14 → M7 112 i = M 112 i := fun i a b e f g => by rw [w112 i g]; exact f5 i a b e f
    obtain ⟨h1, h2, h3, h4, h5⟩ := hS
    refine ⟨?_, ?_, ⟨by rw [wn 0 (by decide) (by decide) (by decide) (by decide) (by decide), x2, w14], Or.inr ⟨by rw [wn 0 (by decide) (by decide) (by decide) (by decide) (by decide), x2], ?_⟩⟩, ?_, ?_⟩
    · unfold lotR
      rw [wo 8 (by decide) (by decide) (by decide) (by decide) (by decide) (by decide) (by omega), e112 6 (by decide) (by decide) (by decide) (by decide) (by decide), e112 7 (by decide) (by decide) (by decide) (by decide) (by decide), e9, wo 114 (by decide) (by decide) (by decide) (by decide) (by decide) (by decide) (by omega), wo 11 (by decide) (by decide) (by decide) (by decide) (by decide) (by decide) (by omega)]; exact h1
    · rw [e9, e112 8 (by decide) (by decide) (by decide) (by decide) (by decide), e112 9 (by decide) (by decide) (by decide) (by decide) (by decide), e112 10 (by decide) (by decide) (by decide) (by decide) (by decide)]
      have q := fun n (a : 16 ≤ n ∧ n ≤ 21) => wo n (by omega) (by omega) (by omega) (by omega) (by omega) (by omega) (by omega)
      refine imgR.mv hK6 h2 (by rw [q 16 (by omega)]) (by rw [q 16 (by omega)]) (fun i _ => by rw [q (16 + 1) (by omega)]) (fun i _ => by rw [q (16 + 2) (by omega)]) (fun i _ => by rw [q (16 + 3) (by omega)]) (fun i _ => by rw [q (16 + 4) (by omega), q (16 + 5) (by omega)]; exact ⟨rfl, rfl⟩) (fun i a b => by rw [w113, g113, if_neg (by omega), if_neg (by omega)]) (fun i a b => by rw [w113, g113, if_neg (by omega), if_neg (by omega)]) (fun i a b => by rw [w115, w116, u2, u3, if_neg (by omega), if_neg (by omega)]; exact ⟨rfl, rfl⟩) (fun i a b => by rw [w117, u4, if_neg (by omega)])
    · rw [e9, w112 11 (by decide), w112 12 (by decide), w112 13 (by decide), f11, f12, f13]
      have q := fun n (a : 22 ≤ n ∧ n ≤ 27) => wn n (by omega) (by omega) (by omega) (by omega) (by omega)
      refine imgR.mv hK6 h2 (by rw [q 22 (by omega)]; exact x3) (by rw [q 22 (by omega)]; exact x4) (fun i hi => by rw [q (22 + 1) (by omega)]; exact x5 i hi) (fun i hi => by rw [q (22 + 2) (by omega)]; exact x6 i hi) (fun i hi => by rw [q (22 + 3) (by omega)]; exact x7 i hi) (fun i hi => by rw [q (22 + 4) (by omega), q (22 + 5) (by omega)]; exact x8 i hi) (fun i a b => ?_) (fun i a b => ?_) (fun i a b => ?_) (fun i a b => ?_)
      · rw [w113, g113, if_neg (by omega), if_pos (by omega)]; congr 1; omega
      · rw [w113, g113, if_pos (by omega)]; congr 1; omega
      · rw [w115, w116, u2, u3, if_pos (by omega), if_pos (by omega)]
        exact ⟨by congr 1; omega, by congr 1; omega⟩
      · rw [w117, u4, if_pos (by omega)]; congr 1; omega
    · rw [wn 0 (by decide) (by decide) (by decide) (by decide) (by decide), x1 1 (by decide), e112 16 (by decide) (by decide) (by decide) (by decide) (by decide), wo 118 (by decide) (by decide) (by decide) (by decide) (by decide) (by decide) (by omega), wo 1 (by decide) (by decide) (by decide) (by decide) (by decide) (by decide) (by omega)]; exact h4
    · rw [wn 0 (by decide) (by decide) (by decide) (by decide) (by decide), x1 2 (by decide), e112 17 (by decide) (by decide) (by decide) (by decide) (by decide)]; exact h5
  have l117 : ∀ (r j : Nat) (M6 : mM), j + r = 3 → (∀ n, n ≠ 115 → n ≠ 116 → n ≠ 117 → M6 n = M5 n) → (∀ i : Int, M6 115 i = if 8 ≤ i ∧ i < 16 then M 115 (i - 8) else M 115 i) → (∀ i : Int, M6 116 i = if 8 ≤ i ∧ i < 16 then M 116 (i - 8) else M 116 i) → (∀ i : Int, M6 117 i = if 3 ≤ i ∧ i < 3 + j then M 117 (i - 3) else M 117 i) → V (d + 3) k qX10_image 97 [mR 18 58 112, mI j] [] M6 Q := by
    intro r
    induction r with
    | zero =>
      intro j M6 hj u1 u2 u3 u4
      have e : j = 3 := by omega
      subst e
      exact B_X10_image_97 ⟨fun _ => fin M6 u1 u2 u3 u4, fun z => by omega⟩
    | succ r ih =>
      intro j M6 hj u1 u2 u3 u4
      refine B_X10_image_97 ⟨fun z => by omega, fun _ => ⟨by omega, by omega, by omega, by omega, ih (j + 1) _ (by omega) (fun n a b e => by rw [up_row e]; exact u1 n a b e) (fun i => by rw [up_row (by decide)]; exact u2 i) (fun i => by rw [up_row (by decide)]; exact u3 i) (fun i => ?_)⟩⟩
      by_cases e : i = 3 + j
      · rw [e, up_s, u4 j, if_neg (by omega), if_pos (by omega)]; congr 1; omega
      · rw [up_fld e, u4 i]
        by_cases h : 3 ≤ i ∧ i < 3 + j
        · rw [if_pos h, if_pos (by omega)]
        · rw [if_neg h, if_neg (by omega)]
  have l115 : ∀ (r j : Nat) (M6 : mM), j + r = 8 → (∀ n, n ≠ 115 → n ≠ 116 → M6 n = M5 n) → (∀ i : Int, M6 115 i = if 8 ≤ i ∧ i < 8 + j then M 115 (i - 8) else M 115 i) → (∀ i : Int, M6 116 i = if 8 ≤ i ∧ i < 8 + j then M 116 (i - 8) else M 116 i) → V (d + 3) k qX10_image 53 [mR 18 58 112, mI j] [] M6 Q := by
    intro r
    induction r with
    | zero =>
      intro j M6 hj u1 u2 u3
      have e : j = 8 := by omega
      subst e
      refine B_X10_image_53 ⟨fun _ => l117 3 0 M6 (by omega) (fun n a b _ => u1 n a b) u2 u3 (fun i => ?_), fun z => by omega⟩
      rw [u1 117 (by decide) (by decide), r5 117 (by decide) (by decide), x0 117 (by decide) (by omega), if_neg (by omega)]
    | succ r ih =>
      intro j M6 hj u1 u2 u3
      refine B_X10_image_53 ⟨fun z => by omega, fun _ => ⟨by omega, by omega, by omega, by omega, by omega, by omega, by omega, ih (j + 1) _ (by omega) (fun n a b => by rw [up_row b, up_row a]; exact u1 n a b) (fun i => ?_) (fun i => ?_)⟩⟩
      · rw [up_row (by decide)]
        by_cases e : i = 8 + j
        · rw [e, up_s, u2 j, if_neg (by omega), if_pos (by omega)]; congr 1; omega
        · rw [up_fld e, u2 i]
          by_cases h : 8 ≤ i ∧ i < 8 + j
          · rw [if_pos h, if_pos (by omega)]
          · rw [if_neg h, if_neg (by omega)]
      · by_cases e : i = 8 + j
        · rw [e, up_s, u3 j, if_neg (by omega), if_pos (by omega)]; congr 1; omega
        · rw [up_fld e, up_row (by decide), u3 i]
          by_cases h : 8 ≤ i ∧ i < 8 + j
          · rw [if_pos h, if_pos (by omega)]
          · rw [if_neg h, if_neg (by omega)]
  exact l115 8 0 M5 (by omega) (fun _ _ _ => rfl) (fun i => by rw [r5 115 (by decide) (by decide), x0 115 (by decide) (by omega), if_neg (by omega)]) (fun i => by rw [r5 116 (by decide) (by decide), x0 116 (by decide) (by omega), if_neg (by omega)])
