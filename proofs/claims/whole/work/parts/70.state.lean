/-! how the class's cells and the model's belong together -/
def stkA (n off : Int) (M : mM) (R : Int → Int) : Prop := M n (off + 12) = pkL R ∧ M n (off + 13) = R 6 ∧ ∀ b : Nat, b < 12 → M n (off + b) = pkL (fun s => R (7 + 6 * b + s))
/-- rows, kept rows, notes, refusals: the class's from name n on, the model's from these places on -/
def imgR (c : Int) (K : Nat) (sz : Int → Int) (M : mM) (n ro kb no fo A F nn N : Int) : Prop :=
  (M n 2 = A ∧ M n 3 = nn ∧ (0 ≤ A ∧ A ≤ 40) ∧ (0 ≤ F ∧ F < 40) ∧ (0 ≤ nn ∧ nn ≤ 8)) ∧
  (stkA (n + 1) 0 M (fun i => M 113 (ro + i)) ∧ rowOK c K sz (fun i => M 113 (ro + i))) ∧
  (∀ k : Nat, (k : Int) < A → stkA (n + 3) (14 * k) M (fun i => M 113 (kb + 80 * ((F + k) % 40) + i)) ∧ rowOK c K sz (fun i => M 113 (kb + 80 * ((F + k) % 40) + i))) ∧
  (∀ i : Nat, (i : Int) < nn → M (n + 4) i = M 115 (no + i) ∧ M (n + 5) i = M 116 (no + i) ∧ (0 ≤ M (n + 4) i ∧ M (n + 4) i ≤ 7) ∧ (0 ≤ M (n + 5) i ∧ M (n + 5) i ≤ 24)) ∧
  ∀ i : Nat, i < 3 → M (n + 2) i = M 117 (fo + i) ∧ 0 ≤ M (n + 2) i ∧ M (n + 2) i ≤ N
theorem imgR.cg {c : Int} {K : Nat} {sz : Int → Int} {M M' : mM} {n ro kb no fo A F nn N : Int} (e0 : M' n = M n) (e1 : M' (n + 1) = M (n + 1)) (e2 : M' (n + 2) = M (n + 2)) (e3 : M' (n + 3) = M (n + 3)) (e4 : M' (n + 4) = M (n + 4)) (e5 : M' (n + 5) = M (n + 5)) (e6 : M' 113 = M 113) (e7 : M' 115 = M 115) (e8 : M' 116 = M 116) (e9 : M' 117 = M 117) (h : imgR c K sz M n ro kb no fo A F nn N) : imgR c K sz M' n ro kb no fo A F nn N := by
  unfold imgR stkA at *
  rw [e0, e1, e2, e3, e4, e5, e6, e7, e8, e9]
  exact h
def lotR (c : Int) (K : Nat) (M : mM) : Prop := (1 ≤ c ∧ c ≤ 99) ∧ K ≤ 6 ∧ M 8 0 = c ∧ M 112 6 = c ∧ M 8 1 = K ∧ M 112 7 = K ∧ (∀ s : Nat, s < K → M 114 s = M 9 s ∧ 1 ≤ M 9 s ∧ M 9 s ≤ c) ∧ ∀ i : Nat, i < K → M 11 i = orF (M 9) K i
/-- class and model stand alike; at most N refusals of a kind -/
def St (c : Int) (K : Nat) (N : Int) (M : mM) : Prop := lotR c K M ∧ imgR c K (M 9) M 16 0 80 0 0 (M 112 8) (M 112 9) (M 112 10) N ∧ (M 0 3 = M 112 14 ∧ (M 0 3 = 0 ∨ (M 0 3 = 1 ∧ imgR c K (M 9) M 22 3280 3360 8 3 (M 112 11) (M 112 12) (M 112 13) N))) ∧ (M 0 1 = M 112 16 ∧ (0 ≤ M 0 1 ∧ M 0 1 ≤ 700) ∧ ∀ i : Nat, (i : Int) < M 0 1 → M 118 i = M 1 i % 256) ∧ M 0 2 = M 112 17
/-- names that a question may write -/
def scr (n : Int) : Prop := (2 ≤ n ∧ n ≤ 7) ∨ (12 ≤ n ∧ n ≤ 15) ∨ (28 ≤ n ∧ n ≤ 111) ∨ (119 ≤ n ∧ n ≤ 136)
/-- the class's question: nothing of the model's is written -/
def kpX (M M' : mM) : Prop := ∀ n, ¬ ((2 ≤ n ∧ n ≤ 7) ∨ (12 ≤ n ∧ n ≤ 15) ∨ (28 ≤ n ∧ n ≤ 111)) → M' n = M n
/-- the model's question -/
def kpM (M M' : mM) : Prop := (∀ n, n ≠ 112 → ¬ (119 ≤ n ∧ n ≤ 136) → M' n = M n) ∧ ∀ i, i ∉ ([5, 33, 37, 38, 40, 44, 45, 46, 47, 48, 49, 53, 57] : List Int) → M' 112 i = M 112 i
theorem kpX.rf {M : mM} : kpX M M := fun _ _ => rfl
theorem kpX.tr {M M' M'' : mM} (h : kpX M M') (h' : kpX M' M'') : kpX M M'' := fun n hn => (h' n hn).trans (h n hn)
theorem kpM.rf {M : mM} : kpM M M := ⟨fun _ _ _ => rfl, fun _ _ => rfl⟩
theorem kpM.tr {M M' M'' : mM} (h : kpM M M') (h' : kpM M' M'') : kpM M M'' := ⟨fun n a b => (h'.1 n a b).trans (h.1 n a b), fun i hi => (h'.2 i hi).trans (h.2 i hi)⟩
theorem kpM.of {S F : List Int} {M M' : mM} (h : frM S F M M') (hS : ∀ n, n ∈ S → 119 ≤ n ∧ n ≤ 136) (hF : ∀ i, i ∈ F → i ∈ ([5, 33, 37, 38, 40, 44, 45, 46, 47, 48, 49, 53, 57] : List Int)) : kpM M M' := ⟨fun n a b => h.1 n (fun z => b (hS n z)) a, fun i hi => h.2 i (fun z => hi (hF i z))⟩
theorem kpM.fl {M M' : mM} {i v : Int} (h : kpM M M') (hi : i ∈ ([5, 33, 37, 38, 40, 44, 45, 46, 47, 48, 49, 53, 57] : List Int)) : kpM M (mUp M' 112 i v) := ⟨fun n a b => by rw [up_row a]; exact h.1 n a b, fun j hj => by
  rw [up_fld (fun e => hj (by rw [e]; exact hi))]; exact h.2 j hj⟩
theorem St.kx {c : Int} {K : Nat} {N : Int} {M M' : mM} (h : St c K N M) (g : kpX M M') : St c K N M' := by
  obtain ⟨h1, h2, h3, h4, h5⟩ := h
  have e0 := g 0 (by omega)
  have e9 := g 9 (by omega)
  have e112 := g 112 (by omega)
  refine ⟨?_, ?_, ?_, ?_, ?_⟩
  · unfold lotR
    rw [g 8 (by omega), e112, e9, g 114 (by omega), g 11 (by omega)]; exact h1
  · rw [e9, e112]
    exact imgR.cg (g 16 (by omega)) (g (16 + 1) (by omega)) (g (16 + 2) (by omega)) (g (16 + 3) (by omega)) (g (16 + 4) (by omega)) (g (16 + 5) (by omega)) (g 113 (by omega)) (g 115 (by omega)) (g 116 (by omega)) (g 117 (by omega)) h2
  · rw [e0, e9, e112]
    refine ⟨h3.1, h3.2.imp (fun z => z) (fun z => ⟨z.1, ?_⟩)⟩
    exact imgR.cg (g 22 (by omega)) (g (22 + 1) (by omega)) (g (22 + 2) (by omega)) (g (22 + 3) (by omega)) (g (22 + 4) (by omega)) (g (22 + 5) (by omega)) (g 113 (by omega)) (g 115 (by omega)) (g 116 (by omega)) (g 117 (by omega)) z.2
  · rw [e0, e112, g 118 (by omega), g 1 (by omega)]; exact h4
  · rw [e0, e112]; exact h5
theorem St.km {c : Int} {K : Nat} {N : Int} {M M' : mM} (h : St c K N M) (g : kpM M M') : St c K N M' := by
  obtain ⟨h1, h2, h3, h4, h5⟩ := h
  have q := fun n (a : n ≠ 112) (b : ¬ (119 ≤ n ∧ n ≤ 136)) => g.1 n a b
  have e0 := q 0 (by omega) (by omega)
  have e9 := q 9 (by omega) (by omega)
  refine ⟨?_, ?_, ?_, ?_, ?_⟩
  · unfold lotR
    rw [q 8 (by omega) (by omega), g.2 6 (by simp), g.2 7 (by simp), e9, q 114 (by omega) (by omega), q 11 (by omega) (by omega)]; exact h1
  · rw [e9, g.2 8 (by simp), g.2 9 (by simp), g.2 10 (by simp)]
    exact imgR.cg (q 16 (by omega) (by omega)) (q (16 + 1) (by omega) (by omega)) (q (16 + 2) (by omega) (by omega)) (q (16 + 3) (by omega) (by omega)) (q (16 + 4) (by omega) (by omega)) (q (16 + 5) (by omega) (by omega)) (q 113 (by omega) (by omega)) (q 115 (by omega) (by omega)) (q 116 (by omega) (by omega)) (q 117 (by omega) (by omega)) h2
  · rw [e0, e9, g.2 11 (by simp), g.2 12 (by simp), g.2 13 (by simp), g.2 14 (by simp)]
    refine ⟨h3.1, h3.2.imp (fun z => z) (fun z => ⟨z.1, ?_⟩)⟩
    exact imgR.cg (q 22 (by omega) (by omega)) (q (22 + 1) (by omega) (by omega)) (q (22 + 2) (by omega) (by omega)) (q (22 + 3) (by omega) (by omega)) (q (22 + 4) (by omega) (by omega)) (q (22 + 5) (by omega) (by omega)) (q 113 (by omega) (by omega)) (q 115 (by omega) (by omega)) (q 116 (by omega) (by omega)) (q 117 (by omega) (by omega)) z.2
  · rw [e0, g.2 16 (by simp), q 118 (by omega) (by omega), q 1 (by omega) (by omega)]; exact h4
  · rw [e0, g.2 17 (by simp)]; exact h5
/-! what follows of it -/
theorem St.row {c : Int} {K : Nat} {N : Int} {M : mM} (h : St c K N M) : stk 17 M (M 113) ∧ rowOK c K (M 9) (M 113) := by
  have e : (fun i => M 113 (0 + i)) = M 113 := funext fun i => by rw [Int.zero_add]
  have h2 := h.2.1.2.1
  rw [e] at h2
  refine ⟨⟨h2.1.1, h2.1.2.1, fun b hb => ?_⟩, h2.2⟩
  have := h2.1.2.2 b hb
  rw [Int.zero_add] at this
  exact this
theorem St.GL {c : Int} {K : Nat} {N : Int} {M : mM} (h : St c K N M) : GLok c K (M 9) (M 113) (orF (M 9) K) := by
  have hr := h.row.2
  obtain ⟨⟨a1, a2, _, _, _, _, a7, _⟩, _⟩ := h
  exact ⟨by omega, a2, fun s hs => by have := a7 s hs; omega, fun s hs => (hr.1 s (by omega)).1, hr.2.1, fun i hi => orF_rg K i hi, fun i j h1 h2 => orF_inj K i j h1 h2, fun s hs => orF_on K s hs, fun g => orF_sum K⟩
theorem lotE.GL {c : Int} {K : Nat} {sz mn od sz' mn' od' : Int → Int} (h : lotE K sz mn od sz' mn' od') (hG : GLok c K sz' mn' od') : GLok c K sz mn od := by
  refine ⟨hG.1, hG.2.1, fun s hs => by rw [(h.1 s hs).1]; exact hG.2.2.1 s hs, fun s hs => by rw [(h.1 s hs).2]; exact hG.2.2.2.1 s hs, by rw [sg_congr (g := mn') (fun j hj => (h.1 j hj).2)]; exact hG.2.2.2.2.1, fun i hi => (h.2 i hi).2, fun i j h1 h2 => by rw [(h.2 i (by omega)).1, (h.2 j h2).1]; exact hG.2.2.2.2.2.2.1 i j h1 h2, fun s hs => ?_, fun g => ?_⟩
  · obtain ⟨i, hi, e⟩ := hG.2.2.2.2.2.2.2.1 s hs
    exact ⟨i, hi, by rw [(h.2 i hi).1]; exact e⟩
  · rw [sg_congr (f := fun i => g (od i)) (g := fun i => g (od' i)) (fun j hj => by show g (od j) = g (od' j); rw [(h.2 j hj).1])]
    exact hG.2.2.2.2.2.2.2.2 g
theorem St.sz {c : Int} {K : Nat} {N : Int} {M : mM} (h : St c K N M) {s : Nat} (hs : s < K) : M 114 s = M 9 s ∧ 1 ≤ M 9 s ∧ M 9 s ≤ c := h.1.2.2.2.2.2.2.1 s hs
theorem St.pk {c : Int} {K : Nat} {N : Int} {M : mM} (h : St c K N M) : PkL c K (M 9) (M 113) (orF (M 9) K) := h.GL.pkL h.1.1.1 (fun s hs _ => (h.sz hs).2.2)
theorem lotE.PL {c : Int} {K : Nat} {sz mn od sz' mn' od' : Int → Int} (h : lotE K sz mn od sz' mn' od') (hG : GLok c K sz' mn' od') (hP : PkL c K sz' mn' od') : PkL c K sz mn od := (h.GL hG).pkL hP.1 (fun s hs hm => by
  rw [(h.1 s hs).1]; rw [(h.1 s hs).2] at hm
  exact ((hP.2.2.2.1 s hs).2.2 hm).2)
/-- what the class looks at -/
def askX (c : Int) (K : Nat) (M M' : mM) : Prop := M' 12 0 = c ∧ M' 12 1 = K ∧ lotE K (M' 13) (M' 14) (M' 15) (M 9) (M 113) (orF (M 9) K) ∧ (∀ s : Nat, s < 6 → M' 14 s = M 113 s) ∧ ∀ n, ¬ (12 ≤ n ∧ n ≤ 15) → M' n = M n
theorem c_X9_restNow {d k : Nat} {c : Int} {K : Nat} {N : Int} {M : mM} {Q : mRes → mM → Prop} (hS : St c K N M) (hQ : ∀ M', askX c K M M' → Q (.inl (some (mR 11 5 12))) M') : V (d + 3) k qX9_restNow 0 [mR 17 15 0, mE 0] [] M Q := by
  have hrow := hS.row
  have h7 := hrow.2.r7
  have hL := hS.1
  have hG := hS.GL
  refine B_X9_restNow_0 (B_X2_becomeLike_0 (by decide) (by decide) (B_X9_restNow_11 ?_))
  generalize hM1 : mCp (mCp (mCp (mUp (mUp M 12 0 (M 8 0)) 12 1 ((mUp M 12 0 (M 8 0)) 8 1)) (8 + 1) 0 (12 + 1) 0 6) (8 + 2) 0 (12 + 2) 0 6) (8 + 3) 0 (12 + 3) 0 6 = M1
  have r1 : ∀ n, ¬ (12 ≤ n ∧ n ≤ 15) → M1 n = M n := fun n hn => by rw [← hM1, cp_row (by omega), cp_row (by omega), cp_row (by omega), up_row (by omega), up_row (by omega)]
  have f0 : M1 12 0 = c := by rw [← hM1, cp_row (by decide), cp_row (by decide), cp_row (by decide), up_fld (by decide), up_s]; exact hL.2.2.1
  have f1 : M1 12 1 = K := by rw [← hM1, cp_row (by decide), cp_row (by decide), cp_row (by decide), up_s, up_row (by decide)]; exact hL.2.2.2.2.1
  have f13 : ∀ s : Nat, s < 6 → M1 13 s = M 9 s := fun s hs => by
    rw [← hM1, cp_row (by decide), cp_row (by decide), show (13 : Int) = 12 + 1 by decide, cp_in (by omega), up_row (by decide), up_row (by decide)]
    congr 1; omega
  have f15 : ∀ s : Nat, s < 6 → M1 15 s = M 11 s := fun s hs => by
    rw [← hM1, show (15 : Int) = 12 + 3 by decide, cp_in (by omega), cp_row (by decide), cp_row (by decide), up_row (by decide), up_row (by decide)]
    congr 1; omega
  have loop : ∀ (r j : Nat) (M' : mM), j + r = 6 → (∀ n, n ≠ 14 → M' n = M1 n) → (∀ s : Nat, s < j → M' 14 s = M 113 s) → V (d + 3) k qX9_restNow 13 [mR 17 15 0, mI j] [] M' Q := by
    intro r
    induction r with
    | zero =>
      intro j M' hj g1 g2
      refine B_X9_restNow_13 ⟨fun _ => hQ M' ⟨by rw [g1 12 (by decide)]; exact f0, by rw [g1 12 (by decide)]; exact f1, ⟨fun s hs => ⟨?_, ?_⟩, fun i hi => ?_⟩, fun s hs => g2 s (by omega), fun n hn => by rw [g1 n (by omega)]; exact r1 n hn⟩, fun z => by omega⟩
      · rw [g1 13 (by decide)]; exact f13 s (by have := hL.2.1; omega)
      · exact g2 s (by have := hL.2.1; omega)
      · have e : M' 15 i = orF (M 9) K i := by rw [g1 15 (by decide), f15 i (by have := hL.2.1; omega)]; exact hL.2.2.2.2.2.2.2 i hi
        have := orF_rg (sz := M 9) K i hi
        rw [e]; exact ⟨rfl, this⟩
    | succ r ih =>
      intro j M' hj g1 g2
      have e17 : M' 17 12 = pkL (M 113) := by rw [g1 17 (by decide), r1 17 (by omega)]; exact hrow.1.1
      refine B_X9_restNow_13 ⟨fun z => by omega, fun _ => c_X7_restOf (Or.inl rfl) e17 h7 (by omega) (fun v hv => B_X9_restNow_35 ⟨by omega, by omega, ih (j + 1) _ (by omega) (fun n hn => by rw [up_row hn]; exact g1 n hn) (fun s hs => ?_)⟩)⟩
      by_cases e : s = j
      · subst e; rw [up_s]; exact hv
      · rw [up_fld (by omega)]; exact g2 s (by omega)
  exact loop 6 0 M1 (by omega) (fun _ _ => rfl) (fun s hs => by omega)
/-- what the model looks at -/
def askM (c : Int) (K : Nat) (M M' : mM) : Prop := M' 112 33 = c ∧ lotE K (M' 122) (M' 121) (M' 123) (M 9) (M 113) (orF (M 9) K) ∧ (∀ s : Nat, s < 6 → M' 121 s = M 113 s) ∧ frM [121, 122, 123] [33] M M'
theorem c_X10_look0 {d k : Nat} {c : Int} {K : Nat} {N : Int} {M : mM} {Q : mRes → mM → Prop} (hS : St c K N M) (hQ : ∀ M', askM c K M M' → Q (.inl none) M') : V (d + 1) k qX10_looks 0 [mR 18 58 112, mE 0] [] M Q := by
  have hL := hS.1
  have hr := hS.row.2
  refine c_X10_looks hL.2.2.2.2.2.1 hL.2.1 (fun s h1 h2 => (hr.1 s h2).2.2 h1) (fun M' q1 q2 => hQ M' ⟨by rw [q2.1]; exact hL.2.2.2.1, ⟨fun s hs => ⟨?_, q2.2.1 s (by have := hL.2.1; omega)⟩, fun i hi => ?_⟩, q2.2.1, q1⟩)
  · rw [q2.2.2.1 s (by have := hL.2.1; omega)]; exact (hS.sz hs).1
  · have e : M' 123 i = orF (M 9) K i := by rw [q2.2.2.2 i hi, orF_congr (fun s hs => (hS.sz hs).1)]
    have := orF_rg (sz := M 9) K i hi
    rw [e]; exact ⟨rfl, this⟩
