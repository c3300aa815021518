theorem St.gF {c : Int} {K : Nat} {N : Int} {M M' : mM} (hS : St c K N M) (a : ∀ n, n ∉ ([0, 2, 3, 4, 7, 18, 112, 117, 119, 120, 137] : List Int) → M' n = M n) (b : ∀ i : Int, 6 ≤ i → i ≤ 14 → M' 112 i = M 112 i) (h1 : M' 0 1 = 0) (h16 : M' 112 16 = 0) (h2 : M' 0 2 = M' 112 17) (h3 : M' 0 3 = M 0 3) (h18 : M' 18 = fset (M 18) 0 (M 18 0 + 1)) (h117 : M' 117 = fset (M 117) 0 (M 117 0 + 1)) : St c K (N + 1) M' := by
  obtain ⟨s1, s2, s3, s4, s5⟩ := hS
  have e9 := a 9 (by simp)
  refine ⟨?_, ?_, ⟨?_, ?_⟩, ⟨by rw [h1, h16], by rw [h1]; omega, fun i hi => by rw [h1] at hi; omega⟩, h2⟩
  · unfold lotR
    rw [a 8 (by simp), b 6 (by omega) (by omega), b 7 (by omega) (by omega), e9, a 114 (by simp), a 11 (by simp)]; exact s1
  · rw [e9, b 8 (by omega) (by omega), b 9 (by omega) (by omega), b 10 (by omega) (by omega)]
    refine imgR.rf (a 16 (by simp)) (a (16 + 1) (by simp)) (a (16 + 3) (by simp)) (a (16 + 4) (by simp)) (a (16 + 5) (by simp)) (a 113 (by simp)) (a 115 (by simp)) (a 116 (by simp)) (fun j hj => ?_) s2
    have r0 := s2.2.2.2.2 0 (by omega)
    have r := s2.2.2.2.2 j hj
    show M' 18 j = M' 117 (0 + j) ∧ 0 ≤ M' 18 j ∧ M' 18 j ≤ N + 1
    have r0' : M 18 0 = M 117 0 ∧ 0 ≤ M 18 0 ∧ M 18 0 ≤ N := r0
    have r' : M 18 j = M 117 (0 + j) ∧ 0 ≤ M 18 j ∧ M 18 j ≤ N := r
    rw [h18, h117]
    by_cases e : j = 0
    · subst e
      rw [show (0 : Int) + ((0 : Nat) : Int) = 0 by omega, show ((0 : Nat) : Int) = 0 by omega, fset_s, fset_s]; omega
    · rw [fset_n (by omega), fset_n (by omega)]; omega
  · rw [h3, b 14 (by omega) (by omega)]; exact s3.1
  · rw [h3, e9, b 11 (by omega) (by omega), b 12 (by omega) (by omega), b 13 (by omega) (by omega)]
    refine s3.2.imp (fun z => z) (fun z => ⟨z.1, imgR.rf (a 22 (by simp)) (a (22 + 1) (by simp)) (a (22 + 3) (by simp)) (a (22 + 4) (by simp)) (a (22 + 5) (by simp)) (a 113 (by simp)) (a 115 (by simp)) (a 116 (by simp)) (fun j hj => ?_) z.2⟩)
    have r := z.2.2.2.2.2 j hj
    have r' : M 24 j = M 117 (3 + j) ∧ 0 ≤ M 24 j ∧ M 24 j ≤ N := r
    show M' 24 j = M' 117 (3 + j) ∧ 0 ≤ M' 24 j ∧ M' 24 j ≤ N + 1
    rw [a 24 (by simp), h117, fset_n (by omega)]; omega
theorem St.gG {c : Int} {K : Nat} {N : Int} {M M' : mM} {cap : Int} {kin : Nat} {sz R : Int → Int} (hS : St c K N M) (h18 : M' 18 = M 18) (h117 : M' 117 = M 117) (hX : goX M' cap kin sz R) (hM : goM M' cap kin sz R) : St cap kin N M' := by
  obtain ⟨x0, x1, x2, x3, x4, x5, x6, x7, x8, x9⟩ := hX
  obtain ⟨y1, y2, y3, y4, y5, y6, y7, y8⟩ := hM
  have o3 := x0.2.2.1
  have o4 := x0.2.2.2.1
  have o5 := x0.2.2.2.2.1
  have o11 := x0.2.2.2.2.2.2.2.2.2.2
  have e0 : ∀ i : Int, 0 ≤ i → i < 79 → (fun i => M' 113 (0 + i)) i = R i := fun i h1 h2 => by show M' 113 (0 + i) = R i; rw [Int.zero_add]; exact y4 i h1 h2
  refine ⟨⟨o3, o4, x1, y1, x2, y2, fun s hs => ?_, x4⟩, ?_, ⟨by rw [x9, y5.2.2.2], Or.inl x9⟩, ⟨by rw [x7, y7], by rw [x7]; omega, fun i hi => by rw [x7] at hi; omega⟩, by rw [x8, y8]⟩
  · rw [y3 s hs, x3 s hs]; exact ⟨rfl, o5 s hs⟩
  · rw [y5.1, y5.2.1, y5.2.2.1]
    refine ⟨⟨x6.1, x6.2, by omega, by omega, by omega⟩, ⟨⟨?_, ?_, fun b hb => ?_⟩, (rowOK.cg o4 o11 e0).sz x3⟩, fun k hk => by omega, fun i hi => by omega, fun j hj => ?_⟩
    · show M' 17 (0 + 12) = _
      rw [pkL_congr (g := R) (fun s hs => e0 s (by omega) (by omega))]; exact x5.1
    · show M' 17 (0 + 13) = M' 113 (0 + 6)
      rw [show M' 113 (0 + 6) = R 6 from e0 6 (by omega) (by omega)]; exact x5.2.1
    · show M' 17 (0 + b) = _
      rw [Int.zero_add, pkL_congr (g := fun s => R (7 + 6 * b + s)) (fun s hs => e0 _ (by omega) (by omega))]; exact x5.2.2 b hb
    · have r := hS.2.1.2.2.2.2 j hj
      have r' : M 18 j = M 117 (0 + j) ∧ 0 ≤ M 18 j ∧ M 18 j ≤ N := r
      show M' 18 j = M' 117 (0 + j) ∧ 0 ≤ M' 18 j ∧ M' 18 j ≤ N
      rw [h18, h117]; exact r'
set_option maxHeartbeats 1000000 in
theorem lc_goods {d k : Nat} {c : Int} {K : Nat} {N : Int} {M : mM} {i : Int} {u5 u6 : mV} (hS : St c K N M) (hN : N ≤ 1000) (hi : 0 ≤ i) (hL : i + 5 < M (-1) (-1)) (h3 : M (-1) (-1) ≤ 3072) (hR : ∀ j : Int, 0 ≤ j → j < M (-1) (-1) → r32 (M (-1) j)) (hk : 3 ≤ k)
    (hn : ∀ (c' : Int) (K' : Nat) (N' : Int) (M' : mM) (u5 u6 : mV), St c' K' N' M' → N' ≤ N + 1 → sE M M' → V (d + 62) (k - 3) qL_law 1989 [mE 2, mR 17 15 0, mR 18 58 112, mR 1 1 137, mI i, u5, u6] [] M' lawQ) : V (d + 62) k qL_law 273 [mE 2, mR 17 15 0, mR 18 58 112, mR 1 1 137, mI i, u5, u6] [] M lawQ := by
  refine B_L_law_273 lawQn ⟨by omega, by omega, by omega, V_ok (fun hok => ?_)⟩
  have st4 := hS.2.2.2.1
  have r0 : M 18 0 = M 117 0 ∧ 0 ≤ M 18 0 ∧ M 18 0 ≤ N := hS.2.1.2.2.2.2 0 (by omega)
  have hby : ∀ x : Int, x ≤ M 0 1 → byR (M 1) x M := fun x hx j h0 h1 => by
    have a := st4.2.2 j.toNat (by omega)
    rw [show ((j.toNat : Nat) : Int) = j by omega] at a
    have b := ok_byte hok h0 (by omega)
    omega
  generalize hx : M (-1) (i + 1) = x
  refine V_sE (c_X9_goods (d := d + 51) st4.2.1 (by omega) (by decide) (fun z hs1 => ?_) (fun z M1 g1 f0 f1 f2 f3 f4 hs1 => ?_) (fun z M1 cap kin sz R g1 hX hgo hs1 => ?_))
  · refine ⟨1, rfl, ?_⟩
    show V (d + 62) (k - 3) qL_law 284 [mE 2, mR 17 15 0, mR 18 58 112, mR 1 1 137, mI i, u5, u6] [mI 1] M lawQ
    have Bk := B_L_law_284 (d := d + 60) (k := k - 3) (M := M) (Q := lawQ) (x4 := i) (u5 := u5) (u6 := u6) (sx0 := 1) lawQn
    rw [hx] at Bk
    refine Bk ⟨by omega, by omega, V_sE (c_X10_goods (d := d + 54) (T := M 1) (by omega) (by omega) (fun y => hby x (by omega)) (fun y hs3 => ?_) (fun y => absurd y (by omega)) (fun y => absurd y (by omega)))⟩
    refine B_L_law_296 (x5 := 1) lawQn (B_X10_thrown_0 ?_)
    exact B_L_law_302 (x5 := 1) (x6 := 0) (sx0 := 1) lawQn ⟨fun _ => ⟨fun _ => hn c K N _ (mI 1) (mI 0) (hS.km ((kpM.rf.fl (by simp)).fl (by simp))) (by omega) (hs1.tr hs3), fun h => absurd h (by omega)⟩, fun h => absurd rfl h⟩
  · generalize hX : rd (M 1) x (x.toNat + 1) ps0 0 = X at *
    show V (d + 62) (k - 3) qL_law 284 [mE 2, mR 17 15 0, mR 18 58 112, mR 1 1 137, mI i, u5, u6] [mI 0] (mUp M1 137 0 X.1) lawQ
    have hs2 : sE M (mUp M1 137 0 X.1) := hs1.o
    have hv : (mUp M1 137 0 X.1) 137 0 = X.1 := up_s
    have a2 : ∀ n, n ≠ 137 → mUp M1 137 0 X.1 n = M1 n := fun n hn => up_row hn
    revert hs2 hv a2
    generalize mUp M1 137 0 X.1 = M2
    intro hs2 hv a2
    have g2 : ∀ n, n ∉ ([0, 2, 3, 4, 7, 18, 137] : List Int) → M2 n = M n := fun n hn => by
      simp at hn
      rw [a2 n (by omega)]; exact g1 n (by simp; omega)
    have e112 := g2 112 (by simp)
    have e117 := g2 117 (by simp)
    have Bk := B_L_law_284 (d := d + 60) (k := k - 3) (M := M2) (Q := lawQ) (x4 := i) (u5 := u5) (u6 := u6) (sx0 := 0) lawQn
    rw [hs2.1, hs2.2 (i + 1) (by omega) (by omega), hx] at Bk
    have hB2 : byR (M 1) x M2 := by unfold byR; rw [g2 118 (by simp)]; exact hby x (by omega)
    refine Bk ⟨by omega, by omega, V_sE (c_X10_goods (d := d + 54) (T := M 1) (by rw [e112]; omega) (by rw [e117]; omega) (fun y => hB2) (fun y => absurd (by rw [e112]; omega) y) (fun y M3 g3 q0 q5 q16 q17 q117 hs3 => ?_) (fun y M3 cap kin sz R g3 hX' => ?_))⟩
    · rw [hX] at q0 q17 ⊢
      refine B_L_law_296 (x5 := 0) lawQn (B_X10_thrown_0 ?_)
      rw [q5]
      have ho : M3 137 0 = X.1 := by rw [g3.1 137 (by simp) (by decide)]; exact hv
      have a3 : ∀ n, n ∉ ([0, 2, 3, 4, 7, 18, 112, 117, 119, 120, 137] : List Int) → M3 n = M n := fun n hn => by
        simp at hn
        rw [g3.1 n (by simp; omega) (by omega)]; exact g2 n (by simp; omega)
      have a30 : M3 0 = M1 0 := (g3.1 0 (by simp) (by decide)).trans (a2 0 (by decide))
      have hS3 : St c K (N + 1) M3 := by
        refine hS.gF a3 (fun j h1 h2 => ?_) (by rw [a30]; exact f1) q16 (by rw [a30, q17]; exact f2) (by rw [a30]; exact f3) ?_ ?_
        · rw [g3.2 j (by simp; omega), e112]
        · rw [g3.1 18 (by simp) (by decide), a2 18 (by decide)]; exact f4
        · rw [q117, e117]
      refine B_L_law_302 (x5 := 0) (x6 := X.1) lawQn ⟨fun _ => ⟨fun h => absurd rfl h, fun _ => ⟨fun _ => hn c K (N + 1) M3 (mI 0) (mI X.1) hS3 (by omega) (hs2.tr hs3), fun h => ?_⟩⟩, fun h => absurd rfl h⟩
      exact absurd (by rw [ho]; simp) h
    · rw [hX] at hX'
      exact absurd (by rw [hX']) f0
  · show V (d + 62) (k - 3) qL_law 284 [mE 2, mR 17 15 0, mR 18 58 112, mR 1 1 137, mI i, u5, u6] [mI 0] (mUp M1 137 0 0) lawQ
    have hs2 : sE M (mUp M1 137 0 0) := hs1.o
    have hv : (mUp M1 137 0 0) 137 0 = 0 := up_s
    have a2 : ∀ n, n ≠ 137 → mUp M1 137 0 0 n = M1 n := fun n hn => up_row hn
    revert hs2 hv a2
    generalize mUp M1 137 0 0 = M2
    intro hs2 hv a2
    have g2 : ∀ n, n ∉ ([0, 2, 3, 4, 7, 8, 9, 10, 11, 16, 17, 137] : List Int) → M2 n = M n := fun n hn => by
      simp at hn
      rw [a2 n (by omega)]; exact g1 n (by simp; omega)
    have e112 := g2 112 (by simp)
    have e117 := g2 117 (by simp)
    have Bk := B_L_law_284 (d := d + 60) (k := k - 3) (M := M2) (Q := lawQ) (x4 := i) (u5 := u5) (u6 := u6) (sx0 := 0) lawQn
    rw [hs2.1, hs2.2 (i + 1) (by omega) (by omega), hx] at Bk
    have hB2 : byR (M 1) x M2 := by unfold byR; rw [g2 118 (by simp)]; exact hby x (by omega)
    refine Bk ⟨by omega, by omega, V_sE (c_X10_goods (d := d + 54) (T := M 1) (by rw [e112]; omega) (by rw [e117]; omega) (fun y => hB2) (fun y => absurd (by rw [e112]; omega) y) (fun y M3 g3 q0 => ?_) (fun y M3 cap' kin' sz' R' g3 hX' hgm _ hs3 => ?_))⟩
    · rw [hX] at q0
      exact absurd rfl q0
    · rw [hX] at hX'
      obtain ⟨_, _, rfl, rfl, rfl, rfl⟩ : (0 : Int) = 0 ∧ (-1 : Int) = -1 ∧ cap = cap' ∧ kin = kin' ∧ sz = sz' ∧ R = R' := by
        simpa using hX'
      refine B_L_law_296 (x5 := 0) lawQn (B_X10_thrown_0 ?_)
      rw [hgm.2.2.2.2.2.1]
      have ho : M3 137 0 = 0 := by rw [g3.1 137 (by simp) (by decide)]; exact hv
      have a3 : ∀ n, n ≠ 112 → n ≠ 137 → n ∉ ([113, 114, 119, 120] : List Int) → M3 n = M1 n := fun n h1 h2 h3 => (g3.1 n h3 h1).trans (a2 n h2)
      have hgo3 : goX M3 cap kin sz R := by
        unfold goX stk at *
        rw [a3 8 (by decide) (by decide) (by simp), a3 9 (by decide) (by decide) (by simp), a3 11 (by decide) (by decide) (by simp), a3 17 (by decide) (by decide) (by simp), a3 16 (by decide) (by decide) (by simp), a3 0 (by decide) (by decide) (by simp)]
        exact hgo
      have hS3 : St cap kin N M3 := hS.gG ((a3 18 (by decide) (by decide) (by simp)).trans (g1 18 (by simp))) ((a3 117 (by decide) (by decide) (by simp)).trans (g1 117 (by simp))) hgo3 hgm
      refine B_L_law_302 (x5 := 0) (x6 := 0) lawQn ⟨fun _ => ⟨fun h => absurd rfl h, fun _ => ⟨fun _ => hn cap kin N M3 (mI 0) (mI 0) hS3 (by omega) (hs2.tr hs3), fun h => ?_⟩⟩, fun h => absurd rfl h⟩
      exact absurd (by rw [ho]; simp) h
