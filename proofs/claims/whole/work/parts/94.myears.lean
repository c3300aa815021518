/-! years, the model -/
theorem sg_bd2 {f : Int → Int} {c : Int} {n : Nat} (h : ∀ j : Nat, j < n → 0 ≤ f j ∧ f j ≤ c) (hc : 0 ≤ c ∧ c ≤ 99) (hn : n ≤ 100) : 0 ≤ sg f n ∧ sg f n ≤ 9900 := by
  have a := sg_bd h
  have b : c * (n : Int) ≤ 99 * (n : Int) := Int.mul_le_mul_of_nonneg_right hc.2 (by omega)
  omega
theorem c_X10_laysFree2 {d k : Nat} {c : Int} {K : Nat} {M : mM} {R : Int → Int} {Q : mRes → mM → Prop} {n : Nat} (h : mdX c K M R) (hn : R 6 = n) (hQ : ∀ M', frM [126] [33, 38] M M' → M' 112 33 = c → M' 112 38 = n → (∀ b : Nat, b < n → M' 126 b = c - wtR K (M 114) R b) → Q (.inl none) M') : V (d + 2) k qX10_laysFree 0 [mR 18 58 112, mE 0] [] M Q := by
  have kpo : ∀ M' : mM, frM [126] [33, 38] M M' → kpM M M' := fun M' g => kpM.of g (fun n hn => by simp at hn; omega) (fun i hi => by simp at hi ⊢; omega)
  have h6 := h.2.2.2.2.2.2.2.2.1
  have e6 := h.2.2.2.2.2.1 6 (by omega) (by omega)
  have hc := h.1
  have Bk := B_X10_laysFree_0 (d := d + 1) (k := k) (M := M) (Q := Q)
  rw [h.2.2.1] at Bk
  refine Bk (c_X10_bins (fun r hr => B_X10_laysFree_13 ?_))
  rw [up_row (by decide), e6, hn] at hr
  subst hr
  have loop : ∀ (r j : Nat) (M' : mM), j + r = n → frM [126] [33, 38] M M' → M' 112 33 = c → M' 112 38 = n → (∀ b : Nat, b < j → M' 126 b = c - wtR K (M 114) R b) → V (d + 2) k qX10_laysFree 18 [mR 18 58 112, mI j] [] M' Q := by
    intro r
    induction r with
    | zero =>
      intro j M' hj g1 g0 g2 g3
      have Bk := B_X10_laysFree_18 (d := d + 1) (k := k) (M := M') (Q := Q) (x1 := j)
      rw [g2] at Bk
      exact Bk ⟨fun _ => hQ M' g1 g0 g2 (fun b hb => g3 b (by omega)), fun z => by omega⟩
    | succ r ih =>
      intro j M' hj g1 g0 g2 g3
      have md := h.kp (kpo M' g1)
      have Bk := B_X10_laysFree_18 (d := d + 1) (k := k) (M := M') (Q := Q) (x1 := j)
      rw [g2, md.2.2.1] at Bk
      have e114 : M' 114 = M 114 := (kpo M' g1).1 114 (by omega) (by omega)
      have hw : wtR K (M 114) R j ≤ c := h.2.2.2.2.2.2.2.2.2.2 j (by omega)
      have hw0 : 0 ≤ wtR K (M 114) R j := by
        have : ∀ m : Nat, m ≤ K → 0 ≤ sg (fun s => M 114 s * R (7 + 6 * j + s)) m := fun m => by
          induction m with
          | zero => intro _; exact Int.le_refl _
          | succ m ihm =>
            intro hm
            have a1 := ihm (by omega)
            have a2 := h.2.2.2.2.1 m (by omega)
            have a3 := h.2.2.2.2.2.2.2.2.2.1 j m (by omega) (by have := h.2.1; omega)
            have a4 := Int.mul_nonneg (show 0 ≤ M 114 m by omega) a3.1
            show 0 ≤ sg (fun s => M 114 s * R (7 + 6 * j + s)) m + M 114 m * R (7 + 6 * j + m)
            omega
        exact this K (Nat.le_refl _)
      refine Bk ⟨fun z => by omega, fun _ => c_X10_wtM md (by omega) ?_⟩
      rw [e114]
      refine B_X10_laysFree_40 ⟨by omega, by omega, by omega, ih (j + 1) _ (by omega) ⟨fun m a b => by rw [up_row (by simp at a; omega)]; exact g1.1 m a b, fun i hi => by rw [up_row (by decide)]; exact g1.2 i hi⟩ (by rw [up_row (by decide)]; exact g0) (by rw [up_row (by decide)]; exact g2) (fun b hb => ?_)⟩
      by_cases e : b = j
      · subst e; rw [up_s]
      · rw [up_fld (by omega)]; exact g3 b (by omega)
  exact loop n 0 _ (by omega) ⟨fun m a b => by rw [up_row b, up_row b], fun i hi => by simp at hi; rw [up_fld hi.2, up_fld hi.1]⟩ (by rw [up_fld (by decide), up_s]) up_s (fun b hb => by omega)
theorem mq_years {d k : Nat} {c : Int} {K : Nat} {N : Int} {M : mM} {Q : mRes → mM → Prop} {x1 x2 x3 x4 : Int} (hS : St c K N M) (hQ : ∀ M' v, kpM M M' → mr (fun e => (e : Int)) (an_years c K M x1 x2 x3 x4) M' v → Q (.inl (some (mI v))) M') : V (d + 60) k qX10_years 0 [mR 18 58 112, mI x1, mI x2, mI x3, mI x4, mE 0, mE 0, mE 0] [] M Q := by
  unfold an_years at hQ
  have hL := hS.1
  have hK6 := hL.2.1
  have h13 := hS.b13
  have hc := hL.1
  have hS0 := hS.m0 (v := 0)
  have kp0 : kpM M (mUp M 112 5 0) := kpM.rf.fl (by simp)
  have md0 := (hS.md rfl rfl rfl).up5 (v := 0)
  have e50 : mUp M 112 5 0 112 5 = 0 := up_s
  generalize hM0 : mUp M 112 5 0 = M0 at *
  refine B_X10_years_0 ?_
  rw [hM0]
  refine c_X10_within (fun x hx => B_X10_years_13 (c_X10_fine e50 (by decide) (fun hz => B_X10_years_17 ⟨fun _ => hQ _ 0 (kp0.fl (by simp)) ?_, fun z => (z rfl).elim⟩) (fun hz => ?_)))
  · have hn : ¬ (0 ≤ x4 ∧ x4 ≤ 2) := fun z => by rw [if_pos z] at hx; omega
    rw [if_neg hn]; exact up_s
  have h4 : 0 ≤ x4 ∧ x4 ≤ 2 := by
    by_cases z : 0 ≤ x4 ∧ x4 ≤ 2
    · exact z
    · rw [if_neg z] at hx; omega
  rw [if_pos h4] at hQ
  -- what is asked is not to be had
  have no : ∀ u5 u6 u7, ¬ ((0 ≤ x2 ∧ x2 ≤ 60) ∧ 0 ≤ x3 ∧ x3 ≤ 3) → V (d + 60) k qX10_years 44 [mR 18 58 112, mI x1, mI x2, mI x3, mI x4, u5, u6, u7] [mR 18 58 112] M0 Q := fun u5 u6 u7 hn => by
    refine B_X10_years_44 (B_X10_years_45 (c_X10_fine e50 (by decide) (fun _ => B_X10_years_49 ⟨fun z => (z rfl).elim, fun _ => hQ _ 0 (kp0.fl (by simp)) ?_⟩) (fun z => (z rfl).elim)))
    rw [if_neg hn]; exact up_s
  refine B_X10_years_17 ⟨fun z => by omega, fun _ => c_X10_within (fun a ha => B_X10_years_28 ⟨fun z => no _ _ _ (fun y => by rw [if_pos y.1] at ha; omega), fun z => c_X10_within (fun b hb => B_X10_years_37 ⟨fun z2 => no _ _ _ (fun y => by rw [if_pos y.2] at hb; omega), fun z2 => B_X10_years_45 (c_X10_fine e50 (by decide) (fun y => by omega) (fun _ => ?_))⟩)⟩)⟩
  have h2 : 0 ≤ x2 ∧ x2 ≤ 60 := by
    by_cases y : 0 ≤ x2 ∧ x2 ≤ 60
    · exact y
    · rw [if_neg y] at ha; omega
  have h3 : 0 ≤ x3 ∧ x3 ≤ 3 := by
    by_cases y : 0 ≤ x3 ∧ x3 ≤ 3
    · exact y
    · rw [if_neg y] at hb; omega
  rw [if_pos ⟨h2, h3⟩] at hQ
  obtain ⟨n, hn⟩ : ∃ n : Nat, M 113 6 = n := ⟨(M 113 6).toNat, by omega⟩
  obtain ⟨m, hm⟩ : ∃ m : Nat, x2 = m := ⟨x2.toNat, by omega⟩
  subst hm
  have hwb := hS.wb hn
  refine B_X10_years_49 ⟨fun _ => c_X10_look0 hS0 (fun M1 q => B_X10_years_58 (c_X10_laysFree2 (md0.kp q.kp) hn (fun M2 q1 q0 q2 q3 => B_X10_years_62 ?_))), fun z => by omega⟩
  have kq : kpM M1 M2 := kpM.of q1 (fun n hn => by simp at hn; omega) (fun i hi => by simp at hi ⊢; omega)
  have k2 : kpM M M2 := (kp0.tr q.kp).tr kq
  have e1 : M1 114 = M 114 := by rw [q.kp.1 114 (by omega) (by omega), kp0.1 114 (by omega) (by omega)]
  have k3 : kpM M (mUp M2 112 57 x1) := k2.fl (by simp)
  have e53 : mUp M2 112 57 x1 112 5 = 0 := by rw [up_fld (by decide), q1.2 5 (by simp), q.2.2.2.2 5 (by simp)]; exact e50
  have mb3 : mbRel c (mUp M2 112 57 x1) n (wtB K M) := ⟨by rw [up_fld (by decide)]; exact q2, by rw [up_fld (by decide)]; exact q0, fun b hb => by
    rw [up_row (by decide), q3 b hb, e1]
    have : wtR K (M 114) (M 113) b = wtB K M b := wtR_sz (fun t ht => (hS.sz ht).1)
    omega⟩
  have s3 : ∀ s : Nat, s < K → mUp M2 112 57 x1 122 s = M 9 s := fun s hs => by
    rw [up_row (by decide), q1.1 122 (by simp) (by decide), (q.2.1.1 s hs).1, kp0.1 9 (by omega) (by omega)]
  have w3 : mUp M2 112 57 x1 112 57 = x1 := up_s
  generalize mUp M2 112 57 x1 = M3 at *
  have eE : (1 ≤ K → yrE c K M x1 m x3 = yrP c K (M 9) x3 n x1 n (wtB K M) m) ∧ (K = 0 → yrE c K M x1 m x3 = (x1, n, wtB K M, 0)) := by
    unfold yrE
    rw [hn, show ((n : Int)).toNat = n by omega, show ((m : Int)).toNat = m by omega]
    exact ⟨fun h => if_neg (by omega), fun h => if_pos h⟩
  have fin : ∀ (P : yT) (M' : mM) (x6 : Int) (u7 : mV), P = yrE c K M x1 m x3 → P.2.1 ≤ 72 → (∀ b : Nat, b < P.2.1 → 0 ≤ P.2.2.1 b ∧ P.2.2.1 b ≤ c) → kpM M M' → M' 112 5 = 0 → mbRel c M' P.2.1 P.2.2.1 → V (d + 60) k qX10_years 115 [mR 18 58 112, mI x1, mI m, mI x3, mI x4, mI P.2.2.2, mI x6, u7] [] M' Q := by
    intro P M' x6 u7 hP hP72 hPf k' e' w'
    have h := fun v => hQ M' v k'
    rw [← hP] at h
    have Bk := B_X10_years_115 (d := d + 59) (k := k) (M := M') (Q := Q) (x1 := x1) (x2 := m) (x3 := x3) (x4 := x4) (x5 := P.2.2.2) (x6 := x6) (u7 := u7)
    rw [w'.1] at Bk
    refine Bk ⟨fun z0 => ⟨fun z2 => ?_, fun z2 => h _ ⟨e', by rw [if_neg z0, if_neg (by omega)]⟩⟩, fun z0 => h _ ⟨e', by rw [if_pos z0]⟩⟩
    have loop : ∀ r j : Nat, j + r = P.2.1 → V (d + 60) k qX10_years 140 [mR 18 58 112, mI x1, mI m, mI x3, mI x4, mI P.2.2.2, mI (sg (fun b => c - P.2.2.1 b) j), mI j] [] M' Q := by
      intro r
      induction r with
      | zero =>
        intro j hj
        have Bk := B_X10_years_140 (d := d + 59) (k := k) (M := M') (Q := Q) (x1 := x1) (x2 := m) (x3 := x3) (x4 := x4) (x5 := P.2.2.2) (x6 := sg (fun b => c - P.2.2.1 b) j) (x7 := j)
        rw [w'.1] at Bk
        refine Bk ⟨fun _ => h _ ⟨e', ?_⟩, fun y => by omega⟩
        rw [if_neg z0, if_pos (by omega), show j = P.2.1 by omega]
      | succ r ih =>
        intro j hj
        have hs := sg_bd2 (f := fun b => c - P.2.2.1 b) (c := c) (n := j) (fun b hb => by have := hPf b (by omega); show 0 ≤ c - P.2.2.1 b ∧ c - P.2.2.1 b ≤ c; omega) (by omega) (by omega)
        have hj' := hPf j (by omega)
        have Bk := B_X10_years_140 (d := d + 59) (k := k) (M := M') (Q := Q) (x1 := x1) (x2 := m) (x3 := x3) (x4 := x4) (x5 := P.2.2.2) (x6 := sg (fun b => c - P.2.2.1 b) j) (x7 := j)
        rw [w'.1, w'.2.2 j (by omega)] at Bk
        exact Bk ⟨fun y => by omega, fun _ => ⟨by omega, by omega, by omega, ih (j + 1) (by omega)⟩⟩
    exact loop P.2.1 0 (by omega)
  have e7 : ∀ M' : mM, kpM M M' → M' 112 7 = K := fun M' k' => by rw [k'.2 7 (by simp)]; exact hL.2.2.2.2.2.1
  by_cases hK0 : K = 0
  · have e := fin (x1, n, wtB K M, 0) M3 0 (mE 0) (eE.2 hK0).symm (by show n ≤ 72; omega) hwb k3 e53 mb3
    have e73 : M3 112 7 = 0 := by rw [e7 M3 k3, hK0]; rfl
    exact B_X10_years_73 ⟨fun _ => e, fun _ => ⟨fun _ => e, fun z => by omega⟩⟩
  · have hz : ∀ s : Nat, s < K → 0 ≤ M 9 s ∧ M 9 s ≤ c := fun s hs => by have := hS.sz hs; omega
    have ok := fun j => yrP_ok (c := c) (K := K) (sz := M 9) (way := x3) (old := n) (x0 := x1) (n := n) (f0 := wtB K M) (by omega) hz hwb j
    have loop : ∀ (r j : Nat) (M' : mM) (u7 : mV), j + r = m → kpM M M' → M' 112 5 = 0 → M' 112 57 = (yrP c K (M 9) x3 n x1 n (wtB K M) j).1 → (∀ s : Nat, s < K → M' 122 s = M 9 s) → mbRel c M' (yrP c K (M 9) x3 n x1 n (wtB K M) j).2.1 (yrP c K (M 9) x3 n x1 n (wtB K M) j).2.2.1 → V (d + 60) k qX10_years 73 [mR 18 58 112, mI x1, mI m, mI x3, mI x4, mI (yrP c K (M 9) x3 n x1 n (wtB K M) j).2.2.2, mI j, u7] [] M' Q := by
      intro r
      induction r with
      | zero =>
        intro j M' u7 hj k' e' v' s' w'
        have e : j = m := by omega
        subst e
        have o := ok j
        exact B_X10_years_73 ⟨fun _ => fin _ M' j u7 (eE.1 (by omega)).symm (by have := o.1; omega) o.2.1 k' e' w', fun z => by omega⟩
      | succ r ih =>
        intro j M' u7 hj k' e' v' s' w'
        have o := ok j
        have nx := fun M'' u7 => ih (j + 1) M'' u7 (by omega)
        have eS : yrP c K (M 9) x3 n x1 n (wtB K M) (j + 1) = yrS c K (M 9) x3 n (yrP c K (M 9) x3 n x1 n (wtB K M) j) := rfl
        rw [eS] at nx
        generalize yrP c K (M 9) x3 n x1 n (wtB K M) j = P at *
        have Bk := B_X10_years_73 (d := d + 59) (k := k) (M := M') (Q := Q) (x1 := x1) (x2 := m) (x3 := x3) (x4 := x4) (x5 := P.2.2.2) (x6 := j) (u7 := u7)
        rw [e7 M' k'] at Bk
        refine Bk ⟨fun y => by omega, fun _ => ⟨fun y => by omega, fun _ => ?_⟩⟩
        have Bd := fun Q' => B_X10_draw_0W (d := d + 59) (k := 0) (M := M') (Q := Q') (x1 := K)
        have en : (Int32.ofInt ((Int32.ofInt (P.1 * 1103515245)).toInt + 12345)).toInt = nxS P.1 := rfl
        rw [v', en, dwM_v nxS_rg] at Bd
        have hd0 : 0 ≤ nxS P.1 / 65536 % 32768 % (K : Int) := Int.emod_nonneg _ (by omega)
        have hd1 : nxS P.1 / 65536 % 32768 % (K : Int) < K := Int.emod_lt_of_pos _ (by omega)
        refine Bd _ ⟨by omega, B_X10_years_96 ?_⟩
        obtain ⟨s, hs⟩ : ∃ s : Nat, nxS P.1 / 65536 % 32768 % (K : Int) = s := ⟨(nxS P.1 / 65536 % 32768 % (K : Int)).toNat, by omega⟩
        have eZ : yrZ K (M 9) (nxS P.1) = M 9 s := by unfold yrZ; rw [hs]
        rw [hs] at hd0 hd1 ⊢
        unfold yrS at nx
        rw [eZ] at nx
        have hzs := hz s (by omega)
        have k4 : kpM M (mUp M' 112 57 (nxS P.1)) := k'.fl (by simp)
        have s4 : mUp M' 112 57 (nxS P.1) 122 s = M 9 s := by rw [up_row (by decide)]; exact s' s (by omega)
        have w4 : mbRel c (mUp M' 112 57 (nxS P.1)) P.2.1 P.2.2.1 := ⟨by rw [up_fld (by decide)]; exact w'.1, by rw [up_fld (by decide)]; exact w'.2.1, fun b hb => by rw [up_row (by decide)]; exact w'.2.2 b hb⟩
        have hP1 := o.1
        refine c_X10_comesInto (c := c) (f := P.2.2.1) w4 (by omega) h3 (by omega) (by rw [s4]; omega) hc (fun b hb => by have := o.2.1 b hb; omega) (fun M5 p1 p2 => ?_)
        rw [s4] at p2 ⊢
        have k5 : kpM M M5 := k4.tr (kpM.of p1 (fun n hn => by simp at hn; omega) (fun i hi => by simp at hi ⊢; omega))
        have e55 : M5 112 5 = 0 := by rw [p1.2 5 (by simp), up_fld (by decide)]; exact e'
        have v5 : M5 112 57 = nxS P.1 := by rw [p1.2 57 (by simp), up_s]
        have s5 : ∀ t : Nat, t < K → M5 122 t = M 9 t := fun t ht => by rw [p1.1 122 (by simp) (by decide), up_row (by decide)]; exact s' t ht
        have e6 : M5 113 6 = n := by rw [k5.1 113 (by omega) (by omega)]; exact hn
        have o3 := o.2.2
        have nx5 := fun u7 => nx M5 u7 k5 e55 v5 s5 p2
        refine B_X10_years_99 (c_X10_bins (fun r hr => ?_))
        rw [e6] at hr
        subst hr
        refine B_X10_years_103 ⟨fun y => ⟨by omega, ?_⟩, fun y => ⟨by omega, by omega, ?_⟩⟩
        · have a := nx5 u7
          rw [if_neg (by omega), Int.add_zero] at a
          exact a
        · have a := nx5 u7
          rw [if_pos (by omega)] at a
          exact a
    exact loop m 0 M3 _ (by omega) k3 e53 w3 s3 mb3
