/-! questions: count, toHold, spare -/
def wsF (c : Int) (K : Nat) (M : mM) (n : Nat) : Int := sg (fun b => c - wtB K M b) n
theorem c_X9_copyFilled {d k : Nat} {c : Int} {K : Nat} {N : Int} {M : mM} {Q : mRes → mM → Prop} (hS : St c K N M) (hQ : ∀ M', frN [111] M M' → (∀ b : Nat, (b : Int) < M 113 6 → M' 111 b = wtB K M b) → Q (.inl (some (mI (M 113 6)))) M') : V (d + 2) k qX9_copyFilled 0 [mR 17 15 0, mE 0, mE 0] [] M Q := by
  have h13 := hS.b13
  refine B_X9_copyFilled_0 (c_X7_bins (Or.inl rfl) (by show 0 ≤ M 17 13 ∧ M 17 13 ≤ 12; omega) (fun r hr => B_X9_copyFilled_7 ?_))
  have er : r = M 113 6 := by rw [hr]; exact h13.1
  subst er
  obtain ⟨n, hn⟩ : ∃ n : Nat, M 113 6 = n := ⟨(M 113 6).toNat, by omega⟩
  have loop : ∀ (r j : Nat) (M' : mM), j + r = n → frN [111] M M' → (∀ b : Nat, b < j → M' 111 b = wtB K M b) → V (d + 2) k qX9_copyFilled 10 [mR 17 15 0, mI (M 113 6), mI j] [] M' Q := by
    intro r
    induction r with
    | zero =>
      intro j M' hj g1 g2
      exact B_X9_copyFilled_10 ⟨fun _ => hQ M' g1 (fun b hb => g2 b (by omega)), fun z => by omega⟩
    | succ r ih =>
      intro j M' hj g1 g2
      have hS' : St c K N M' := hS.kx (fun m hm => g1 m (by simp; omega))
      have ew : wtB K M' j = wtB K M j := by unfold wtB; rw [g1 9 (by simp), g1 113 (by simp)]
      refine B_X9_copyFilled_10 ⟨fun z => by omega, fun _ => ⟨fun z => by omega, fun _ => ⟨by omega, c_X9_wt hS' (by omega) (B_X9_copyFilled_45 ⟨by omega, by omega, ih (j + 1) _ (by omega) (g1.up (by simp)) (fun b hb => ?_)⟩)⟩⟩⟩
      by_cases e : (b : Int) = j
      · rw [e, up_s, ew]
      · rw [up_fld e]; exact g2 b (by omega)
  exact loop n 0 M (by omega) frN.rf (fun b hb => by omega)
theorem c_X9_freeAbove {d k : Nat} {M : mM} {Q : mRes → mM → Prop} {c : Int} {n : Nat} {f : Int → Int} (hc : M 8 0 = c) (hc9 : 1 ≤ c ∧ c ≤ 99) (hn : n ≤ 72) (hf : ∀ b : Nat, b < n → M 111 b = f b ∧ 0 ≤ f b ∧ f b ≤ c) (hQ : Q (.inl (some (mI (sg (fun b => c - f b) n)))) M) : V d k qX9_freeAbove 0 [mR 17 15 0, mI n, mE 0, mE 0] [] M Q := by
  have loop : ∀ r j : Nat, j + r = n → V d k qX9_freeAbove 4 [mR 17 15 0, mI n, mI (sg (fun b => c - f b) j), mI j] [] M Q := by
    intro r
    induction r with
    | zero =>
      intro j hj
      exact B_X9_freeAbove_4 ⟨fun _ => by rw [show j = n by omega]; exact hQ, fun z => by omega⟩
    | succ r ih =>
      intro j hj
      have h1 := sg_bd (f := fun b => c - f b) (c := 99) (n := j) (fun i hi => by have := hf i (by omega); show 0 ≤ c - f i ∧ c - f i ≤ 99; omega)
      have h2 := hf j (by omega)
      have Bk := B_X9_freeAbove_4 (d := d) (k := k) (M := M) (Q := Q) (x1 := n) (x2 := sg (fun b => c - f b) j) (x3 := j)
      rw [hc, h2.1] at Bk
      exact Bk ⟨fun z => by omega, fun _ => ⟨fun z => by omega, fun _ => ⟨by omega, by omega, by omega, by omega, ih (j + 1) (by omega)⟩⟩⟩
  exact B_X9_freeAbove_0 (loop n 0 (by omega))
theorem c_X9_wasteNow {d k : Nat} {c : Int} {K : Nat} {N : Int} {M : mM} {Q : mRes → mM → Prop} (hS : St c K N M) (hQ : ∀ M', frN [111] M M' → Q (.inl (some (mI (wsF c K M (M 113 6).toNat)))) M') : V (d + 3) k qX9_wasteNow 0 [mR 17 15 0] [] M Q := by
  have h13 := hS.b13
  refine B_X9_wasteNow_0 (c_X9_copyFilled hS (fun M' g1 g2 => B_X9_wasteNow_5 ?_))
  obtain ⟨n, hn⟩ : ∃ n : Nat, M 113 6 = n := ⟨(M 113 6).toNat, by omega⟩
  rw [hn] at hQ ⊢
  refine c_X9_freeAbove (f := fun b => wtB K M b) (by rw [g1 8 (by simp)]; exact hS.1.2.2.1) hS.1.1 (by omega) (fun b hb => ⟨g2 b (by omega), (hS.bin (b := b) (by omega)).2.2.2⟩) (B_X9_wasteNow_8 ?_)
  have := hQ M' g1
  rw [show (n : Int).toNat = n by omega] at this
  exact this
theorem c_X10_waste {d k : Nat} {c : Int} {K : Nat} {N : Int} {M : mM} {Q : mRes → mM → Prop} (hS : St c K N M) (hQ : Q (.inl (some (mI (wsF c K M (M 113 6).toNat)))) M) : V (d + 2) k qX10_waste 0 [mR 18 58 112, mE 0, mE 0] [] M Q := by
  have h13 := hS.b13
  have hc := hS.1.1
  obtain ⟨n, hn⟩ : ∃ n : Nat, M 113 6 = n := ⟨(M 113 6).toNat, by omega⟩
  rw [hn, show (n : Int).toNat = n by omega] at hQ
  have loop : ∀ r j : Nat, j + r = n → V (d + 2) k qX10_waste 4 [mR 18 58 112, mI (wsF c K M j), mI j] [] M Q := by
    intro r
    induction r with
    | zero =>
      intro j hj
      refine B_X10_waste_4 (c_X10_bins (fun x hx => B_X10_waste_9 ⟨fun _ => ?_, fun z => by omega⟩))
      rw [show j = n by omega]; exact hQ
    | succ r ih =>
      intro j hj
      have hw := (hS.bin (b := j) (by omega)).2.2.2
      have h1 := sg_bd (f := fun b => c - wtB K M b) (c := 99) (n := j) (fun i hi => by have := (hS.bin (b := i) (by omega)).2.2.2; show 0 ≤ c - wtB K M i ∧ c - wtB K M i ≤ 99; omega)
      have h1' : 0 ≤ wsF c K M j ∧ wsF c K M j ≤ 99 * j := h1
      refine B_X10_waste_4 (c_X10_bins (fun x hx => B_X10_waste_9 ⟨fun z => by omega, fun _ => c_X10_wt hS (by omega) ?_⟩))
      rw [hS.1.2.2.2.1]
      exact B_X10_waste_22 ⟨by omega, by omega, by omega, ih (j + 1) (by omega)⟩
  exact B_X10_waste_0 (loop n 0 (by omega))
/-! count -/
def an_count (c : Int) (K : Nat) (M : mM) (w : Int) : An := if 0 ≤ w ∧ w ≤ 12 then .inl (if w = 0 then c else if w = 1 then (K : Int) else if w = 2 then sg (M 113) K else if w = 3 then M 113 6 else if w = 4 then wsF c K M (M 113 6).toNat else if w = 5 then crF c K M K else if w = 6 then sg (apF c M) K else if w = 7 then M 112 8 else if w = 8 then M 112 10 else if w = 9 then M 112 16 else M 117 (w - 10)) else .inr 1
theorem St.s6 {c : Int} {K : Nat} {N : Int} {M : mM} (h : St c K N M) : sg (M 113) 6 = sg (M 113) K := sg_ext h.1.2.1 (fun j h1 h2 => (h.row.2.1 j h2).2.2 h1)
theorem St.rf {c : Int} {K : Nat} {N : Int} {M : mM} (h : St c K N M) {i : Nat} (hi : i < 3) : M 18 i = M 117 i ∧ 0 ≤ M 18 i ∧ M 18 i ≤ N := by
  have := h.2.1.2.2.2.2 i hi
  rw [Int.zero_add] at this
  exact this
theorem xq_count {d : Nat} {c : Int} {K : Nat} {N : Int} {M : mM} {Q : mRes → mM → Prop} {w : Int} (hS : St c K N M) (hQ : ∀ M', kpX M M' → Q (xr (an_count c K M w)) M') : V (d + 60) 3 qX9_count 0 [mR 17 15 0, mI w] [] M Q := by
  have h13 := hS.b13
  have hr := hS.row
  have hL := hS.1
  have hI := hS.2.1.1
  unfold an_count at hQ
  have h0 := hQ M kpX.rf
  have r0 := (hS.rf (i := 0) (by omega)).1
  have r1 := (hS.rf (i := 1) (by omega)).1
  have r2 := (hS.rf (i := 2) (by omega)).1
  refine B_X9_count_0 ⟨fun e => ?_, fun e => ?_, fun e => c_X7_restOfAll (Or.inl rfl) hr.1.1 (fun s hs => by have := hS.mn s hs; omega) (fun r hr' => B_X9_count_91 ?_), fun e => c_X7_bins (Or.inl rfl) (by show 0 ≤ M 17 13 ∧ M 17 13 ≤ 12; omega) (fun r hr' => B_X9_count_99 ?_), fun e => c_X9_wasteNow hS (fun M' g => B_X9_count_104 ?_), fun e => c_X9_restNow hS (fun M1 q => B_X9_count_110 (c_X9_critical hS q (fun M2 kp => B_X9_count_113 ?_))), fun e => c_X9_restNow hS (fun M1 q => B_X9_count_118 (c_X9_apart hS q (B_X9_count_121 ?_))), fun e => ?_, fun e => ?_, fun e => ?_, fun e => ?_, fun e => ?_, fun e => ?_, fun e => ⟨by omega, by omega, ?_⟩⟩
  · subst e; rw [hL.2.2.1]; exact h0
  · subst e; rw [hL.2.2.2.2.1]; exact h0
  · subst e; rw [hr', hS.s6]; exact h0
  · subst e; rw [hr', show M (16 + 1) 13 = M 113 6 from h13.1]; exact h0
  · subst e; exact hQ M' (fun n hn => g n (by simp; omega))
  · subst e; exact hQ M2 kp
  · subst e; exact hQ M1 q.kp
  · subst e; rw [hI.1]; exact h0
  · subst e; rw [hI.2.1]; exact h0
  · subst e; rw [hS.2.2.2.1.1]; exact h0
  · subst e; rw [show M 18 0 = M 117 0 from r0]; exact h0
  · subst e; rw [show M 18 1 = M 117 1 from r1]; exact h0
  · subst e; rw [show M 18 2 = M 117 2 from r2]; exact h0
  · rw [if_neg (by omega)] at h0; exact h0
theorem mq_count {d k : Nat} {c : Int} {K : Nat} {N : Int} {M : mM} {Q : mRes → mM → Prop} {w : Int} (hS : St c K N M) (hQ : ∀ M' v, kpM M M' → mr (fun _ => 1) (an_count c K M w) M' v → Q (.inl (some (mI v))) M') : V (d + 60) k qX10_count 0 [mR 18 58 112, mI w] [] M Q := by
  have h13 := hS.b13
  have hL := hS.1
  have hK6 := hL.2.1
  unfold an_count at hQ
  have hS0 := hS.m0 (v := 0)
  have kp0 : kpM M (mUp M 112 5 0) := kpM.rf.fl (by simp)
  have r0 : ∀ n, n ≠ 112 → mUp M 112 5 0 n = M n := fun n hn => up_row hn
  have f0 : ∀ i : Int, i ≠ 5 → mUp M 112 5 0 112 i = M 112 i := fun i hi => up_fld hi
  refine B_X10_count_0 (c_X10_within (fun x hx => B_X10_count_13 (c_X10_fine up_s (by decide) (fun hz => B_X10_count_17 ⟨fun z => (z rfl).elim, fun _ => hQ _ 0 (kp0.fl (by simp)) ?_⟩) (fun hz => B_X10_count_17 ⟨fun _ => ?_, fun z => by omega⟩))))
  · have hn : ¬ (0 ≤ w ∧ w ≤ 12) := fun z => by rw [if_pos z] at hx; omega
    rw [if_neg hn]; exact up_s
  · have hn : 0 ≤ w ∧ w ≤ 12 := by
      by_cases z : 0 ≤ w ∧ w ≤ 12
      · exact z
      · rw [if_neg z] at hx; omega
    rw [if_pos hn] at hQ
    have go := fun v hv => hQ (mUp M 112 5 0) v kp0 ⟨up_s, hv⟩
    have e9 : mUp M 112 5 0 9 = M 9 := m0e.1
    have e113 : mUp M 112 5 0 113 = M 113 := m0e.2
    have ew : ∀ b, wtB K (mUp M 112 5 0) b = wtB K M b := fun b => by unfold wtB; rw [e9, e113]
    have ecr : ∀ j, crF c K (mUp M 112 5 0) j = crF c K M j := fun j => by
      induction j with
      | zero => rfl
      | succ j ih =>
        show (if 0 < mUp M 112 5 0 113 j ∧ fwS c K (mUp M 112 5 0) j (mUp M 112 5 0 113 j - 1) < (fwT c K (mUp M 112 5 0)).1 then _ else _) = (if 0 < M 113 j ∧ fwS c K M j (M 113 j - 1) < (fwT c K M).1 then _ else _)
        rw [ih, e113]
        show (if 0 < M 113 j ∧ (fewT c K (mUp M 112 5 0 9) (fset (mUp M 112 5 0 113) j (M 113 j - 1)) (orF (mUp M 112 5 0 9) K)).1 < (fewT c K (mUp M 112 5 0 9) (mUp M 112 5 0 113) (orF (mUp M 112 5 0 9) K)).1 then _ else _) = _
        rw [e9, e113]
    have eap : apF c (mUp M 112 5 0) = apF c M := by unfold apF; rw [e9, e113]
    have Bk : ∀ P : Prop, P → P := fun _ h => h
    refine ⟨fun e => go _ ?_, fun e => go _ ?_, fun e => c_X10_restMany (by rw [f0 7 (by decide)]; exact hL.2.2.2.2.2.1) hK6 (fun s hs => by rw [e113]; have := hS.mn s hs; omega) (fun r hr => B_X10_count_90 (go _ ?_)), fun e => c_X10_bins (fun r hr => B_X10_count_95 (go _ ?_)), fun e => c_X10_waste hS0 (B_X10_count_100 (go _ ?_)), fun e => c_X10_critical hS0 (fun M2 g h5 => B_X10_count_105 (hQ M2 _ (kp0.tr g) ⟨by rw [h5]; exact up_s, ?_⟩)), fun e => c_X10_apart hS0 (fun M2 g h5 => B_X10_count_110 (hQ M2 _ (kp0.tr g) ⟨by rw [h5]; exact up_s, ?_⟩)), fun e => go _ ?_, fun e => go _ ?_, fun e => go _ ?_, fun e => ⟨by omega, by omega, go _ ?_⟩⟩
    · subst e; rw [f0 6 (by decide), hL.2.2.2.1]; rfl
    · subst e; rw [f0 7 (by decide), hL.2.2.2.2.2.1]; rfl
    · subst e; rw [hr, e113]; rfl
    · subst e; rw [hr, e113]; rfl
    · subst e
      show sg (fun b => c - wtB K (mUp M 112 5 0) b) _ = sg (fun b => c - wtB K M b) _
      rw [e113, sg_congr (f := fun b => c - wtB K (mUp M 112 5 0) b) (g := fun b => c - wtB K M b) (fun j _ => by show c - _ = c - _; rw [ew])]
    · subst e; rw [ecr]; rfl
    · subst e; rw [eap]; rfl
    · subst e; rw [f0 8 (by decide)]; rfl
    · subst e; rw [f0 10 (by decide)]; rfl
    · subst e; rw [f0 16 (by decide)]; rfl
    · rw [r0 117 (by decide), if_neg (by omega), if_neg (by omega), if_neg (by omega), if_neg (by omega), if_neg (by omega), if_neg (by omega), if_neg (by omega), if_neg (by omega), if_neg (by omega), if_neg (by omega)]
