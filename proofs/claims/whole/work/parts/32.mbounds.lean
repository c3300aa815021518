/-! the bounds as the model has them -/
theorem up_row {M : mM} {n i v n' : Int} (h : n' ≠ n) : mUp M n i v n' = M n' := funext fun j => up_n h rfl
theorem up_fld {M : mM} {n i v i' : Int} (h : i' ≠ i) : mUp M n i v n i' = M n i' := up_i h rfl
theorem up_up {M : mM} {n i v w : Int} : mUp (mUp M n i v) n i w = mUp M n i w := by
  funext n' i'
  unfold mUp
  split <;> rfl
theorem rUp_up {n b : Int} (hn : 0 ≤ n) (hb : 1 ≤ b) : (n + b - 1) / b = rUp n b := by
  unfold rUp
  by_cases h : n < 1
  · rw [if_pos (by omega), show n + b - 1 = b - 1 by omega]
    exact Int.ediv_eq_zero_of_lt (by omega) (by omega)
  · rw [if_neg (by omega), show n + b - 1 = (n - 1) + 1 * b by omega, Int.add_mul_ediv_right _ _ (by omega)]
theorem c_X10_up {d k : Nat} {M : mM} {Q : mRes → mM → Prop} {x y : Int} (hx : 0 ≤ x ∧ x ≤ 1000000) (hy : 1 ≤ y ∧ y ≤ 1000000) (hQ : ∀ r, r = rUp x y → Q (.inl (some (mI r))) M) : V d k qX10_up 0 [mI x, mI y] [] M Q := by
  refine B_X10_up_0  ⟨?_, ?_, ?_, ?_⟩ <;> try omega
  · exact hQ _ (rUp_up hx.1 hy.1)
theorem c_X10_greater {d k : Nat} {M : mM} {Q : mRes → mM → Prop} {x y : Int} (hQ : ∀ r, r = max x y → Q (.inl (some (mI r))) M) : V d k qX10_greater 0 [mI x, mI y] [] M Q := by
  refine B_X10_greater_0  ⟨fun c1 => ?_, fun c1 => ?_⟩ <;> try omega
  · exact hQ _ (by omega)
  · exact hQ _ (by omega)
theorem c_X10_area {d k : Nat} {M : mM} {Q : mRes → mM → Prop} {a1 at_ c : Int} {l1 K : Nat} (hc : M 112 33 = c) (hK : M 112 7 = K) (h : LotOK c K (M 122) (fun j => M a1 (at_ + j))) (ha : 0 ≤ at_ ∧ at_ + 6 ≤ l1) (hl : l1 ≤ 1000) (hQ : ∀ r, r = areaF c K (M 122) (fun j => M a1 (at_ + j)) → Q (.inl (some (mI r))) M) : V (d + 1) k qX10_area 0 [mR 18 58 112, mR 0 l1 a1, mI at_, mE 0, mE 0] [] M Q := by
  have h6 := h.2.2.1
  have hc1 := h.1
  have hc2 := h.2.1
  have hw : 0 ≤ sg (fun j => M 122 j * M a1 (at_ + j)) K ∧ sg (fun j => M 122 j * M a1 (at_ + j)) K ≤ 14256 := wtF_bd h
  have loop : ∀ (r j : Nat) (b : Int), j + r = K → b = sg (fun j => M 122 j * M a1 (at_ + j)) j → V (d + 1) k qX10_area 5 [mR 18 58 112, mR 0 l1 a1, mI at_, mI b, mI j] [] M Q := by
    intro r
    induction r with
    | zero =>
      intro j b hj hb
      rw [show j = K by omega] at hb
      refine B_X10_area_5  ⟨fun c1 => ?_, fun c1 => ⟨?_, ?_, ?_, ?_, ?_, ?_, ?_⟩⟩ <;> try omega
      · exact c_X10_up (by omega) (by omega) (fun r2 hr2 => B_X10_area_45 (hQ _ (by rw [hr2, hb, hc]; rfl)))
    | succ r ih =>
      intro j b hj hb
      have h1 := h.w (j := j) (by omega)
      try dsimp only at h1
      have h2 := sg_bd (f := fun j => M 122 j * M a1 (at_ + j)) (c := 2376) (n := j) (fun i hi => h.w (by omega))
      have h3 : M a1 (at_ + j) * M 122 j = M 122 j * M a1 (at_ + j) := Int.mul_comm _ _
      have e : sg (fun j => M 122 j * M a1 (at_ + j)) (j + 1) = sg (fun j => M 122 j * M a1 (at_ + j)) j + M 122 j * M a1 (at_ + j) := rfl
      refine B_X10_area_5  ⟨fun c1 => ?_, fun c1 => ⟨?_, ?_, ?_, ?_, ?_, ?_, ?_⟩⟩ <;> try omega
      · exact ih (j + 1) _ (by omega) (by rw [e]; omega)
  exact B_X10_area_0 (loop K 0 0 (by omega) rfl)
set_option maxHeartbeats 1000000 in
theorem c_X10_splits {d k : Nat} {M : mM} {Q : mRes → mM → Prop} {a1 at_ c a : Int} {l1 K : Nat} (hc : M 112 33 = c) (hK : M 112 7 = K) (h : LotOK c K (M 122) (fun j => M a1 (at_ + j))) (hat : 0 ≤ at_ ∧ at_ + 6 ≤ l1) (hl : l1 ≤ 1000) (ha : 0 ≤ a ∧ a ≤ 99) (hQ : ∀ r, r = splitF c K (M 122) (fun j => M a1 (at_ + j)) a → Q (.inl (some (mI r))) M) : V (d + 1) k qX10_splits 0 [mR 18 58 112, mR 0 l1 a1, mI at_, mI a, mE 0, mE 0, mE 0] [] M Q := by
  have h6 := h.2.2.1
  have hc1 := h.1
  have hc2 := h.2.1
  have loop : ∀ (r j : Nat) (b o : Int), j + r = K → b = sg (sB c a (M 122) (fun j => M a1 (at_ + j))) j → o = -sg (sO c a (M 122) (fun j => M a1 (at_ + j))) j → V (d + 1) k qX10_splits 9 [mR 18 58 112, mR 0 l1 a1, mI at_, mI a, mI b, mI o, mI j] [] M Q := by
    intro r
    induction r with
    | zero =>
      intro j b o hj hb ho
      rw [show j = K by omega] at hb ho
      have h1 := sg_bd (f := sB c a (M 122) (fun j => M a1 (at_ + j))) (c := 24) (n := K) (fun j hj => sB_bd h hj)
      have h2 := sg_ab (f := sO c a (M 122) (fun j => M a1 (at_ + j))) (c := 2376) (by decide) (n := K) (fun j hj => sO_bd h hj)
      have h3 := splitF_bd (a := a) h
      unfold splitF at h3
      refine B_X10_splits_9  ⟨fun c1 => ⟨fun c2 => ?_, fun c2 => ⟨?_, ?_⟩⟩, fun c1 => ⟨?_, ?_, fun c2 => ⟨?_, ?_, fun c3 => ⟨?_, fun c4 => ⟨?_, ?_⟩, fun c4 => ⟨?_, ?_, ?_, ?_, ?_, ?_, ?_⟩⟩, fun c3 => ⟨?_, ?_, ?_, ?_, ?_, ?_, ?_, ?_, ?_, ?_, ?_⟩⟩, fun c2 => ⟨?_, ?_, ?_, ?_, ?_⟩⟩⟩ <;> try omega
      · refine hQ _ ?_
        unfold splitF
        rw [hb, show rUp (sg (sO c a (M 122) (fun j => M a1 (at_ + j))) K) c = 0 by unfold rUp; rw [if_pos (by omega)]]
        omega
      · refine c_X10_up (by omega) (by omega) (fun r2 hr2 => ?_)
        rw [hc, ho, Int.neg_neg] at hr2
        refine B_X10_splits_155 ⟨by omega, hQ _ ?_⟩
        unfold splitF
        rw [hr2, hb]
    | succ r ih =>
      intro j b o hj hb ho
      have hjK : j < K := by omega
      have h0 := h.2.2.2 j hjK
      try dsimp only at h0
      have h1 := sg_bd (f := sB c a (M 122) (fun j => M a1 (at_ + j))) (c := 24) (n := j) (fun i hi => sB_bd h (by omega))
      have h2 := sg_ab (f := sO c a (M 122) (fun j => M a1 (at_ + j))) (c := 2376) (by decide) (n := j) (fun i hi => sO_bd h (by omega))
      have h4 := mulb (x := M a1 (at_ + j)) (y := c - M 122 j) (a := 24) (b := 99) (by omega) (by omega)
      have h5 := mulb (x := M a1 (at_ + j)) (y := M 122 j) (a := 24) (b := 99) (by omega) (by omega)
      have eB : sg (sB c a (M 122) (fun j => M a1 (at_ + j))) (j + 1) = sg (sB c a (M 122) (fun j => M a1 (at_ + j))) j + (if M 122 j ≤ c - a then (if 2 * M 122 j ≤ c then 0 else M a1 (at_ + j)) else M a1 (at_ + j)) := rfl
      have eO : sg (sO c a (M 122) (fun j => M a1 (at_ + j))) (j + 1) = sg (sO c a (M 122) (fun j => M a1 (at_ + j))) j + (if M 122 j ≤ c - a then (if 2 * M 122 j ≤ c then (if M 122 j < a then 0 else M a1 (at_ + j) * M 122 j) else -(M a1 (at_ + j) * (c - M 122 j))) else 0) := rfl
      have ih := ih (j + 1)
      rw [eB, eO] at ih
      subst hc
      refine B_X10_splits_9  ⟨fun c1 => ⟨fun c2 => ?_, fun c2 => ⟨?_, ?_⟩⟩, fun c1 => ⟨?_, ?_, fun c2 => ⟨?_, ?_, fun c3 => ⟨?_, fun c4 => ⟨?_, ?_⟩, fun c4 => ⟨?_, ?_, ?_, ?_, ?_, ?_, ?_⟩⟩, fun c3 => ⟨?_, ?_, ?_, ?_, ?_, ?_, ?_, ?_, ?_, ?_, ?_⟩⟩, fun c2 => ⟨?_, ?_, ?_, ?_, ?_⟩⟩⟩ <;> try omega
      · refine ih _ _ (by omega) ?_ ?_
        · rw [if_pos (by omega), if_pos (by omega)]; omega
        · rw [if_pos (by omega), if_pos (by omega), if_pos (by omega)]; omega
      · refine ih _ _ (by omega) ?_ ?_
        · rw [if_pos (by omega), if_pos (by omega)]; omega
        · rw [if_pos (by omega), if_pos (by omega), if_neg (by omega)]; omega
      · refine ih _ _ (by omega) ?_ ?_
        · rw [if_pos (by omega), if_neg (by omega)]; omega
        · rw [if_pos (by omega), if_neg (by omega)]; omega
      · refine ih _ _ (by omega) ?_ ?_
        · rw [if_neg (by omega)]; omega
        · rw [if_neg (by omega)]; omega
  exact B_X10_splits_0 (loop K 0 0 0 (by omega) rfl rfl)
theorem md_iff {x c : Int} (hc : 1 ≤ c) : x % c = 0 ↔ x / c * c = x := by
  have h := Int.emod_def x c
  have h2 : c * (x / c) = x / c * c := Int.mul_comm _ _
  omega
set_option maxHeartbeats 1000000 in
theorem c_X10_stepped {d k : Nat} {M : mM} {Q : mRes → mM → Prop} {a1 at_ c kk : Int} {l1 K : Nat} (hc : M 112 33 = c) (hK : M 112 7 = K) (h : LotOK c K (M 122) (fun j => M a1 (at_ + j))) (hat : 0 ≤ at_ ∧ at_ + 6 ≤ l1) (hl : l1 ≤ 1000) (hk : 1 ≤ kk ∧ kk ≤ 20) (hQ : ∀ r, r = stepF c K (M 122) (fun j => M a1 (at_ + j)) kk → Q (.inl (some (mI r))) M) : V (d + 1) k qX10_stepped 0 [mR 18 58 112, mR 0 l1 a1, mI at_, mI kk, mE 0, mE 0, mE 0] [] M Q := by
  have h6 := h.2.2.1
  have hc1 := h.1
  have hc2 := h.2.1
  have hkc := mulp (x := kk) (y := c) (a := 20) (b := 99) (by omega) (by omega)
  have hkc1 : 1 ≤ kk * c := by
    have := Int.mul_pos (a := kk) (b := c) (by omega) (by omega)
    omega
  have loop : ∀ (r j : Nat) (b : Int) (u : mV), j + r = K → b = sg (stF c kk (M 122) (fun j => M a1 (at_ + j))) j → V (d + 1) k qX10_stepped 6 [mR 18 58 112, mR 0 l1 a1, mI at_, mI kk, mI b, mI j, u] [] M Q := by
    intro r
    induction r with
    | zero =>
      intro j b u hj hb
      rw [show j = K by omega] at hb
      have h3 := stepF_bd h hk
      refine B_X10_stepped_6  ⟨fun c1 => ⟨?_, ?_⟩, fun c1 => ⟨?_, ?_, ?_, ?_, ?_, ?_, fun c2 => ⟨?_, ?_, ?_, ?_, ?_, ?_⟩, fun c2 => ⟨?_, ?_, ?_, ?_, ?_, ?_⟩⟩⟩ <;> try omega
      · rw [hc]; omega
      · rw [hc]
        exact c_X10_up (by omega) (by omega) (fun r2 hr2 => B_X10_stepped_91 (hQ _ (by unfold stepF; rw [hr2, hb])))
    | succ r ih =>
      intro j b u hj hb
      have hjK : j < K := by omega
      have h0 := stF_bd h hk hjK
      try dsimp only at h0
      have h1 := sg_bd (f := stF c kk (M 122) (fun j => M a1 (at_ + j))) (c := 49896) (n := j) (fun i hi => (stF_bd h hk (by omega)).2.2.2.2.2)
      have eS : sg (stF c kk (M 122) (fun j => M a1 (at_ + j))) (j + 1) = sg (stF c kk (M 122) (fun j => M a1 (at_ + j))) j + stF c kk (M 122) (fun j => M a1 (at_ + j)) j := rfl
      have hz : c * ((kk + 1) * M 122 j / c) = (kk + 1) * M 122 j / c * c := Int.mul_comm _ _
      have hm := md_iff (x := (kk + 1) * M 122 j) hc1
      subst hc
      refine B_X10_stepped_6  ⟨fun c1 => ⟨?_, ?_⟩, fun c1 => ⟨?_, ?_, ?_, ?_, ?_, ?_, fun c2 => ⟨?_, ?_, ?_, ?_, ?_, ?_⟩, fun c2 => ⟨?_, ?_, ?_, ?_, ?_, ?_⟩⟩⟩ <;> try omega
      · refine ih (j + 1) _ _ (by omega) ?_
        rw [eS, hb]
        rw [show stF (M 112 33) kk (M 122) (fun j => M a1 (at_ + j)) j = M a1 (at_ + j) * (M 112 33 * ((kk + 1) * M 122 j / M 112 33)) by unfold stF; rw [if_neg (fun z => c2 (hm.mpr z))]]
      · refine ih (j + 1) _ _ (by omega) ?_
        rw [eS, hb]
        rw [show stF (M 112 33) kk (M 122) (fun j => M a1 (at_ + j)) j = M a1 (at_ + j) * (kk * M 122 j) by unfold stF; rw [if_pos (hm.mp c2)]]
  exact B_X10_stepped_0 (loop K 0 0 _ (by omega) rfl)
theorem c_X10_topSplit {d k : Nat} {M : mM} {Q : mRes → mM → Prop} {a1 at_ c : Int} {l1 K : Nat} (hc : M 112 33 = c) (hK : M 112 7 = K) (h : LotOK c K (M 122) (fun j => M a1 (at_ + j))) (hat : 0 ≤ at_ ∧ at_ + 6 ≤ l1) (hl : l1 ≤ 1000) (hn : a1 ≠ 112) (hQ : ∀ r, r = (tSp c K (M 122) (fun j => M a1 (at_ + j))).2 → Q (.inl (some (mI r))) (mUp M 112 40 (tSp c K (M 122) (fun j => M a1 (at_ + j))).1)) : V (d + 2) k qX10_topSplit 0 [mR 18 58 112, mR 0 l1 a1, mI at_, mE 0, mE 0, mE 0] [] M Q := by
  have hc1 := h.1
  have hc2 := h.2.1
  have e122 : ∀ t, mUp M 112 40 t 122 = M 122 := fun t => up_row (by decide)
  have ea : ∀ t, mUp M 112 40 t a1 = M a1 := fun t => up_row hn
  have e33 : ∀ t, mUp M 112 40 t 112 33 = M 112 33 := fun t => up_fld (by decide)
  have e7 : ∀ t, mUp M 112 40 t 112 7 = M 112 7 := fun t => up_fld (by decide)
  have loop : ∀ (r j : Nat) (u : mV), j + r = (c / 2).toNat → V (d + 2) k qX10_topSplit 5 [mR 18 58 112, mR 0 l1 a1, mI at_, mI (bst (splitF c K (M 122) (fun j => M a1 (at_ + j))) 0 j).2, mI ((j : Int) + 1), u] [] (mUp M 112 40 (bst (splitF c K (M 122) (fun j => M a1 (at_ + j))) 0 j).1) Q := by
    intro r
    induction r with
    | zero =>
      intro j u hj
      have e9 := e33 (bst (splitF c K (M 122) (fun j => M a1 (at_ + j))) 0 j).1
      refine B_X10_topSplit_5  ⟨?_, fun c1 => ?_, fun c1 => ?_⟩ <;> try omega
      · rw [show j = (c / 2).toNat by omega]
        exact hQ _ rfl
    | succ r ih =>
      intro j u hj
      have e9 := e33 (bst (splitF c K (M 122) (fun j => M a1 (at_ + j))) 0 j).1
      refine B_X10_topSplit_5  ⟨?_, fun c1 => ?_, fun c1 => ?_⟩ <;> try omega
      · refine c_X10_splits (c := c) (K := K) (by omega) (by rw [e7]; exact hK) (by rw [e122, ea]; exact h) hat hl (by omega) (fun r2 hr2 => ?_)
        rw [e122, ea] at hr2
        have e : bst (splitF c K (M 122) (fun j => M a1 (at_ + j))) 0 (j + 1) = if (bst (splitF c K (M 122) (fun j => M a1 (at_ + j))) 0 j).2 < r2 then ((j : Int) + 1, r2) else bst (splitF c K (M 122) (fun j => M a1 (at_ + j))) 0 j := by
          rw [hr2]
          show (if _ < splitF c K (M 122) (fun j => M a1 (at_ + j)) (0 + ((j + 1 : Nat) : Int)) then _ else _) = _
          rw [show (0 + ((j + 1 : Nat) : Int)) = (j : Int) + 1 by omega]
        have ih := ih (j + 1) (mI r2) (by omega)
        rw [e] at ih
        refine B_X10_topSplit_24  ⟨fun c1 => ⟨?_, ?_⟩, fun c1 => ⟨?_, ?_⟩⟩ <;> try omega
        · rw [if_pos (by omega)] at ih
          rw [up_up]
          exact ih
        · rw [if_neg (by omega)] at ih
          exact ih
  refine B_X10_topSplit_0 ?_
  have b0 := splitF_bd (a := 0) h
  refine B_X10_topSplit_5  ⟨?_, fun c1 => ?_, fun c1 => ?_⟩ <;> try omega
  · refine c_X10_splits (c := c) (K := K) hc hK h hat hl (by omega) (fun r2 hr2 => ?_)
    refine B_X10_topSplit_24  ⟨fun c1 => ⟨?_, ?_⟩, fun c1 => ⟨?_, ?_⟩⟩ <;> try omega
    · have := loop (c / 2).toNat 0 (mI r2) (by omega)
      rw [show (bst (splitF c K (M 122) (fun j => M a1 (at_ + j))) 0 0) = (0, r2) by rw [hr2]; rfl] at this
      exact this
theorem c_X10_topStep {d k : Nat} {M : mM} {Q : mRes → mM → Prop} {a1 at_ c : Int} {l1 K : Nat} (hc : M 112 33 = c) (hK : M 112 7 = K) (h : LotOK c K (M 122) (fun j => M a1 (at_ + j))) (hat : 0 ≤ at_ ∧ at_ + 6 ≤ l1) (hl : l1 ≤ 1000) (hn : a1 ≠ 112) (hQ : ∀ r, r = (tSt c K (M 122) (fun j => M a1 (at_ + j))).2 → Q (.inl (some (mI r))) (mUp M 112 40 (tSt c K (M 122) (fun j => M a1 (at_ + j))).1)) : V (d + 2) k qX10_topStep 0 [mR 18 58 112, mR 0 l1 a1, mI at_, mE 0, mE 0, mE 0] [] M Q := by
  have e122 : ∀ t, mUp M 112 40 t 122 = M 122 := fun t => up_row (by decide)
  have ea : ∀ t, mUp M 112 40 t a1 = M a1 := fun t => up_row hn
  have e33 : ∀ t, mUp M 112 40 t 112 33 = M 112 33 := fun t => up_fld (by decide)
  have e7 : ∀ t, mUp M 112 40 t 112 7 = M 112 7 := fun t => up_fld (by decide)
  have loop : ∀ (r j : Nat) (u : mV), j + r = 19 → V (d + 2) k qX10_topStep 5 [mR 18 58 112, mR 0 l1 a1, mI at_, mI (bst (stepF c K (M 122) (fun j => M a1 (at_ + j))) 1 j).2, mI ((j : Int) + 2), u] [] (mUp M 112 40 (bst (stepF c K (M 122) (fun j => M a1 (at_ + j))) 1 j).1) Q := by
    intro r
    induction r with
    | zero =>
      intro j u hj
      refine B_X10_topStep_5  ⟨fun c1 => ?_, fun c1 => ?_⟩ <;> try omega
      · rw [show j = 19 by omega]
        exact hQ _ rfl
    | succ r ih =>
      intro j u hj
      refine B_X10_topStep_5  ⟨fun c1 => ?_, fun c1 => ?_⟩ <;> try omega
      · refine c_X10_stepped (c := c) (K := K) (by rw [e33]; exact hc) (by rw [e7]; exact hK) (by rw [e122, ea]; exact h) hat hl (by omega) (fun r2 hr2 => ?_)
        rw [e122, ea] at hr2
        have e : bst (stepF c K (M 122) (fun j => M a1 (at_ + j))) 1 (j + 1) = if (bst (stepF c K (M 122) (fun j => M a1 (at_ + j))) 1 j).2 < r2 then ((j : Int) + 2, r2) else bst (stepF c K (M 122) (fun j => M a1 (at_ + j))) 1 j := by
          rw [hr2]
          show (if _ < stepF c K (M 122) (fun j => M a1 (at_ + j)) (1 + ((j + 1 : Nat) : Int)) then _ else _) = _
          rw [show (1 + ((j + 1 : Nat) : Int)) = (j : Int) + 2 by omega]
        have ih := ih (j + 1) (mI r2) (by omega)
        rw [e, show (((j + 1 : Nat) : Int) + 2) = (j : Int) + 2 + 1 by omega] at ih
        refine B_X10_topStep_20  ⟨fun c1 => ⟨?_, ?_⟩, fun c1 => ⟨?_, ?_⟩⟩ <;> try omega
        · rw [if_pos (by omega)] at ih
          rw [up_up]
          exact ih
        · rw [if_neg (by omega)] at ih
          exact ih
  refine B_X10_topStep_0 ?_
  have b0 := (stepF_bd (kk := 1) h (by omega)).2
  refine B_X10_topStep_5  ⟨fun c1 => ?_, fun c1 => ?_⟩ <;> try omega
  · refine c_X10_stepped (c := c) (K := K) hc hK h hat hl (by omega) (fun r2 hr2 => ?_)
    refine B_X10_topStep_20  ⟨fun c1 => ⟨?_, ?_⟩, fun c1 => ⟨?_, ?_⟩⟩ <;> try omega
    · have := loop 19 0 (mI r2) (by omega)
      rw [show (bst (stepF c K (M 122) (fun j => M a1 (at_ + j))) 1 0) = (1, r2) by rw [hr2]; rfl] at this
      exact this
theorem c_X10_bounds {d k : Nat} {M : mM} {Q : mRes → mM → Prop} {a1 at_ c : Int} {l1 K : Nat} (hc : M 112 33 = c) (hK : M 112 7 = K) (h : LotOK c K (M 122) (fun j => M a1 (at_ + j))) (hat : 0 ≤ at_ ∧ at_ + 6 ≤ l1) (hl : l1 ≤ 1000) (hn : a1 ≠ 112) (hQ : ∀ r t, r = boundF c K (M 122) (fun j => M a1 (at_ + j)) → Q (.inl (some (mI r))) (mUp M 112 40 t)) : V (d + 3) k qX10_bounds 0 [mR 18 58 112, mR 0 l1 a1, mI at_] [] M Q := by
  have e122 : ∀ t, mUp M 112 40 t 122 = M 122 := fun t => up_row (by decide)
  have ea : ∀ t, mUp M 112 40 t a1 = M a1 := fun t => up_row hn
  have e33 : ∀ t, mUp M 112 40 t 112 33 = M 112 33 := fun t => up_fld (by decide)
  have e7 : ∀ t, mUp M 112 40 t 112 7 = M 112 7 := fun t => up_fld (by decide)
  refine B_X10_bounds_0 (c_X10_area hc hK h hat hl (fun r1 h1 => ?_))
  refine B_X10_bounds_6 (c_X10_topSplit hc hK h hat hl hn (fun r2 h2 => ?_))
  generalize (tSp c K (M 122) (fun j => M a1 (at_ + j))).1 = t1
  refine B_X10_bounds_12 (c_X10_topStep (c := c) (K := K) (by rw [e33]; exact hc) (by rw [e7]; exact hK) (by rw [e122, ea]; exact h) hat hl hn (fun r3 h3 => ?_))
  rw [e122, ea] at h3 ⊢
  rw [up_up]
  refine B_X10_bounds_18 (c_X10_greater (fun r4 h4 => B_X10_bounds_21 (c_X10_greater (fun r5 h5 => ?_))))
  refine B_X10_bounds_24 (hQ _ _ ?_)
  unfold boundF
  rw [h5, h4, h3, h2, h1]
