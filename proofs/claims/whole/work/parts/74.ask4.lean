/-! questions: bound, split, step -/
theorem at0 {M : mM} {n : Int} : (fun j => M n (0 + j)) = M n := funext fun j => by rw [Int.zero_add]
def an_bound (c : Int) (K : Nat) (M : mM) (w : Int) : An := if 0 ≤ w ∧ w ≤ 5 then .inl (if w = 0 then areaF c K (M 9) (M 113) else if w = 1 then (tSp c K (M 9) (M 113)).2 else if w = 2 then (tSp c K (M 9) (M 113)).1 else if w = 3 then (tSt c K (M 9) (M 113)).2 else if w = 4 then (tSt c K (M 9) (M 113)).1 else boundF c K (M 9) (M 113)) else .inr 1
theorem askX.lo {c : Int} {K : Nat} {N : Int} {M M1 : mM} (hS : St c K N M) (q : askX c K M M1) : LotOK c K (M1 13) (M1 14) := (q.2.2.1.GL hS.GL).lot hS.1.1.1
theorem askM.lo {c : Int} {K : Nat} {N : Int} {M M1 : mM} (hS : St c K N M) (q : askM c K M M1) : LotOK c K (M1 122) (fun j => M1 121 (0 + j)) := by rw [at0]; exact (q.2.1.GL hS.GL).lot hS.1.1.1
theorem xq_bound {d : Nat} {c : Int} {K : Nat} {N : Int} {M : mM} {Q : mRes → mM → Prop} {w : Int} (hS : St c K N M) (hQ : ∀ M', kpX M M' → Q (xr (an_bound c K M w)) M') : V (d + 60) 3 qX9_bound 0 [mR 17 15 0, mI w, mE 0] [] M Q := by
  refine B_X9_bound_0 (c_X9_restNow hS (fun M1 q => ?_))
  have hQ' := hQ M1 q.kp
  unfold an_bound at hQ'
  have hl := askX.lo hS q
  have b1 := bst_val (f := splitF c K (M 9) (M 113)) (lo := 0) (c / 2).toNat
  have b2 := bst_val (f := stepF c K (M 9) (M 113)) (lo := 1) 19
  have hc := hS.1.1
  refine B_X9_bound_4 ⟨fun e => c_X0_areaOf q.1 q.2.1 hl (fun r hr => B_X9_bound_52 ?_), fun e => c_X0_bestSplit q.1 q.2.1 hl (fun r hr => B_X9_bound_66 (c_X0_splitOf q.1 q.2.1 hl ?_ (fun r2 hr2 => B_X9_bound_69 ?_))), fun e => c_X0_bestSplit q.1 q.2.1 hl (fun r hr => B_X9_bound_78 ?_), fun e => c_X0_bestStep q.1 q.2.1 hl (fun r hr => B_X9_bound_92 (c_X0_stepOf q.1 q.2.1 hl ?_ (fun r2 hr2 => B_X9_bound_95 ?_))), fun e => c_X0_bestStep q.1 q.2.1 hl (fun r hr => B_X9_bound_104 ?_), fun e => c_X0_greatestOf q.1 q.2.1 hl (fun r hr => B_X9_bound_113 ?_), fun e => ⟨by omega, by omega, ?_⟩⟩
  · subst e; rw [hr, q.2.2.1.ar]; exact hQ'
  · rw [hr, q.2.2.1.tp]; unfold tSp; omega
  · subst e; rw [hr2, hr, q.2.2.1.tp, q.2.2.1.sp]
    have h' : Q (xr (.inl (tSp c K (M 9) (M 113)).2)) M1 := hQ'
    unfold tSp at h' ⊢
    rw [b1.1] at h'; exact h'
  · subst e; rw [hr, q.2.2.1.tp]; exact hQ'
  · rw [hr, q.2.2.1.tt]; unfold tSt; omega
  · subst e; rw [hr2, hr, q.2.2.1.tt, q.2.2.1.st]
    have h' : Q (xr (.inl (tSt c K (M 9) (M 113)).2)) M1 := hQ'
    unfold tSt at h' ⊢
    rw [b2.1] at h'; exact h'
  · subst e; rw [hr, q.2.2.1.tt]; exact hQ'
  · subst e; rw [hr, q.2.2.1.bd]; exact hQ'
  · rw [if_neg (by omega)] at hQ'; exact hQ'
theorem m0e {M : mM} : mUp M 112 5 0 9 = M 9 ∧ mUp M 112 5 0 113 = M 113 := ⟨up_row (by decide), up_row (by decide)⟩
theorem mq_bound {d k : Nat} {c : Int} {K : Nat} {N : Int} {M : mM} {Q : mRes → mM → Prop} {w : Int} (hS : St c K N M) (hQ : ∀ M' v, kpM M M' → mr (fun _ => 1) (an_bound c K M w) M' v → Q (.inl (some (mI v))) M') : V (d + 60) k qX10_bound 0 [mR 18 58 112, mI w, mE 0] [] M Q := by
  unfold an_bound at hQ
  have hS0 := hS.m0 (v := 0)
  have kp0 : kpM M (mUp M 112 5 0) := kpM.rf.fl (by simp)
  refine B_X10_bound_0 (c_X10_within (fun x hx => B_X10_bound_12 (c_X10_fine up_s (by decide) (fun hz => B_X10_bound_16 ⟨fun z => (z rfl).elim, fun _ => hQ _ 0 (kp0.fl (by simp)) ?_⟩) (fun hz => B_X10_bound_16 ⟨fun _ => c_X10_look0 hS0 (fun M1 q => ?_), fun z => by omega⟩))))
  · have hn : ¬ (0 ≤ w ∧ w ≤ 5) := fun z => by rw [if_pos z] at hx; omega
    rw [if_neg hn]; exact up_s
  · have hn : 0 ≤ w ∧ w ≤ 5 := by
      by_cases z : 0 ≤ w ∧ w ≤ 5
      · exact z
      · rw [if_neg z] at hx; omega
    rw [if_pos hn] at hQ
    have hl := askM.lo hS0 q
    have e7 : M1 112 7 = K := by rw [q.2.2.2.2 7 (by simp), up_fld (by decide)]; exact hS.1.2.2.2.2.2.1
    have e5 : M1 112 5 = 0 := by rw [q.2.2.2.2 5 (by simp)]; exact up_s
    have kp := kp0.tr q.kp
    have eL := q.2.1
    rw [m0e.1, m0e.2] at eL
    refine B_X10_bound_25 ⟨fun n0 => ⟨fun n5 => ⟨fun g3 => c_X10_topStep q.1 e7 hl (by decide) (by decide) (by decide) (fun r hr => ?_), fun g3 => c_X10_topSplit q.1 e7 hl (by decide) (by decide) (by decide) (fun r hr => B_X10_bound_68 ?_)⟩, fun n5 => c_X10_bounds q.1 e7 hl (by decide) (by decide) (by decide) (fun r t hr => B_X10_bound_53 (hQ _ r (kp.fl (by simp)) ⟨by rw [up_fld (by decide)]; exact e5, ?_⟩))⟩, fun n0 => c_X10_area q.1 e7 hl (by decide) (by decide) (fun r hr => B_X10_bound_38 (hQ _ r kp ⟨e5, ?_⟩))⟩
    · rw [at0, eL.tt] at hr ⊢
      refine B_X10_bound_80 ⟨fun z => by omega, fun _ => ⟨fun n3 => hQ _ _ (kp.fl (by simp)) ⟨by rw [up_fld (by decide)]; exact e5, ?_⟩, fun n3 => hQ _ r (kp.fl (by simp)) ⟨by rw [up_fld (by decide)]; exact e5, ?_⟩⟩⟩
      · rw [up_s, if_neg n0, if_neg (by omega), if_neg (by omega), if_neg n3, if_pos (by omega)]
      · rw [hr, if_neg n0, if_neg (by omega), if_neg (by omega), if_pos n3]
    · rw [at0, eL.tp] at hr ⊢
      refine B_X10_bound_80 ⟨fun n1 => hQ _ r (kp.fl (by simp)) ⟨by rw [up_fld (by decide)]; exact e5, ?_⟩, fun n1 => ⟨fun n3 => hQ _ _ (kp.fl (by simp)) ⟨by rw [up_fld (by decide)]; exact e5, ?_⟩, fun n3 => by omega⟩⟩
      · rw [hr, if_neg n0, if_pos n1]
      · rw [up_s, if_neg n0, if_neg n1, if_pos (by omega)]
    · rw [hr, at0, eL.bd, if_neg n0, if_neg (by omega), if_neg (by omega), if_neg (by omega), if_neg (by omega)]
    · rw [hr, at0, eL.ar, if_pos n0]
def an_split (c : Int) (K : Nat) (M : mM) (a : Int) : An := if 0 ≤ a ∧ a ≤ c / 2 then .inl (splitF c K (M 9) (M 113) a) else .inr 2
theorem xq_split {d : Nat} {c : Int} {K : Nat} {N : Int} {M : mM} {Q : mRes → mM → Prop} {a : Int} (hS : St c K N M) (hQ : ∀ M', kpX M M' → Q (xr (an_split c K M a)) M') : V (d + 60) 3 qX9_split 0 [mR 17 15 0, mI a, mE 0] [] M Q := by
  unfold an_split at hQ
  have hc := hS.1.1
  have no : ¬ (0 ≤ a ∧ a ≤ c / 2) → Q (.inr 2) M := fun h => by have := hQ M kpX.rf; rw [if_neg h] at this; exact this
  have Bk := B_X9_split_0 (d := d + 59) (k := 3) (M := M) (Q := Q) (x1 := a)
  rw [hS.1.2.2.1] at Bk
  refine Bk ⟨fun _ => ⟨by omega, by omega, no (by omega)⟩, fun _ => ⟨by omega, fun _ => c_X9_restNow hS (fun M1 q => B_X9_split_31 (c_X0_splitOf q.1 q.2.1 (askX.lo hS q) (by omega) (fun r hr => B_X9_split_41 ?_))), fun _ => ⟨by omega, by omega, no (by omega)⟩⟩⟩
  have hQ' := hQ M1 q.kp
  rw [if_pos (by omega)] at hQ'
  rw [hr, q.2.2.1.sp]; exact hQ'
theorem mq_split {d k : Nat} {c : Int} {K : Nat} {N : Int} {M : mM} {Q : mRes → mM → Prop} {a : Int} (hS : St c K N M) (hQ : ∀ M' v, kpM M M' → mr (fun _ => 1) (an_split c K M a) M' v → Q (.inl (some (mI v))) M') : V (d + 60) k qX10_split 0 [mR 18 58 112, mI a] [] M Q := by
  unfold an_split at hQ
  have hc := hS.1.1
  have hS0 := hS.m0 (v := 0)
  have kp0 : kpM M (mUp M 112 5 0) := kpM.rf.fl (by simp)
  have Bk := B_X10_split_0 (d := d + 59) (k := k) (M := M) (Q := Q) (x1 := a)
  rw [hS.1.2.2.2.1] at Bk
  refine Bk ⟨by omega, c_X10_within (fun x hx => B_X10_split_17 (c_X10_fine up_s (by decide) (fun hz => B_X10_split_21 ⟨fun z => (z rfl).elim, fun _ => hQ _ 0 (kp0.fl (by simp)) ?_⟩) (fun hz => B_X10_split_21 ⟨fun _ => c_X10_look0 hS0 (fun M1 q => B_X10_split_30 ?_), fun z => by omega⟩)))⟩
  · have hn : ¬ (0 ≤ a ∧ a ≤ c / 2) := fun z => by rw [if_pos z] at hx; omega
    rw [if_neg hn]; exact up_s
  · have hn : 0 ≤ a ∧ a ≤ c / 2 := by
      by_cases z : 0 ≤ a ∧ a ≤ c / 2
      · exact z
      · rw [if_neg z] at hx; omega
    rw [if_pos hn] at hQ
    have e7 : M1 112 7 = K := by rw [q.2.2.2.2 7 (by simp), up_fld (by decide)]; exact hS.1.2.2.2.2.2.1
    have e5 : M1 112 5 = 0 := by rw [q.2.2.2.2 5 (by simp)]; exact up_s
    have eL := q.2.1
    rw [m0e.1, m0e.2] at eL
    refine c_X10_splits q.1 e7 (askM.lo hS0 q) (by decide) (by decide) (by omega) (fun r hr => B_X10_split_40 (hQ _ r (kp0.tr q.kp) ⟨e5, ?_⟩))
    rw [hr, at0, eL.sp]
def an_step (c : Int) (K : Nat) (M : mM) (a : Int) : An := if 1 ≤ a ∧ a ≤ 20 then .inl (stepF c K (M 9) (M 113) a) else .inr 2
theorem xq_step {d : Nat} {c : Int} {K : Nat} {N : Int} {M : mM} {Q : mRes → mM → Prop} {a : Int} (hS : St c K N M) (hQ : ∀ M', kpX M M' → Q (xr (an_step c K M a)) M') : V (d + 60) 3 qX9_step 0 [mR 17 15 0, mI a, mE 0] [] M Q := by
  unfold an_step at hQ
  have no : ¬ (1 ≤ a ∧ a ≤ 20) → Q (.inr 2) M := fun h => by have := hQ M kpX.rf; rw [if_neg h] at this; exact this
  refine B_X9_step_0 ⟨fun _ => ⟨by omega, by omega, no (by omega)⟩, fun _ => ⟨fun _ => c_X9_restNow hS (fun M1 q => B_X9_step_25 (c_X0_stepOf q.1 q.2.1 (askX.lo hS q) (by omega) (fun r hr => B_X9_step_35 ?_))), fun _ => ⟨by omega, by omega, no (by omega)⟩⟩⟩
  have hQ' := hQ M1 q.kp
  rw [if_pos (by omega)] at hQ'
  rw [hr, q.2.2.1.st]; exact hQ'
theorem mq_step {d k : Nat} {c : Int} {K : Nat} {N : Int} {M : mM} {Q : mRes → mM → Prop} {a : Int} (hS : St c K N M) (hQ : ∀ M' v, kpM M M' → mr (fun _ => 1) (an_step c K M a) M' v → Q (.inl (some (mI v))) M') : V (d + 60) k qX10_step 0 [mR 18 58 112, mI a] [] M Q := by
  unfold an_step at hQ
  have hS0 := hS.m0 (v := 0)
  have kp0 : kpM M (mUp M 112 5 0) := kpM.rf.fl (by simp)
  refine B_X10_step_0 (c_X10_within (fun x hx => B_X10_step_13 (c_X10_fine up_s (by decide) (fun hz => B_X10_step_17 ⟨fun z => (z rfl).elim, fun _ => hQ _ 0 (kp0.fl (by simp)) ?_⟩) (fun hz => B_X10_step_17 ⟨fun _ => c_X10_look0 hS0 (fun M1 q => B_X10_step_26 ?_), fun z => by omega⟩))))
  · have hn : ¬ (1 ≤ a ∧ a ≤ 20) := fun z => by rw [if_pos z] at hx; omega
    rw [if_neg hn]; exact up_s
  · have hn : 1 ≤ a ∧ a ≤ 20 := by
      by_cases z : 1 ≤ a ∧ a ≤ 20
      · exact z
      · rw [if_neg z] at hx; omega
    rw [if_pos hn] at hQ
    have e7 : M1 112 7 = K := by rw [q.2.2.2.2 7 (by simp), up_fld (by decide)]; exact hS.1.2.2.2.2.2.1
    have e5 : M1 112 5 = 0 := by rw [q.2.2.2.2 5 (by simp)]; exact up_s
    have eL := q.2.1
    rw [m0e.1, m0e.2] at eL
    refine c_X10_stepped q.1 e7 (askM.lo hS0 q) (by decide) (by decide) (by omega) (fun r hr => B_X10_step_36 (hQ _ r (kp0.tr q.kp) ⟨e5, ?_⟩))
    rw [hr, at0, eL.st]
/-! patterns, pattern -/
abbrev zlT (K : Nat) (M : mM) : zL := zl K (M 9) (M 113) (orF (M 9) K)
def an_pats (c : Int) (K : Nat) (M : mM) (w : Int) : An := if 0 ≤ w ∧ w ≤ 2 then .inl (((pats (zlT K M) c).filter (pwF (zlT K M) c w)).length : Int) else .inr 1
theorem flt_all {P : List Int → Bool} {L : List (List Int)} (h : ∀ q, P q = true) : L.filter P = L := by
  rw [List.filter_eq_self]; exact fun q _ => h q
theorem xq_pats {d : Nat} {c : Int} {K : Nat} {N : Int} {M : mM} {Q : mRes → mM → Prop} {w : Int} (hS : St c K N M) (hQ : ∀ M', kpX M M' → Q (xr (an_pats c K M w)) M') : V (d + 60) 3 qX9_patterns 0 [mR 17 15 0, mI w, mE 0] [] M Q := by
  unfold an_pats at hQ
  refine B_X9_patterns_0 (c_X9_restNow hS (fun M1 q => ?_))
  have hG := q.2.2.1.GL hS.GL
  have ez : zl K (M1 13) (M1 14) (M1 15) = zlT K M := q.2.2.1.zE
  refine B_X9_patterns_4 ⟨fun e => c_X3_waysThrough q.1 q.2.1 rfl rfl rfl hG hS.1.1.1 (fun M2 q1 q2 => B_X9_patterns_40 ?_), fun e => c_X5_countMaximal (by decide) hG rfl rfl rfl q.1 q.2.1 (Or.inl rfl) (fun M2 r q1 hr => B_X9_patterns_50 ?_), fun e => c_X5_countMaximal (by decide) hG rfl rfl rfl q.1 q.2.1 (Or.inr rfl) (fun M2 r q1 hr => B_X9_patterns_60 ?_), fun e => ⟨by omega, by omega, ?_⟩⟩
  · have hQ' := hQ M2 (q.kp.tr (fun n hn => q1 n (by omega)))
    subst e
    rw [if_pos (by omega), flt_all (fun p => by unfold pwF; rfl)] at hQ'
    rw [ez]; exact hQ'
  · have hQ' := hQ M2 (q.kp.tr (fun n hn => q1 n (by simp; omega)))
    subst e
    rw [if_pos (by omega)] at hQ'
    rw [hr, ez]
    have e2 : pqF (zlT K M) c (decide ((0 : Int) = 1)) = pwF (zlT K M) c 1 := funext fun p => by unfold pqF pwF; simp
    rw [e2]; exact hQ'
  · have hQ' := hQ M2 (q.kp.tr (fun n hn => q1 n (by simp; omega)))
    subst e
    rw [if_pos (by omega)] at hQ'
    rw [hr, ez]
    have e2 : pqF (zlT K M) c (decide ((1 : Int) = 1)) = pwF (zlT K M) c 2 := funext fun p => by unfold pqF pwF; simp
    rw [e2]; exact hQ'
  · have := hQ M1 q.kp
    rw [if_neg (by omega)] at this; exact this
theorem mq_pats {d k : Nat} {c : Int} {K : Nat} {N : Int} {M : mM} {Q : mRes → mM → Prop} {w : Int} (hS : St c K N M) (hQ : ∀ M' v, kpM M M' → mr (fun _ => 1) (an_pats c K M w) M' v → Q (.inl (some (mI v))) M') : V (d + 60) k qX10_patterns 0 [mR 18 58 112, mI w, mE 0, mE 0, mE 0] [] M Q := by
  unfold an_pats at hQ
  have hS0 := hS.m0 (v := 0)
  have kp0 : kpM M (mUp M 112 5 0) := kpM.rf.fl (by simp)
  refine B_X10_patterns_0 (c_X10_within (fun x hx => B_X10_patterns_12 (c_X10_fine up_s (by decide) (fun hz => B_X10_patterns_16 ⟨fun z => (z rfl).elim, fun _ => hQ _ 0 (kp0.fl (by simp)) ?_⟩) (fun hz => B_X10_patterns_16 ⟨fun _ => c_X10_look0 hS0 (fun M1 q => ?_), fun z => by omega⟩))))
  · have hn : ¬ (0 ≤ w ∧ w ≤ 2) := fun z => by rw [if_pos z] at hx; omega
    rw [if_neg hn]; exact up_s
  · have hn : 0 ≤ w ∧ w ≤ 2 := by
      by_cases z : 0 ≤ w ∧ w ≤ 2
      · exact z
      · rw [if_neg z] at hx; omega
    rw [if_pos hn] at hQ
    have e7 : M1 112 7 = K := by rw [q.2.2.2.2 7 (by simp), up_fld (by decide)]; exact hS.1.2.2.2.2.2.1
    have e5 : M1 112 5 = 0 := by rw [q.2.2.2.2 5 (by simp)]; exact up_s
    have eL := q.2.1
    rw [m0e.1, m0e.2] at eL
    refine l_X10_patterns rfl rfl (fun s => by rw [Int.zero_add]) (eL.GL hS.GL) e7 q.1 hn (fun M2 r q1 hr => hQ M2 r ((kp0.tr q.kp).tr ⟨fun n a b => q1.1 n (by omega), fun i _ => by rw [q1.1 112 (by decide)]⟩) ⟨by rw [q1.1 112 (by decide)]; exact e5, ?_⟩)
    rw [hr, eL.zE]
def an_pat (c : Int) (K : Nat) (M : mM) (i s : Int) : An := if 0 ≤ i ∧ (s = -1 ∨ (0 ≤ s ∧ s < K)) then (match (mxs (zlT K M) c)[i.toNat]? with
  | some p => .inl (if s = -1 then pw (zlT K M) p else rwF (orF (M 9) K) p K s)
  | none => .inr 1) else .inr 1
theorem lotE.rw {K : Nat} {sz mn od sz' mn' od' : Int → Int} (h : lotE K sz mn od sz' mn' od') {p : List Int} : rwF od p K = rwF od' p K := rwF_cg (fun i hi => (h.2 i hi).1)
theorem xq_pat {d : Nat} {c : Int} {K : Nat} {N : Int} {M : mM} {Q : mRes → mM → Prop} {i s : Int} (hi : i ≤ 2147483647) (hS : St c K N M) (hQ : ∀ M', kpX M M' → Q (xr (an_pat c K M i s)) M') : V (d + 60) 3 qX9_pattern 0 [mR 17 15 0, mI i, mI s, mE 0] [] M Q := by
  unfold an_pat at hQ
  have hL := hS.1
  have hK6 := hL.2.1
  refine B_X9_pattern_0 ⟨by omega, c_X9_needSortOrNone hL.2.2.2.2.1 hK6 (fun h => B_X9_pattern_5 (c_X9_restNow hS (fun M1 q => ?_))) (fun h => by have := hQ M kpX.rf; rw [if_neg (fun z => h z.2)] at this; exact this)⟩
  have hG := q.2.2.1.GL hS.GL
  have ez : zl K (M1 13) (M1 14) (M1 15) = zlT K M := q.2.2.1.zE
  refine B_X9_pattern_9 ⟨fun e => ⟨by omega, by omega, by have := hQ M1 q.kp; rw [if_neg (by omega)] at this; exact this⟩, fun e => ?_⟩
  obtain ⟨x, hx⟩ : ∃ x : Nat, i = x := ⟨i.toNat, by omega⟩
  subst hx
  rw [if_pos ⟨by omega, h⟩, show (x : Int).toNat = x by omega] at hQ
  refine c_X5_goTo (by decide) hG rfl rfl rfl q.1 q.2.1 hi (fun M2 p q1 q2 q3 q4 => ?_) (fun M2 q1 q2 => ?_)
  · have hQ' := hQ M2 (q.kp.tr (fun n hn => q1 n (by simp; omega)))
    rw [ez] at q2 q3
    rw [q2] at hQ'
    have hrw := ptR_rw hG q4
    refine B_X9_pattern_23 ⟨fun _ => ⟨fun e1 => ⟨by omega, ?_⟩, fun e1 => ?_⟩, fun z => by omega⟩
    · have h' : Q (xr (.inl (if s = -1 then pw (zlT K M) p else rwF (orF (M 9) K) p K s))) M2 := hQ'
      rw [if_neg e1] at h'
      obtain ⟨n, hn⟩ : ∃ n : Nat, s = n := ⟨s.toNat, by omega⟩
      rw [hn] at h' ⊢
      rw [hrw n (by omega), q.2.2.1.rw]; exact h'
    · have h' : Q (xr (.inl (if s = -1 then pw (zlT K M) p else rwF (orF (M 9) K) p K s))) M2 := hQ'
      rw [if_pos e1] at h'
      have hpw := ptR_pw hG q4
      rw [ez] at hpw
      have hbd := ptR_bd hG q4 (by rw [ez]; exact q3)
      have a13 : M2 13 = M1 13 := q1 13 (by simp)
      refine c_X2_weightOf (Or.inr (Or.inr rfl)) (by rw [q1 12 (by simp)]; exact q.2.1) hK6 (fun j hj => ?_) (fun r hr => B_X9_pattern_50 ?_)
      · have := hbd j hj
        have hc := hS.1.1
        show 0 ≤ M2 13 j * M2 110 j ∧ M2 13 j * M2 110 j ≤ 10000
        rw [a13, Int.mul_comm]; omega
      · have e3 : sg (fun j => M2 (12 + 1) j * M2 110 j) K = pw (zlT K M) p := by
          rw [hpw]
          exact sg_congr (fun j _ => by show M2 13 j * M2 110 j = M2 110 j * M1 13 j; rw [a13, Int.mul_comm])
        rw [hr, e3]; exact h'
  · have hQ' := hQ M2 (q.kp.tr (fun n hn => q1 n (by simp; omega)))
    rw [ez] at q2
    rw [List.getElem?_eq_none q2] at hQ'
    exact B_X9_pattern_23 ⟨fun z => (z rfl).elim, fun _ => ⟨by omega, by omega, hQ'⟩⟩
theorem mq_pat {d k : Nat} {c : Int} {K : Nat} {N : Int} {M : mM} {Q : mRes → mM → Prop} {i s : Int} (hS : St c K N M) (hQ : ∀ M' v, kpM M M' → mr (fun _ => 1) (an_pat c K M i s) M' v → Q (.inl (some (mI v))) M') : V (d + 60) k qX10_pattern 0 [mR 18 58 112, mI i, mI s, mE 0, mE 0, mE 0] [] M Q := by
  unfold an_pat at hQ
  have hL := hS.1
  have hK6 := hL.2.1
  have hS0 := hS.m0 (v := 0)
  have kp0 : kpM M (mUp M 112 5 0) := kpM.rf.fl (by simp)
  have go : 0 ≤ i → (s = -1 ∨ (0 ≤ s ∧ s < K)) → V (d + 60) k qX10_pattern 37 [mR 18 58 112, mI i, mI s, mE 0, mE 0, mE 0] [] (mUp M 112 5 0) Q := fun h0 h => by
    refine B_X10_pattern_37 (c_X10_look0 hS0 (fun M1 q => ?_))
    obtain ⟨x, hx⟩ : ∃ x : Nat, i = x := ⟨i.toNat, by omega⟩
    subst hx
    rw [if_pos ⟨h0, h⟩, show (x : Int).toNat = x by omega] at hQ
    have e7 : M1 112 7 = K := by rw [q.2.2.2.2 7 (by simp), up_fld (by decide)]; exact hL.2.2.2.2.2.1
    have e5 : M1 112 5 = 0 := by rw [q.2.2.2.2 5 (by simp)]; exact up_s
    have eL := q.2.1
    rw [m0e.1, m0e.2] at eL
    have hG := eL.GL hS.GL
    have kp2 : ∀ {M2 : mM}, frP 0 M1 M2 → kpM M M2 := fun q1 => (kp0.tr q.kp).tr ⟨fun n a b => q1.1 n (by omega), fun i _ => by rw [q1.1 112 (by decide)]⟩
    refine l_X10_pattern rfl rfl (fun s => by rw [Int.zero_add]) hG e7 q.1 (by omega) (fun M2 p r q1 q2 q3 q4 hr => hQ M2 r (kp2 q1) ?_) (fun M2 q1 q2 => hQ _ 0 ((kp2 q1).fl (by simp)) ?_)
    · rw [eL.zE] at q2 hr
      rw [q2]
      refine ⟨by rw [q1.1 112 (by decide)]; exact e5, ?_⟩
      rw [hr]
      by_cases e1 : s = -1
      · rw [if_pos e1, if_pos e1]
      · rw [if_neg e1, if_neg e1]
        obtain ⟨n, hn⟩ : ∃ n : Nat, s = n := ⟨s.toNat, by omega⟩
        rw [hn]
        have := ptR_rw hG q4 n (by omega)
        rw [eL.rw, Int.zero_add] at this
        exact this
    · rw [eL.zE] at q2
      rw [List.getElem?_eq_none q2]; exact up_s
  have bad : ¬ (0 ≤ i ∧ (s = -1 ∨ (0 ≤ s ∧ s < K))) → Q (.inl (some (mI 0))) (mUp (mUp M 112 5 0) 112 5 1) := fun hn => hQ _ 0 (kp0.fl (by simp)) (by rw [if_neg hn]; exact up_s)
  refine B_X10_pattern_0 ⟨fun e => B_X10_pattern_15 (c_X10_fine up_s (by decide) (fun _ => B_X10_pattern_19 ⟨fun _ => bad (by omega), fun z => (z rfl).elim⟩) (fun z => (z rfl).elim)), fun e => B_X10_pattern_15 (c_X10_fine up_s (by decide) (fun z => by omega) (fun _ => B_X10_pattern_19 ⟨fun z => by omega, fun _ => ⟨fun e1 => go (by omega) (Or.inl e1), fun e1 => c_X10_isSort up_s (by rw [up_fld (by decide)]; exact hL.2.2.2.2.2.1) hK6 (fun h2 => B_X10_pattern_32 ⟨fun z => (z rfl).elim, fun _ => bad (fun z => z.2.elim e1 h2)⟩) (fun h2 => B_X10_pattern_32 ⟨fun _ => go (by omega) (Or.inr h2), fun z => by omega⟩)⟩⟩))⟩
