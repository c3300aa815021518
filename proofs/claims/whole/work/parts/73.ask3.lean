/-! questions: the fewest bins, guaranteed, tree, best; bound, split, step -/
abbrev fwT (c : Int) (K : Nat) (M : mM) : tS := fewT c K (M 9) (M 113) (orF (M 9) K)
theorem St.mn {c : Int} {K : Nat} {N : Int} {M : mM} (h : St c K N M) : ∀ s : Nat, s < 6 → 0 ≤ M 113 s ∧ M 113 s ≤ 12 := fun s hs => by
  have := h.row.2.1 s hs; omega
theorem c_X8_few0 {d k : Nat} {c : Int} {K : Nat} {N : Int} {M M1 : mM} {Q : mRes → mM → Prop} (hS : St c K N M) (q : askX c K M M1) (hQ : ∀ M2, (∀ n, ¬ (32 ≤ n ∧ n < 90) → M2 n = M1 n) → trC M2 (fwT c K M) → Q (.inl (some (mI (fwT c K M).1))) M2) : V (d + 53) k qX8_fewestOf 0 [mR 16 10 32, mR 11 5 12] [] M1 Q := by
  refine c_X8_fewestOf q.1 q.2.1 rfl rfl rfl (q.2.2.1.GL hS.GL) (q.2.2.1.PL hS.GL hS.pk) (fun s hs => by rw [q.2.2.2.1 s hs]; have := hS.mn s hs; omega) (fun M2 q1 q2 => ?_)
  rw [q.2.2.1.few] at q2 ⊢
  exact hQ M2 q1 q2
theorem c_X10_few0 {d k : Nat} {c : Int} {K : Nat} {N : Int} {M : mM} {Q : mRes → mM → Prop} (hS : St c K N M) (hQ : ∀ M1 M2, askM c K M M1 → frM [124, 125, 126, 127, 128, 129, 130] [37, 38, 40, 44, 45, 46, 47, 48, 49] M1 M2 → trM M2 (fwT c K M) → Q (.inl (some (mI (fwT c K M).1))) M2) : V (d + 6) k qX10_fewestNow 0 [mR 18 58 112] [] M Q := by
  refine B_X10_fewestNow_0 (c_X10_look0 hS (fun M1 q => B_X10_fewestNow_4 ?_))
  have e7 : M1 112 7 = K := by rw [q.2.2.2.2 7 (by simp)]; exact hS.1.2.2.2.2.2.1
  refine c_X10_proves q.1 e7 rfl rfl rfl (q.2.1.GL hS.GL) (q.2.1.PL hS.GL hS.pk) (fun s hs => by rw [q.2.2.1 s hs]; have := hS.mn s hs; omega) (fun M2 q1 q2 => B_X10_fewestNow_8 ?_)
  rw [q.2.1.few] at q2 ⊢
  exact hQ M1 M2 q q1 q2
theorem frM.kp7 {M M' : mM} (h : frM [124, 125, 126, 127, 128, 129, 130] [37, 38, 40, 44, 45, 46, 47, 48, 49] M M') : kpM M M' := kpM.of h (fun n hn => by simp at hn; omega) (fun i hi => by simp at hi ⊢; omega)
theorem St.fok {c : Int} {K : Nat} {N : Int} {M : mM} (h : St c K N M) : tOK (fwT c K M) := fewT_ok h.pk
theorem mr0 {M : mM} {v : Int} : mUp M 112 5 v 112 5 = v := up_s
/-! tree -/
def an_tree (c : Int) (K : Nat) (M : mM) (w : Int) : An := if 0 ≤ w ∧ w ≤ 5 then .inl (if w = 0 then (fwT c K M).1 else if w = 1 then (if (fwT c K M).2.2.2.2.2.1 = 0 then 1 else 0) else if w = 2 then (fwT c K M).2.1 else if w = 3 then (fwT c K M).2.2.1 else if w = 4 then (fwT c K M).2.2.2.1 else (fwT c K M).2.2.2.2.1) else .inr 1
theorem xq_tree {d : Nat} {c : Int} {K : Nat} {N : Int} {M : mM} {Q : mRes → mM → Prop} {w : Int} (hS : St c K N M) (hQ : ∀ M', kpX M M' → Q (xr (an_tree c K M w)) M') : V (d + 60) 3 qX9_tree 0 [mR 17 15 0, mI w] [] M Q := by
  unfold an_tree at hQ
  have no : ¬ (0 ≤ w ∧ w ≤ 5) → Q (.inr 1) M := fun h => by have := hQ M kpX.rf; rw [if_neg h] at this; exact this
  refine B_X9_tree_0 ⟨fun _ => ⟨by omega, by omega, no (by omega)⟩, fun _ => ⟨fun _ => c_X9_restNow hS (fun M1 q => B_X9_tree_28 (c_X8_few0 hS q (fun M2 q1 q2 => ?_))), fun _ => ⟨by omega, by omega, no (by omega)⟩⟩⟩
  have hQ' := hQ M2 (q.kp.tr (fun n hn => q1 n (by omega)))
  rw [if_pos (by omega)] at hQ'
  obtain ⟨t1, t2, t3, t4, t5, t6, t7⟩ := q2
  have Bk := B_X9_tree_31 (d := d + 59) (k := 3) (M := M2) (Q := Q) (x1 := w) (sx0 := (fwT c K M).1)
  rw [t1, t2, t3, t4, t5, t6] at Bk
  refine Bk ⟨fun e => ?_, fun e => ⟨fun e2 => ?_, fun e2 => ?_⟩, fun e => ?_, fun e => ?_, fun e => ?_, fun e => ?_⟩
  · subst e; exact hQ'
  · subst e
    have h' : Q (xr (.inl (if (fwT c K M).2.2.2.2.2.1 = 0 then 1 else 0))) M2 := hQ'
    rw [if_pos e2] at h'; exact h'
  · subst e
    have h' : Q (xr (.inl (if (fwT c K M).2.2.2.2.2.1 = 0 then 1 else 0))) M2 := hQ'
    rw [if_neg e2] at h'; exact h'
  · subst e; exact hQ'
  · subst e; exact hQ'
  · subst e; exact hQ'
  · have e5 : w = 5 := by omega
    subst e5; exact hQ'
theorem mq_tree {d k : Nat} {c : Int} {K : Nat} {N : Int} {M : mM} {Q : mRes → mM → Prop} {w : Int} (hS : St c K N M) (hQ : ∀ M' v, kpM M M' → mr (fun _ => 1) (an_tree c K M w) M' v → Q (.inl (some (mI v))) M') : V (d + 60) k qX10_tree 0 [mR 18 58 112, mI w, mE 0] [] M Q := by
  unfold an_tree at hQ
  have hS0 := hS.m0 (v := 0)
  have kp0 : kpM M (mUp M 112 5 0) := kpM.rf.fl (by simp)
  have ef : fwT c K (mUp M 112 5 0) = fwT c K M := by show fewT c K _ _ _ = fewT c K _ _ _; rw [up_row (by decide), up_row (by decide)]
  refine B_X10_tree_0 (c_X10_within (fun x hx => B_X10_tree_12 (c_X10_fine up_s (by decide) (fun hz => B_X10_tree_16 ⟨fun z => (z rfl).elim, fun _ => hQ _ 0 (kp0.fl (by simp)) ?_⟩) (fun hz => B_X10_tree_16 ⟨fun _ => c_X10_few0 hS0 (fun M1 M2 q q1 q2 => ?_), fun z => by omega⟩))))
  · have hn : ¬ (0 ≤ w ∧ w ≤ 5) := fun z => by rw [if_pos z] at hx; omega
    rw [if_neg hn]; exact up_s
  · have hn : 0 ≤ w ∧ w ≤ 5 := by
      by_cases z : 0 ≤ w ∧ w ≤ 5
      · exact z
      · rw [if_neg z] at hx; omega
    rw [if_pos hn] at hQ
    have e5 : M2 112 5 = 0 := by rw [q1.2 5 (by simp), q.2.2.2.2 5 (by simp)]; exact up_s
    have go := fun v hv => hQ M2 v ((kp0.tr q.kp).tr q1.kp7) ⟨e5, hv⟩
    rw [ef] at q2 ⊢
    obtain ⟨t1, t2, t3, t4, t5, t6, t7⟩ := q2
    have Bk := B_X10_tree_25 (d := d + 59) (k := k) (M := M2) (Q := Q) (x1 := w) (u2 := mE 0) (sx0 := (fwT c K M).1)
    rw [t2, t3, t4, t5, t6] at Bk
    refine Bk ⟨fun e => go _ ?_, fun e => ⟨fun e2 => go _ ?_, fun e2 => go _ ?_⟩, fun e => go _ ?_, fun e => go _ ?_, fun e => go _ ?_, fun e => go _ ?_⟩
    · subst e; rfl
    · subst e; exact (if_pos e2).symm
    · subst e; exact (if_neg e2).symm
    · subst e; rfl
    · subst e; rfl
    · subst e; rfl
    · have e5 : w = 5 := by omega
      subst e5; rfl
/-! best -/
def an_best (c : Int) (K : Nat) (M : mM) (i s : Int) : An := if (0 ≤ s ∧ s < K) ∧ 0 ≤ i ∧ i < (fwT c K M).1 then .inl ((fwT c K M).2.2.2.2.2.2 (6 * i + s)) else .inr 1
theorem xq_best {d : Nat} {c : Int} {K : Nat} {N : Int} {M : mM} {Q : mRes → mM → Prop} {i s : Int} (hS : St c K N M) (hQ : ∀ M', kpX M M' → Q (xr (an_best c K M i s)) M') : V (d + 60) 3 qX9_best 0 [mR 17 15 0, mI i, mI s, mE 0] [] M Q := by
  unfold an_best at hQ
  have hL := hS.1
  have hf := hS.fok
  refine B_X9_best_0 ⟨by omega, c_X9_needSort hL.2.2.2.2.1 hL.2.1 (fun h => B_X9_best_5 (c_X9_restNow hS (fun M1 q => B_X9_best_13 (c_X8_few0 hS q (fun M2 q1 q2 => ?_))))) (fun h => by have := hQ M kpX.rf; rw [if_neg (fun z => h z.1)] at this; exact this)⟩
  have kp : kpX M M2 := q.kp.tr (fun n hn => q1 n (by omega))
  have hQ' := hQ M2 kp
  have hK6 := hL.2.1
  have no : ¬ (0 ≤ i ∧ i < (fwT c K M).1) → Q (.inr 1) M2 := fun hn => by rw [if_neg (fun z => hn z.2)] at hQ'; exact hQ'
  have hf1 := hf.1
  refine B_X9_best_16 ⟨fun _ => ⟨by omega, by omega, no (by omega)⟩, fun _ => ⟨fun _ => ⟨by omega, by omega, no (by omega)⟩, fun _ => ⟨fun _ => ⟨by omega, by omega, by omega, ?_⟩, fun _ => by omega⟩⟩⟩
  rw [if_pos ⟨h, by omega⟩] at hQ'
  rw [q2.2.2.2.2.2.2 (i * 6 + s) (by omega) (by omega), show i * 6 + s = 6 * i + s by omega]
  exact hQ'
theorem mq_best {d k : Nat} {c : Int} {K : Nat} {N : Int} {M : mM} {Q : mRes → mM → Prop} {i s : Int} (hS : St c K N M) (hQ : ∀ M' v, kpM M M' → mr (fun _ => 1) (an_best c K M i s) M' v → Q (.inl (some (mI v))) M') : V (d + 60) k qX10_best 0 [mR 18 58 112, mI i, mI s] [] M Q := by
  unfold an_best at hQ
  have hL := hS.1
  have hf := hS.fok
  have hK6 := hL.2.1
  have hS0 := hS.m0 (v := 0)
  have kp0 : kpM M (mUp M 112 5 0) := kpM.rf.fl (by simp)
  have ef : fwT c K (mUp M 112 5 0) = fwT c K M := by show fewT c K _ _ _ = fewT c K _ _ _; rw [up_row (by decide), up_row (by decide)]
  refine B_X10_best_0 (c_X10_isSort up_s (by rw [up_fld (by decide)]; exact hL.2.2.2.2.2.1) hK6 (fun h => B_X10_best_10 ⟨fun z => (z rfl).elim, fun _ => hQ _ 0 (kp0.fl (by simp)) (by rw [if_neg (fun z => h z.1)]; exact up_s)⟩) (fun h => B_X10_best_10 ⟨fun _ => c_X10_few0 hS0 (fun M1 M2 q q1 q2 => ?_), fun z => by omega⟩))
  rw [ef] at q2 ⊢
  have kp := (kp0.tr q.kp).tr q1.kp7
  have e5 : M2 112 5 = 0 := by rw [q1.2 5 (by simp), q.2.2.2.2 5 (by simp)]; exact up_s
  have hf1 := hf.1
  refine B_X10_best_22 ⟨by omega, c_X10_within (fun x hx => B_X10_best_27 (c_X10_fine e5 (by decide) (fun hz => B_X10_best_31 ⟨fun _ => hQ _ 0 (kp.fl (by simp)) ?_, fun z => (z rfl).elim⟩) (fun hz => ?_)))⟩
  · have hn : ¬ (0 ≤ i ∧ i ≤ (fwT c K M).1 - 1) := fun z => by rw [if_pos z] at hx; omega
    rw [if_neg (by omega)]; exact up_s
  · have hn : 0 ≤ i ∧ i ≤ (fwT c K M).1 - 1 := by
      by_cases z : 0 ≤ i ∧ i ≤ (fwT c K M).1 - 1
      · exact z
      · rw [if_neg z] at hx; omega
    refine B_X10_best_31 ⟨fun z => by omega, fun _ => ⟨by omega, by omega, by omega, hQ M2 _ kp ?_⟩⟩
    rw [if_pos ⟨h, by omega⟩]
    exact ⟨e5, q2.2.2.2.2.2.2 _ (by omega) (by omega)⟩
/-! guaranteed -/
def an_guar (c : Int) (K : Nat) (M : mM) (w : Int) : An := if w = 0 then .inl (if 17 * (fwT c K M).1 < 10 * ((pkA c 1 (M 9) (M 113) (orF (M 9) K) K).1 : Int) then 0 else 1) else if w = 1 then .inl (if 11 * (fwT c K M).1 + 6 < 9 * ((pkA c 5 (M 9) (M 113) (orF (M 9) K) K).1 : Int) then 0 else 1) else .inr 1
theorem St.p24 {c : Int} {K : Nat} {N : Int} {M : mM} (h : St c K N M) (r : Int) : ((pkA c r (M 9) (M 113) (orF (M 9) K) K).1 : Int) ≤ 24 := by
  have h1 := pkA_ok h.pk (r := r) K (Nat.le_refl _)
  have h2 := h.pk.sum (r := r)
  have h3 := h1.1.1
  omega
theorem xq_guar {d : Nat} {c : Int} {K : Nat} {N : Int} {M : mM} {Q : mRes → mM → Prop} {w : Int} (hS : St c K N M) (hQ : ∀ M', kpX M M' → Q (xr (an_guar c K M w)) M') : V (d + 60) 3 qX9_guaranteed 0 [mR 17 15 0, mI w, mE 0, mE 0] [] M Q := by
  unfold an_guar at hQ
  have hf1 := hS.fok.1
  have go : (w = 0 ∨ w = 1) → V (d + 60) 3 qX9_guaranteed 19 [mR 17 15 0, mI w, mE 0, mE 0] [] M Q := fun hw => by
    refine B_X9_guaranteed_19 (c_X9_restNow hS (fun M1 q => B_X9_guaranteed_23 (c_X8_few0 hS q (fun M2 q1 q2 => ?_))))
    have e12 : M2 12 = M1 12 := q1 12 (by omega)
    have e13 : M2 13 = M1 13 := q1 13 (by omega)
    have e14 : M2 14 = M1 14 := q1 14 (by omega)
    have e15 : M2 15 = M1 15 := q1 15 (by omega)
    have hP : PkL c K (M2 13) (M2 14) (M2 15) := by rw [e13, e14, e15]; exact q.2.2.1.PL hS.GL hS.pk
    have kp : kpX M M2 := q.kp.tr (fun n hn => q1 n (by omega))
    refine B_X9_guaranteed_32 ⟨fun e => ?_, fun e => ?_⟩
    · refine c_X4_packAll (Or.inl rfl) (by rw [e12]; exact q.1) (by rw [e12]; exact q.2.1) hP (by omega) (fun M3 p1 p2 => ?_)
      have hQ' := hQ M3 (kp.tr (fun n hn => p1 n (by simp; omega)))
      rw [e13, e14, e15, q.2.2.1.pk]
      have h24 := hS.p24 5
      rw [if_neg e, if_pos (by omega)] at hQ'
      refine B_X9_guaranteed_73 ⟨by omega, by omega, by omega, fun e2 => ?_, fun e2 => ?_⟩
      · rw [if_pos e2] at hQ'; exact hQ'
      · rw [if_neg e2] at hQ'; exact hQ'
    · refine c_X4_packAll (Or.inl rfl) (by rw [e12]; exact q.1) (by rw [e12]; exact q.2.1) hP (by omega) (fun M3 p1 p2 => ?_)
      have hQ' := hQ M3 (kp.tr (fun n hn => p1 n (by simp; omega)))
      rw [e13, e14, e15, q.2.2.1.pk]
      have h24 := hS.p24 1
      rw [if_pos e] at hQ'
      refine B_X9_guaranteed_48 ⟨by omega, by omega, fun e2 => ?_, fun e2 => ?_⟩
      · rw [if_pos e2] at hQ'; exact hQ'
      · rw [if_neg e2] at hQ'; exact hQ'
  refine B_X9_guaranteed_0 ⟨fun e => go (Or.inl e), fun e => ⟨fun e1 => go (Or.inr e1), fun e1 => ⟨by omega, by omega, ?_⟩⟩⟩
  have := hQ M kpX.rf
  rw [if_neg e, if_neg e1] at this
  exact this
theorem mq_guar {d k : Nat} {c : Int} {K : Nat} {N : Int} {M : mM} {Q : mRes → mM → Prop} {w : Int} (hS : St c K N M) (hQ : ∀ M' v, kpM M M' → mr (fun _ => 1) (an_guar c K M w) M' v → Q (.inl (some (mI v))) M') : V (d + 60) k qX10_guaranteed 0 [mR 18 58 112, mI w, mE 0, mE 0, mE 0] [] M Q := by
  unfold an_guar at hQ
  have hf1 := hS.fok.1
  have hS0 := hS.m0 (v := 0)
  have kp0 : kpM M (mUp M 112 5 0) := kpM.rf.fl (by simp)
  have ef : fwT c K (mUp M 112 5 0) = fwT c K M := by show fewT c K _ _ _ = fewT c K _ _ _; rw [up_row (by decide), up_row (by decide)]
  refine B_X10_guaranteed_0 (c_X10_within (fun x hx => B_X10_guaranteed_12 (c_X10_fine up_s (by decide) (fun hz => B_X10_guaranteed_16 ⟨fun z => (z rfl).elim, fun _ => hQ _ 0 (kp0.fl (by simp)) ?_⟩) (fun hz => B_X10_guaranteed_16 ⟨fun _ => c_X10_few0 hS0 (fun M1 M2 q q1 q2 => ?_), fun z => by omega⟩))))
  · have hn : ¬ (0 ≤ w ∧ w ≤ 1) := fun z => by rw [if_pos z] at hx; omega
    rw [if_neg (by omega), if_neg (by omega)]; exact up_s
  · have hn : 0 ≤ w ∧ w ≤ 1 := by
      by_cases z : 0 ≤ w ∧ w ≤ 1
      · exact z
      · rw [if_neg z] at hx; omega
    rw [ef]
    have e5 : M2 112 5 = 0 := by rw [q1.2 5 (by simp), q.2.2.2.2 5 (by simp)]; exact up_s
    have kp := (kp0.tr q.kp).tr q1.kp7
    have e33 : M2 112 33 = c := by rw [q1.2 33 (by simp)]; exact q.1
    have e7 : M2 112 7 = K := by rw [q1.2 7 (by simp), q.2.2.2.2 7 (by simp), up_fld (by decide)]; exact hS.1.2.2.2.2.2.1
    have a1 := q1.1 121 (by simp) (by decide)
    have a2 := q1.1 122 (by simp) (by decide)
    have a3 := q1.1 123 (by simp) (by decide)
    have hP : PkL c K (M2 122) (M2 121) (M2 123) := by rw [a1, a2, a3]; exact q.2.1.PL hS0.GL hS0.pk
    have hpk : ∀ r, pkA c r (M2 122) (M2 121) (M2 123) K = pkA c r (M 9) (M 113) (orF (M 9) K) K := fun r => by rw [a1, a2, a3, q.2.1.pk, up_row (by decide), up_row (by decide)]
    refine B_X10_guaranteed_25 ⟨fun e => B_X10_guaranteed_36 (c_X10_packs e33 e7 hP (by omega) (fun M3 p1 p2 => ?_)), fun e => B_X10_guaranteed_36 (c_X10_packs e33 e7 hP (by omega) (fun M3 p1 p2 => ?_))⟩
    · rw [hpk]
      have h24 := hS.p24 5
      have kp3 := kp.tr (kpM.of p1 (fun n hn => by simp at hn; omega) (fun i hi => by simp at hi ⊢; omega))
      have e53 : M3 112 5 = 0 := by rw [p1.2 5 (by simp)]; exact e5
      refine B_X10_guaranteed_39 ⟨fun _ => ⟨by omega, by omega, by omega, fun e2 => B_X10_guaranteed_82 ⟨fun _ => hQ M3 0 kp3 ?_, fun z => (z rfl).elim⟩, fun e2 => B_X10_guaranteed_82 ⟨fun z => by omega, fun _ => hQ M3 1 kp3 ?_⟩⟩, fun z => (e z).elim⟩
      · rw [if_neg e, if_pos (by omega), if_pos e2]; exact ⟨e53, rfl⟩
      · rw [if_neg e, if_pos (by omega), if_neg e2]; exact ⟨e53, rfl⟩
    · rw [hpk]
      have h24 := hS.p24 1
      have kp3 := kp.tr (kpM.of p1 (fun n hn => by simp at hn; omega) (fun i hi => by simp at hi ⊢; omega))
      have e53 : M3 112 5 = 0 := by rw [p1.2 5 (by simp)]; exact e5
      refine B_X10_guaranteed_39 ⟨fun z => (z e).elim, fun _ => ⟨by omega, by omega, fun e2 => B_X10_guaranteed_82 ⟨fun _ => hQ M3 0 kp3 ?_, fun z => (z rfl).elim⟩, fun e2 => B_X10_guaranteed_82 ⟨fun z => by omega, fun _ => hQ M3 1 kp3 ?_⟩⟩⟩
      · rw [if_pos e, if_pos e2]; exact ⟨e53, rfl⟩
      · rw [if_pos e, if_neg e2]; exact ⟨e53, rfl⟩
