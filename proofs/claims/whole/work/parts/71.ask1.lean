/-! questions: an answer, or what is thrown -/
abbrev An : Type := Int ⊕ Nat
def xr : An → mRes
  | .inl v => .inl (some (mI v))
  | .inr e => .inr e
def mr (f : Nat → Int) (a : An) (M : mM) (v : Int) : Prop := match a with
  | .inl x => M 112 5 = 0 ∧ v = x
  | .inr e => M 112 5 = f e
theorem c_X9_isSort {d k : Nat} {M : mM} {Q : mRes → mM → Prop} {x : Int} {K : Nat} (hK : M 8 1 = K) (hK6 : K ≤ 6) (h1 : 0 ≤ x ∧ x < K → Q (.inl (some (mI 1))) M) (h0 : ¬ (0 ≤ x ∧ x < K) → Q (.inl (some (mI 0))) M) : V d k qX9_isSort 0 [mR 17 15 0, mI x] [] M Q := by
  have Bk := B_X9_isSort_0 (d := d) (k := k) (M := M) (Q := Q) (x1 := x)
  rw [hK] at Bk
  exact Bk ⟨fun _ => h0 (by omega), fun _ => ⟨fun _ => h0 (by omega), fun _ => ⟨fun _ => by omega, fun _ => h1 (by omega)⟩⟩⟩
theorem c_X9_needSort {d k : Nat} {M : mM} {Q : mRes → mM → Prop} {x : Int} {K : Nat} (hK : M 8 1 = K) (hK6 : K ≤ 6) (h1 : 0 ≤ x ∧ x < K → Q (.inl none) M) (h0 : ¬ (0 ≤ x ∧ x < K) → Q (.inr 1) M) : V (d + 7) (k + 1) qX9_needSort 0 [mR 17 15 0, mI x] [] M Q :=
  B_X9_needSort_0 (c_X9_isSort hK hK6 (fun h => B_X9_needSort_5 ⟨fun _ => h1 h, fun z => by omega⟩) (fun h => B_X9_needSort_5 ⟨fun z => (z rfl).elim, fun _ => ⟨by omega, by omega, h0 h⟩⟩))
theorem c_X9_needSortOrNone {d k : Nat} {M : mM} {Q : mRes → mM → Prop} {x : Int} {K : Nat} (hK : M 8 1 = K) (hK6 : K ≤ 6) (h1 : x = -1 ∨ (0 ≤ x ∧ x < K) → Q (.inl none) M) (h0 : ¬ (x = -1 ∨ (0 ≤ x ∧ x < K)) → Q (.inr 1) M) : V (d + 8) (k + 1) qX9_needSortOrNone 0 [mR 17 15 0, mI x] [] M Q :=
  B_X9_needSortOrNone_0 ⟨fun e => B_X9_needSortOrNone_10 (h1 (Or.inl e)), fun e => ⟨by omega, c_X9_needSort hK hK6 (fun h => B_X9_needSortOrNone_10 (h1 (Or.inr h))) (fun h => h0 (fun z => z.elim e h))⟩⟩
theorem c_X9_needBin {d k : Nat} {M : mM} {Q : mRes → mM → Prop} {x : Int} (h13 : 0 ≤ M 17 13 ∧ M 17 13 ≤ 12) (h1 : 0 ≤ x ∧ x < M 17 13 → Q (.inl none) M) (h0 : ¬ (0 ≤ x ∧ x < M 17 13) → Q (.inr 1) M) : V (d + 7) (k + 1) qX9_needBin 0 [mR 17 15 0, mI x] [] M Q :=
  B_X9_needBin_0 (c_X7_isBin (Or.inl rfl) h13 (fun r hr => by
    by_cases e : 0 ≤ x ∧ x < M (16 + 1) 13
    · rw [if_pos e] at hr
      subst hr
      exact B_X9_needBin_8 ⟨fun _ => h1 e, fun z => by omega⟩
    · rw [if_neg e] at hr
      subst hr
      exact B_X9_needBin_8 ⟨fun z => (z rfl).elim, fun _ => ⟨by omega, by omega, h0 e⟩⟩))
theorem c_X9_needRule {d k : Nat} {M : mM} {Q : mRes → mM → Prop} {x : Int} (h1 : 0 ≤ x ∧ x < 8 → Q (.inl none) M) (h0 : ¬ (0 ≤ x ∧ x < 8) → Q (.inr 1) M) : V (d + 7) (k + 1) qX9_needRule 0 [mR 17 15 0, mI x] [] M Q :=
  B_X9_needRule_0 ⟨fun _ => ⟨by omega, by omega, h0 (by omega)⟩, fun _ => ⟨fun _ => h1 (by omega), fun _ => ⟨by omega, by omega, h0 (by omega)⟩⟩⟩
theorem St.b13 {c : Int} {K : Nat} {N : Int} {M : mM} (h : St c K N M) : M 17 13 = M 113 6 ∧ 0 ≤ M 113 6 ∧ M 113 6 ≤ 12 := ⟨h.row.1.2.1, h.row.2.2.2.1⟩
theorem askX.kp {c : Int} {K : Nat} {M M' : mM} (h : askX c K M M') : kpX M M' := fun n hn => h.2.2.2.2 n (by omega)
theorem askM.kp {c : Int} {K : Nat} {M M' : mM} (h : askM c K M M') : kpM M M' := kpM.of h.2.2.2 (fun n hn => by simp at hn; omega) (fun i hi => by simp at hi ⊢; omega)
/-- the model's start of a question -/
theorem St.m0 {c : Int} {K : Nat} {N : Int} {M : mM} (h : St c K N M) {v : Int} : St c K N (mUp M 112 5 v) := h.km (kpM.rf.fl (by simp))
/-! rule -/
def an_rule (c : Int) (K : Nat) (M : mM) (r : Int) : An := if 0 ≤ r ∧ r < 8 then .inl ((pkA c r (M 9) (M 113) (orF (M 9) K) K).1 : Int) else .inr 1
theorem xq_rule {d : Nat} {c : Int} {K : Nat} {N : Int} {M : mM} {Q : mRes → mM → Prop} {r : Int} (hS : St c K N M) (hQ : ∀ M', kpX M M' → Q (xr (an_rule c K M r)) M') : V (d + 60) 3 qX9_rule 0 [mR 17 15 0, mI r] [] M Q := by
  unfold an_rule at hQ
  refine B_X9_rule_0 ⟨by omega, c_X9_needRule (fun h => B_X9_rule_5 (c_X9_restNow hS (fun M1 q => B_X9_rule_13 ?_))) (fun h => by rw [if_neg h] at hQ; exact hQ M kpX.rf)⟩
  rw [if_pos h] at hQ
  refine c_X4_packAll (Or.inl rfl) q.1 q.2.1 (q.2.2.1.PL hS.GL hS.pk) (by omega) (fun M2 q1 q2 => B_X9_rule_17 ?_)
  rw [q.2.2.1.pk]
  exact hQ M2 (q.kp.tr (fun n hn => q1 n (by simp; omega)))
theorem mq_rule {d k : Nat} {c : Int} {K : Nat} {N : Int} {M : mM} {Q : mRes → mM → Prop} {r : Int} (hS : St c K N M) (hQ : ∀ M' v, kpM M M' → mr (fun _ => 1) (an_rule c K M r) M' v → Q (.inl (some (mI v))) M') : V (d + 60) k qX10_rule 0 [mR 18 58 112, mI r] [] M Q := by
  unfold an_rule at hQ
  have hL := hS.1
  refine B_X10_rule_0 (c_X10_isRule up_s (fun h => B_X10_rule_10 ⟨fun z => (z rfl).elim, fun _ => hQ _ 0 ((kpM.rf.fl (by simp)).fl (by simp)) (by rw [if_neg h]; exact up_s)⟩) (fun h => B_X10_rule_10 ⟨fun _ => c_X10_look0 hS.m0 (fun M1 q => B_X10_rule_19 ?_), fun z => by omega⟩))
  rw [if_pos h] at hQ
  have e7 : M1 112 7 = K := by rw [q.2.2.2.2 7 (by simp), up_fld (by decide)]; exact hL.2.2.2.2.2.1
  refine c_X10_packs q.1 e7 (q.2.1.PL hS.m0.GL hS.m0.pk) (by omega) (fun M2 q1 q2 => B_X10_rule_24 ?_)
  rw [q.2.1.pk, up_row (by decide), up_row (by decide)]
  refine hQ M2 _ (((kpM.rf.fl (by simp)).tr q.kp).tr (kpM.of q1 (fun n hn => by simp at hn; omega) (fun i hi => by simp at hi ⊢; omega))) ⟨?_, rfl⟩
  rw [q1.2 5 (by simp), q.2.2.2.2 5 (by simp), up_s]
/-! into -/
def an_into (c : Int) (K : Nat) (M : mM) (r i : Int) : An := if 0 ≤ r ∧ r < 8 ∧ 0 ≤ i ∧ i < (pkA c r (M 9) (M 113) (orF (M 9) K) K).2.1 then .inl ((pkA c r (M 9) (M 113) (orF (M 9) K) K).2.2.2.1 i) else .inr 1
theorem xq_into {d : Nat} {c : Int} {K : Nat} {N : Int} {M : mM} {Q : mRes → mM → Prop} {r i : Int} (hS : St c K N M) (hQ : ∀ M', kpX M M' → Q (xr (an_into c K M r i)) M') : V (d + 60) 3 qX9_into 0 [mR 17 15 0, mI r, mI i] [] M Q := by
  unfold an_into at hQ
  refine B_X9_into_0 ⟨by omega, c_X9_needRule (fun h => B_X9_into_5 (c_X9_restNow hS (fun M1 q => B_X9_into_13 ?_))) (fun h => by rw [if_neg (fun z => h ⟨z.1, z.2.1⟩)] at hQ; exact hQ M kpX.rf)⟩
  refine c_X4_packAll (Or.inl rfl) q.1 q.2.1 (q.2.2.1.PL hS.GL hS.pk) (by omega) (fun M2 q1 q2 => ?_)
  have hP := pkA_ok hS.pk (r := r) K (Nat.le_refl _)
  have hs := hS.pk.sum (r := r)
  rw [q.2.2.1.pk] at q2
  have kp : kpX M M2 := q.kp.tr (fun n hn => q1 n (by simp; omega))
  have no : ¬ (0 ≤ i ∧ i < (pkA c r (M 9) (M 113) (orF (M 9) K) K).2.1) → Q (.inr 1) M2 := fun hn => by
    have := hQ M2 kp
    rw [if_neg (fun z => hn ⟨z.2.2.1, z.2.2.2⟩)] at this
    exact this
  have Bk := B_X9_into_17 (d := d + 59) (k := 2) (M := M2) (Q := Q) (x1 := r) (x2 := i) (sx0 := (pkA c r (M1 13) (M1 14) (M1 15) K).1)
  rw [q2.2.1] at Bk
  refine Bk ⟨fun _ => ⟨by omega, by omega, no (by omega)⟩, fun _ => ⟨fun _ => ⟨by omega, by omega, no (by omega)⟩, fun _ => ⟨fun _ => ⟨by omega, ?_⟩, fun _ => by omega⟩⟩⟩
  obtain ⟨t, ht⟩ : ∃ t : Nat, i = t := ⟨i.toNat, by omega⟩
  have := hQ M2 kp
  rw [if_pos (by omega)] at this
  subst ht
  have e : M2 29 t = (pkA c r (M 9) (M 113) (orF (M 9) K) K).2.2.2.1 t := q2.2.2.2.1 t (by omega)
  rw [e]; exact this
theorem mq_into {d k : Nat} {c : Int} {K : Nat} {N : Int} {M : mM} {Q : mRes → mM → Prop} {r i : Int} (hS : St c K N M) (hQ : ∀ M' v, kpM M M' → mr (fun _ => 1) (an_into c K M r i) M' v → Q (.inl (some (mI v))) M') : V (d + 60) k qX10_into 0 [mR 18 58 112, mI r, mI i] [] M Q := by
  unfold an_into at hQ
  have hL := hS.1
  refine B_X10_into_0 (c_X10_isRule up_s (fun h => B_X10_into_10 ⟨fun z => (z rfl).elim, fun _ => hQ _ 0 ((kpM.rf.fl (by simp)).fl (by simp)) (by rw [if_neg (fun z => h ⟨z.1, z.2.1⟩)]; exact up_s)⟩) (fun h => B_X10_into_10 ⟨fun _ => c_X10_look0 hS.m0 (fun M1 q => B_X10_into_19 ?_), fun z => by omega⟩))
  have e7 : M1 112 7 = K := by rw [q.2.2.2.2 7 (by simp), up_fld (by decide)]; exact hL.2.2.2.2.2.1
  refine c_X10_packs q.1 e7 (q.2.1.PL hS.m0.GL hS.m0.pk) (by omega) (fun M2 q1 q2 => ?_)
  have hP := pkA_ok hS.pk (r := r) K (Nat.le_refl _)
  have hs := hS.pk.sum (r := r)
  rw [q.2.1.pk, up_row (by decide), up_row (by decide)] at q2
  have kp : kpM M M2 := ((kpM.rf.fl (by simp)).tr q.kp).tr (kpM.of q1 (fun n hn => by simp at hn; omega) (fun i hi => by simp at hi ⊢; omega))
  have e5 : M2 112 5 = 0 := by rw [q1.2 5 (by simp), q.2.2.2.2 5 (by simp), up_s]
  have Bk := B_X10_into_24 (d := d + 59) (k := k) (M := M2) (Q := Q) (x1 := r) (x2 := i) (sx0 := (pkA c r (M1 122) (M1 121) (M1 123) K).1)
  rw [q2.2.1] at Bk
  refine Bk ⟨by omega, c_X10_within (fun w hw => B_X10_into_37 (c_X10_fine e5 (by decide) (fun hz => B_X10_into_41 ⟨fun _ => hQ _ 0 (kp.fl (by simp)) ?_, fun z => (z rfl).elim⟩) (fun hz => B_X10_into_41 ⟨fun z => by omega, fun _ => ⟨?_, hQ M2 _ kp ?_⟩⟩)))⟩
  · have hn : ¬ (0 ≤ i ∧ i ≤ ((pkA c r (M 9) (M 113) (orF (M 9) K) K).2.1 : Int) - 1) := fun z => by rw [if_pos z] at hw; omega
    rw [if_neg (by omega)]; exact up_s
  · have hn : 0 ≤ i ∧ i ≤ ((pkA c r (M 9) (M 113) (orF (M 9) K) K).2.1 : Int) - 1 := by
      by_cases z : 0 ≤ i ∧ i ≤ ((pkA c r (M 9) (M 113) (orF (M 9) K) K).2.1 : Int) - 1
      · exact z
      · rw [if_neg z] at hw; omega
    omega
  · have hn : 0 ≤ i ∧ i ≤ ((pkA c r (M 9) (M 113) (orF (M 9) K) K).2.1 : Int) - 1 := by
      by_cases z : 0 ≤ i ∧ i ≤ ((pkA c r (M 9) (M 113) (orF (M 9) K) K).2.1 : Int) - 1
      · exact z
      · rw [if_neg z] at hw; omega
    rw [if_pos (by omega)]
    obtain ⟨t, ht⟩ : ∃ t : Nat, i = t := ⟨i.toNat, by omega⟩
    subst ht
    exact ⟨e5, (q2.2.2 t (by omega)).1⟩
