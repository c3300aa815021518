/-! the tree of goods that are a little other -/
theorem up_fs {M : mM} {n i v : Int} : mUp M n i v n = fset (M n) i v := funext fun j => by
  unfold mUp fset
  by_cases e : j = i
  · rw [if_pos ⟨rfl, e⟩, if_pos e]
  · rw [if_neg (fun z => e z.2), if_neg e]
def lkX (c : Int) (K : Nat) (sz mn od : Int → Int) (M : mM) : Prop := M 12 0 = c ∧ M 12 1 = K ∧ lotE K (M 13) (M 14) (M 15) sz mn od ∧ ∀ s : Nat, s < 6 → 0 ≤ M 14 s ∧ M 14 s ≤ 24
def lkM (c : Int) (K : Nat) (sz mn od : Int → Int) (M : mM) : Prop := M 112 33 = c ∧ M 112 7 = K ∧ lotE K (M 122) (M 121) (M 123) sz mn od ∧ ∀ s : Nat, s < 6 → 0 ≤ M 121 s ∧ M 121 s ≤ 24
theorem c_X8_fewL {d k : Nat} {c : Int} {K : Nat} {sz mn od : Int → Int} {M : mM} {Q : mRes → mM → Prop} (hG : GLok c K sz mn od) (hP : PkL c K sz mn od) (q : lkX c K sz mn od M) (hQ : ∀ M2, (∀ n, ¬ (32 ≤ n ∧ n < 90) → M2 n = M n) → trC M2 (fewT c K sz mn od) → Q (.inl (some (mI (fewT c K sz mn od).1))) M2) : V (d + 53) k qX8_fewestOf 0 [mR 16 10 32, mR 11 5 12] [] M Q := by
  refine c_X8_fewestOf q.1 q.2.1 rfl rfl rfl (q.2.2.1.GL hG) (q.2.2.1.PL hG hP) q.2.2.2 (fun M2 q1 q2 => ?_)
  rw [q.2.2.1.few] at q2 ⊢
  exact hQ M2 q1 q2
theorem c_X10_fewL {d k : Nat} {c : Int} {K : Nat} {sz mn od : Int → Int} {M : mM} {Q : mRes → mM → Prop} (hG : GLok c K sz mn od) (hP : PkL c K sz mn od) (q : lkM c K sz mn od M) (hQ : ∀ M2, frM [124, 125, 126, 127, 128, 129, 130] [37, 38, 40, 44, 45, 46, 47, 48, 49] M M2 → trM M2 (fewT c K sz mn od) → Q (.inl (some (mI (fewT c K sz mn od).1))) M2) : V (d + 5) k qX10_proves 0 [mR 18 58 112, mE 0, mE 0, mE 0] [] M Q := by
  refine c_X10_proves q.1 q.2.1 rfl rfl rfl (q.2.2.1.GL hG) (q.2.2.1.PL hG hP) q.2.2.2 (fun M2 q1 q2 => ?_)
  rw [q.2.2.1.few] at q2 ⊢
  exact hQ M2 q1 q2
theorem GLok.fs {c : Int} {K s : Nat} {sz mn od : Int → Int} {v : Int} (h : GLok c K sz mn od) (hs : s < K) (hv : 0 ≤ v) (hsum : sg mn K + (v - mn s) ≤ 24) : GLok c K sz (fset mn s v) od := by
  refine ⟨h.1, h.2.1, h.2.2.1, fun j hj => ?_, ?_, h.2.2.2.2.2⟩
  · by_cases e : (j : Int) = s
    · rw [e, fset_s]; exact hv
    · rw [fset_n e]; exact h.2.2.2.1 j hj
  · rw [sg_fset, if_pos hs]; exact hsum
theorem GLok.fsP {c : Int} {K s : Nat} {sz mn od : Int → Int} {v : Int} (h : GLok c K sz mn od) (hc : 1 ≤ c) (hz : ∀ j : Nat, j < K → sz j ≤ c) (hs : s < K) (hv : 0 ≤ v) (hsum : sg mn K + (v - mn s) ≤ 24) : PkL c K sz (fset mn s v) od := (h.fs hs hv hsum).pkL hc (fun j hj _ => hz j hj)
theorem lotE.fs {K s : Nat} {sz mn od sz' mn' od' : Int → Int} {v : Int} (h : lotE K sz mn od sz' mn' od') : lotE K sz (fset mn s v) od sz' (fset mn' s v) od' := ⟨fun j hj => ⟨(h.1 j hj).1, by
  by_cases e : (j : Int) = s
  · rw [e, fset_s, fset_s]
  · rw [fset_n e, fset_n e]; exact (h.1 j hj).2⟩, h.2⟩
theorem askX.lk {c : Int} {K : Nat} {N : Int} {M M1 : mM} (hS : St c K N M) (q : askX c K M M1) : lkX c K (M 9) (M 113) (orF (M 9) K) M1 := ⟨q.1, q.2.1, q.2.2.1, fun s hs => by rw [q.2.2.2.1 s hs]; have := hS.mn s hs; omega⟩
theorem askM.lk {c : Int} {K : Nat} {N : Int} {M M1 : mM} (hS : St c K N M) (q : askM c K M M1) : lkM c K (M 9) (M 113) (orF (M 9) K) M1 := ⟨q.1, by rw [q.2.2.2.2 7 (by simp)]; exact hS.1.2.2.2.2.2.1, q.2.1, fun s hs => by rw [q.2.2.1 s hs]; have := hS.mn s hs; omega⟩
theorem lkX.up {c : Int} {K s : Nat} {sz mn od : Int → Int} {M : mM} {v : Int} (h : lkX c K sz mn od M) (hv : 0 ≤ v ∧ v ≤ 24) : lkX c K sz (fset mn s v) od (mUp M 14 s v) := ⟨by rw [up_row (by decide)]; exact h.1, by rw [up_row (by decide)]; exact h.2.1, by rw [up_fs, up_row (by decide), up_row (by decide)]; exact h.2.2.1.fs, fun t ht => by
  by_cases e : (t : Int) = s
  · rw [e, up_s]; exact hv
  · rw [up_fld e]; exact h.2.2.2 t ht⟩
theorem lkM.up {c : Int} {K s : Nat} {sz mn od : Int → Int} {M : mM} {v : Int} (h : lkM c K sz mn od M) (hv : 0 ≤ v ∧ v ≤ 24) : lkM c K sz (fset mn s v) od (mUp M 121 s v) := ⟨by rw [up_row (by decide)]; exact h.1, by rw [up_row (by decide)]; exact h.2.1, by rw [up_fs, up_row (by decide), up_row (by decide)]; exact h.2.2.1.fs, fun t ht => by
  by_cases e : (t : Int) = s
  · rw [e, up_s]; exact hv
  · rw [up_fld e]; exact h.2.2.2 t ht⟩
/-- fewest bins with another number of a sort -/
abbrev fwS (c : Int) (K : Nat) (M : mM) (s : Nat) (v : Int) : Int := (fewT c K (M 9) (fset (M 113) s v) (orF (M 9) K)).1
theorem St.z {c : Int} {K : Nat} {N : Int} {M : mM} (h : St c K N M) : ∀ j : Nat, j < K → M 9 j ≤ c := fun j hj => (h.sz hj).2.2
/-! critical -/
def crF (c : Int) (K : Nat) (M : mM) : Nat → Int
  | 0 => 0
  | j + 1 => if 0 < M 113 j ∧ fwS c K M j (M 113 j - 1) < (fwT c K M).1 then (Int32.ofInt (crF c K M j) ||| Int32.ofInt ((Int32.ofInt 1 <<< (Int32.ofInt j &&& 31)).toInt)).toInt else crF c K M j
theorem crF_rg {c : Int} {K : Nat} {M : mM} : ∀ j : Nat, r32 (crF c K M j)
  | 0 => by unfold crF; omega
  | j + 1 => by
    unfold crF
    split
    · exact i_rg _
    · exact crF_rg j
theorem or0 {x : Int} (h : r32 x) : (Int32.ofInt x ||| Int32.ofInt 0).toInt = x := by
  have e : Int32.ofInt x ||| Int32.ofInt 0 = Int32.ofInt x := by
    show Int32.ofInt x ||| 0 = Int32.ofInt x
    exact Int32.or_zero
  rw [e, i_ti h]
theorem c_X9_critical {d k : Nat} {c : Int} {K : Nat} {N : Int} {M M1 : mM} {Q : mRes → mM → Prop} (hS : St c K N M) (q : askX c K M M1) (hQ : ∀ M2, kpX M M2 → Q (.inl (some (mI (crF c K M K)))) M2) : V (d + 54) k qX9_critical 0 [mR 17 15 0, mR 11 5 12, mE 0, mE 0, mE 0] [] M1 Q := by
  have hK6 := hS.1.2.1
  have hG := hS.GL
  refine B_X9_critical_0 (c_X8_fewL hG hS.pk (askX.lk hS q) (fun M2 q1 q2 => B_X9_critical_8 ?_))
  have loop : ∀ (r j : Nat) (M' : mM), j + r = K → lkX c K (M 9) (M 113) (orF (M 9) K) M' → (∀ s : Nat, s < 6 → M' 14 s = M 113 s) → kpX M M' → V (d + 54) k qX9_critical 14 [mR 17 15 0, mR 11 5 12, mI (fwT c K M).1, mI (crF c K M j), mI j] [] M' Q := by
    intro r
    induction r with
    | zero =>
      intro j M' hj g1 g2 g3
      have Bk := B_X9_critical_14 (d := d + 53) (k := k) (M := M') (Q := Q) (x2 := (fwT c K M).1) (x3 := crF c K M j) (x4 := j)
      rw [g1.2.1] at Bk
      refine Bk ⟨fun _ => ?_, fun z => by omega⟩
      rw [show j = K by omega]; exact hQ M' g3
    | succ r ih =>
      intro j M' hj g1 g2 g3
      have hm := hS.mn j (by omega)
      have ec : crF c K M (j + 1) = if 0 < M 113 j ∧ fwS c K M j (M 113 j - 1) < (fwT c K M).1 then (Int32.ofInt (crF c K M j) ||| Int32.ofInt ((Int32.ofInt 1 <<< (Int32.ofInt j &&& 31)).toInt)).toInt else crF c K M j := rfl
      have Bk := B_X9_critical_14 (d := d + 53) (k := k) (M := M') (Q := Q) (x2 := (fwT c K M).1) (x3 := crF c K M j) (x4 := j)
      rw [g1.2.1, g2 j (by omega)] at Bk
      refine Bk ⟨fun z => by omega, fun _ => ⟨by omega, fun c1 => ⟨by omega, ?_⟩, fun c1 => ⟨by omega, by omega, by omega, ?_⟩⟩⟩
      · have := ih (j + 1) M' (by omega) g1 g2 g3
        rw [ec, if_neg (by omega)] at this
        exact this
      · have hsum := hG.2.2.2.2.1
        refine c_X8_fewL (hG.fs (by omega) (by omega) (by omega)) (hG.fsP hS.1.1.1 hS.z (by omega) (by omega) (by omega)) (g1.up (by omega)) (fun M3 p1 p2 => ?_)
        have a14 : ∀ s : Nat, s < 6 → mUp M3 14 j (M3 14 j + 1) 14 s = M 113 s := fun s hs => by
          by_cases e : (s : Int) = j
          · rw [e, up_s, p1 14 (by omega), up_s]; omega
          · rw [up_fld e, p1 14 (by omega), up_fld e]; exact g2 s hs
        have back : ∀ v : Int, v = crF c K M (j + 1) → V (d + 54) k qX9_critical 14 [mR 17 15 0, mR 11 5 12, mI (fwT c K M).1, mI v, mI ((j : Int) + 1)] [] (mUp M3 14 j (M3 14 j + 1)) Q := fun v hv => by
          rw [hv]
          refine ih (j + 1) _ (by omega) ⟨by rw [up_row (by decide), p1 12 (by omega), up_row (by decide)]; exact g1.1, by rw [up_row (by decide), p1 12 (by omega), up_row (by decide)]; exact g1.2.1, ⟨fun s hs => ⟨?_, a14 s (by omega)⟩, fun i hi => ?_⟩, fun s hs => by rw [a14 s hs]; have := hS.mn s hs; omega⟩ a14 (g3.tr (fun n hn => by rw [up_row (by omega), p1 n (by omega), up_row (by omega)]))
          · rw [up_row (by decide), p1 13 (by omega), up_row (by decide)]; exact (g1.2.2.1.1 s hs).1
          · rw [up_row (by decide), p1 15 (by omega), up_row (by decide)]; exact g1.2.2.1.2 i hi
        have e3 : M3 14 j = M 113 j - 1 := by rw [p1 14 (by omega), up_s]
        refine B_X9_critical_53 ⟨fun c2 => ?_, fun c2 => ?_⟩
        · refine B_X9_critical_65 ⟨by omega, by omega, by omega, by omega, back _ ?_⟩
          have c2' : (fwT c K M).1 ≤ fwS c K M j (M 113 j - 1) := c2
          rw [or0 (crF_rg j), ec, if_neg (by omega)]
        · refine B_X9_critical_65 ⟨by omega, by omega, by omega, by omega, back _ ?_⟩
          have c2' : ¬ (fwT c K M).1 ≤ fwS c K M j (M 113 j - 1) := c2
          rw [ec, if_pos ⟨by omega, by omega⟩]
  exact loop K 0 M2 (by omega) ⟨by rw [q1 12 (by omega)]; exact q.1, by rw [q1 12 (by omega)]; exact q.2.1, by rw [q1 13 (by omega), q1 14 (by omega), q1 15 (by omega)]; exact q.2.2.1, by rw [q1 14 (by omega)]; exact (askX.lk hS q).2.2.2⟩ (by rw [q1 14 (by omega)]; exact q.2.2.2.1) (q.kp.tr (fun n hn => q1 n (by omega)))
theorem c_X10_critical {d k : Nat} {c : Int} {K : Nat} {N : Int} {M : mM} {Q : mRes → mM → Prop} (hS : St c K N M) (hQ : ∀ M2, kpM M M2 → M2 112 5 = M 112 5 → Q (.inl (some (mI (crF c K M K)))) M2) : V (d + 10) k qX10_critical 0 [mR 18 58 112, mE 0, mE 0, mE 0] [] M Q := by
  have hK6 := hS.1.2.1
  have hG := hS.GL
  refine B_X10_critical_0 (c_X10_few0 hS (fun M1 M2 q q1 q2 => B_X10_critical_4 ?_))
  have loop : ∀ (r j : Nat) (M' : mM), j + r = K → kpM M M' → M' 112 5 = M 112 5 → V (d + 10) k qX10_critical 9 [mR 18 58 112, mI (fwT c K M).1, mI (crF c K M j), mI j] [] M' Q := by
    intro r
    induction r with
    | zero =>
      intro j M' hj g1 g2
      have Bk := B_X10_critical_9 (d := d + 9) (k := k) (M := M') (Q := Q) (x1 := (fwT c K M).1) (x2 := crF c K M j) (x3 := j)
      rw [g1.2 7 (by simp), hS.1.2.2.2.2.2.1] at Bk
      refine Bk ⟨fun _ => ?_, fun z => by omega⟩
      rw [show j = K by omega]; exact hQ M' g1 g2
    | succ r ih =>
      intro j M' hj g1 g2
      have hm := hS.mn j (by omega)
      have hS' := hS.km g1
      have e9 : M' 9 = M 9 := g1.1 9 (by omega) (by omega)
      have e113 : M' 113 = M 113 := g1.1 113 (by omega) (by omega)
      have ec : crF c K M (j + 1) = if 0 < M 113 j ∧ fwS c K M j (M 113 j - 1) < (fwT c K M).1 then (Int32.ofInt (crF c K M j) ||| Int32.ofInt ((Int32.ofInt 1 <<< (Int32.ofInt j &&& 31)).toInt)).toInt else crF c K M j := rfl
      have Bk := B_X10_critical_9 (d := d + 9) (k := k) (M := M') (Q := Q) (x1 := (fwT c K M).1) (x2 := crF c K M j) (x3 := j)
      rw [g1.2 7 (by simp), hS.1.2.2.2.2.2.1, e113] at Bk
      refine Bk ⟨fun z => by omega, fun _ => ⟨by omega, fun c1 => c_X10_look0 hS' (fun M3 p => ?_), fun c1 => ⟨by omega, ?_⟩⟩⟩
      · have hl := askM.lk hS' p
        rw [e9, e113] at hl
        have e121 : M3 121 j = M 113 j := by rw [p.2.2.1 j (by omega), e113]
        have hsum := hG.2.2.2.2.1
        have Bk := B_X10_critical_33 (d := d + 9) (k := k) (M := M3) (Q := Q) (x1 := (fwT c K M).1) (x2 := crF c K M j) (x3 := j)
        rw [e121] at Bk
        refine Bk ⟨by omega, by omega, by omega, ?_⟩
        refine c_X10_fewL (hG.fs (by omega) (by omega) (by omega)) (hG.fsP hS.1.1.1 hS.z (by omega) (by omega) (by omega)) (hl.up (by omega)) (fun M4 p1 p2 => ?_)
        have kp4 : kpM M M4 := (g1.tr p.kp).tr (frM.kp7 p1 |> fun h => ⟨fun n a b => by rw [h.1 n a b, up_row (by omega)], fun i hi => by rw [h.2 i hi, up_row (by decide)]⟩)
        have e5 : M4 112 5 = M 112 5 := by rw [p1.2 5 (by simp), up_row (by decide), p.2.2.2.2 5 (by simp)]; exact g2
        refine B_X10_critical_47 ⟨fun c2 => ⟨by omega, ?_⟩, fun c2 => ⟨by omega, ?_⟩⟩
        · have := ih (j + 1) M4 (by omega) kp4 e5
          have c2' : (fwT c K M).1 ≤ fwS c K M j (M 113 j - 1) := c2
          rw [ec, if_neg (by omega)] at this
          exact this
        · have := ih (j + 1) M4 (by omega) kp4 e5
          have c2' : ¬ (fwT c K M).1 ≤ fwS c K M j (M 113 j - 1) := c2
          rw [ec, if_pos ⟨by omega, by omega⟩] at this
          exact this
      · have := ih (j + 1) M' (by omega) g1 g2
        rw [ec, if_neg (by omega)] at this
        exact this
  exact loop K 0 M2 (by omega) (q.kp.tr q1.kp7) (by rw [q1.2 5 (by simp), q.2.2.2.2 5 (by simp)])
/-! apart -/
def apF (c : Int) (M : mM) (j : Int) : Int := rUp (M 113 j) (c / M 9 j)
theorem c_X9_apart {d k : Nat} {c : Int} {K : Nat} {N : Int} {M M1 : mM} {Q : mRes → mM → Prop} (hS : St c K N M) (q : askX c K M M1) (hQ : Q (.inl (some (mI (sg (apF c M) K)))) M1) : V (d + 1) k qX9_apart 0 [mR 11 5 12, mE 0, mE 0] [] M1 Q := by
  have hK6 := hS.1.2.1
  have hb : ∀ j : Nat, j < K → 0 ≤ apF c M j ∧ apF c M j ≤ 12 := fun j hj => by
    have hm := hS.mn j (by omega)
    have := rUp_bd (n := M 113 j) (b := c / M 9 j) hm.1
    unfold apF; omega
  have loop : ∀ r j : Nat, j + r = K → V (d + 1) k qX9_apart 4 [mR 11 5 12, mI (sg (apF c M) j), mI j] [] M1 Q := by
    intro r
    induction r with
    | zero =>
      intro j hj
      have Bk := B_X9_apart_4 (d := d) (k := k) (M := M1) (Q := Q) (x1 := sg (apF c M) j) (x2 := j)
      rw [q.2.1] at Bk
      exact Bk ⟨fun _ => by rw [show j = K by omega]; exact hQ, fun z => by omega⟩
    | succ r ih =>
      intro j hj
      have hz := hS.sz (s := j) (by omega)
      have hm := hS.mn j (by omega)
      have hc := hS.1.1
      have h1 := sg_bd (f := apF c M) (c := 12) (n := j) (fun i hi => hb i (by omega))
      have h2 := hb j (by omega)
      have Bk := B_X9_apart_4 (d := d) (k := k) (M := M1) (Q := Q) (x1 := sg (apF c M) j) (x2 := j)
      rw [q.1, q.2.1, (q.2.2.1.1 j (by omega)).1, (q.2.2.1.1 j (by omega)).2] at Bk
      refine Bk ⟨fun z => by omega, fun _ => ⟨by omega, by omega, c_X2_cut (by omega) (fun r1 hr1 => B_X9_apart_32 (c_X0_roundUp (by omega) (fun r2 hr2 => B_X9_apart_35 ⟨?_, by omega, ?_⟩)))⟩⟩
      · rw [if_neg (by omega)] at hr1
        have e2 : r2 = apF c M j := by rw [hr2, hr1]; rfl
        omega
      · rw [if_neg (by omega)] at hr1
        have e2 : r2 = apF c M j := by rw [hr2, hr1]; rfl
        rw [e2]
        exact ih (j + 1) (by omega)
  exact B_X9_apart_0 (loop K 0 (by omega))
theorem c_X10_apart {d k : Nat} {c : Int} {K : Nat} {N : Int} {M : mM} {Q : mRes → mM → Prop} (hS : St c K N M) (hQ : ∀ M2, kpM M M2 → M2 112 5 = M 112 5 → Q (.inl (some (mI (sg (apF c M) K)))) M2) : V (d + 10) k qX10_apart 0 [mR 18 58 112, mE 0, mE 0, mE 0] [] M Q := by
  have hK6 := hS.1.2.1
  have hG := hS.GL
  have hb : ∀ j : Nat, j < K → 0 ≤ apF c M j ∧ apF c M j ≤ 12 := fun j hj => by
    have hm := hS.mn j (by omega)
    have := rUp_bd (n := M 113 j) (b := c / M 9 j) hm.1
    unfold apF; omega
  have loop : ∀ (r j : Nat) (u3 : mV) (M' : mM), j + r = K → kpM M M' → M' 112 5 = M 112 5 → V (d + 10) k qX10_apart 4 [mR 18 58 112, mI (sg (apF c M) j), mI j, u3] [] M' Q := by
    intro r
    induction r with
    | zero =>
      intro j u3 M' hj g1 g2
      have Bk := B_X10_apart_4 (d := d + 9) (k := k) (M := M') (Q := Q) (x1 := sg (apF c M) j) (x2 := j) (u3 := u3)
      rw [g1.2 7 (by simp), hS.1.2.2.2.2.2.1] at Bk
      exact Bk ⟨fun _ => by rw [show j = K by omega]; exact hQ M' g1 g2, fun z => by omega⟩
    | succ r ih =>
      intro j u3 M' hj g1 g2
      have hS' := hS.km g1
      have e9 : M' 9 = M 9 := g1.1 9 (by omega) (by omega)
      have e113 : M' 113 = M 113 := g1.1 113 (by omega) (by omega)
      have h1 := sg_bd (f := apF c M) (c := 12) (n := j) (fun i hi => hb i (by omega))
      have h2 := hb j (by omega)
      have Bk := B_X10_apart_4 (d := d + 9) (k := k) (M := M') (Q := Q) (x1 := sg (apF c M) j) (x2 := j) (u3 := u3)
      rw [g1.2 7 (by simp), hS.1.2.2.2.2.2.1] at Bk
      refine Bk ⟨fun z => by omega, fun _ => c_X10_look0 hS' (fun M3 p => B_X10_apart_16 ?_)⟩
      have hl := askM.lk hS' p
      rw [e9, e113] at hl
      have clr : ∀ (rr o : Nat) (M4 : mM), o + rr = K → frN [121] M3 M4 → (∀ t : Nat, t < 6 → M4 121 t = if t < o ∧ t ≠ j then 0 else M 113 t) → V (d + 10) k qX10_apart 18 [mR 18 58 112, mI (sg (apF c M) j), mI j, mI o] [] M4 Q := by
        intro rr
        induction rr with
        | zero =>
          intro o M4 ho f1 f2
          have e7 : M4 112 7 = K := by rw [f1 112 (by simp)]; exact hl.2.1
          have Bk := B_X10_apart_18 (d := d + 9) (k := k) (M := M4) (Q := Q) (x1 := sg (apF c M) j) (x2 := j) (x3 := o)
          rw [e7] at Bk
          refine Bk ⟨fun _ => ?_, fun z => by omega⟩
          have hGo := hG.one (s := j) (by omega)
          have hPo : PkL c K (M 9) (onl j (M 113 j)) (orF (M 9) K) := hGo.pkL hS.1.1.1 (fun t ht _ => hS.z t ht)
          refine c_X10_fewL hGo hPo ⟨by rw [f1 112 (by simp)]; exact hl.1, e7, ⟨fun t ht => ⟨by rw [f1 122 (by simp)]; exact (hl.2.2.1.1 t ht).1, ?_⟩, fun i hi => by rw [f1 123 (by simp)]; exact hl.2.2.1.2 i hi⟩, fun t ht => ?_⟩ (fun M5 p1 p2 => ?_)
          · rw [f2 t (by omega)]
            by_cases e : t = j
            · subst e; rw [if_neg (by omega), onl_at]
            · rw [if_pos ⟨by omega, e⟩, onl_ne (by omega)]
          · have := hS.mn t ht
            rw [f2 t ht]; split <;> omega
          · rw [fewT_one hG hS.1.1.1 (by omega) (hS.z j (by omega))]
            have kp5 : kpM M M5 := (g1.tr p.kp).tr (frM.kp7 p1 |> fun h => ⟨fun n a b => by rw [h.1 n a b, f1 n (by simp; omega)], fun i hi => by rw [h.2 i hi, f1 112 (by simp)]⟩)
            refine B_X10_apart_49 ⟨?_, by omega, ih (j + 1) _ M5 (by omega) kp5 (by rw [p1.2 5 (by simp), f1 112 (by simp), p.2.2.2.2 5 (by simp)]; exact g2)⟩
            have e2 : rUp (M 113 j) (c / M 9 j) = apF c M j := rfl
            omega
        | succ rr ihr =>
          intro o M4 ho f1 f2
          have e7 : M4 112 7 = K := by rw [f1 112 (by simp)]; exact hl.2.1
          have Bk := B_X10_apart_18 (d := d + 9) (k := k) (M := M4) (Q := Q) (x1 := sg (apF c M) j) (x2 := j) (x3 := o)
          rw [e7] at Bk
          refine Bk ⟨fun z => by omega, fun _ => ⟨fun e => ⟨by omega, ihr (o + 1) M4 (by omega) f1 (fun t ht => ?_)⟩, fun e => ⟨by omega, by omega, ihr (o + 1) _ (by omega) (f1.up (by simp)) (fun t ht => ?_)⟩⟩⟩
          · rw [f2 t ht]
            by_cases h : t < o ∧ t ≠ j
            · rw [if_pos h, if_pos ⟨by omega, h.2⟩]
            · rw [if_neg h, if_neg (by omega)]
          · by_cases h : (t : Int) = o
            · rw [h, up_s, if_pos ⟨by omega, by omega⟩]
            · rw [up_fld h, f2 t ht]
              by_cases h3 : t < o ∧ t ≠ j
              · rw [if_pos h3, if_pos ⟨by omega, h3.2⟩]
              · rw [if_neg h3, if_neg (by omega)]
      exact clr K 0 M3 (by omega) frN.rf (fun t ht => by rw [if_neg (by omega), p.2.2.1 t ht, e113])
  exact B_X10_apart_0 (loop K 0 _ M (by omega) kpM.rf rfl)
