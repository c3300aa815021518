/-! other, the model -/
theorem c_X10_isNoted {d k : Nat} {c : Int} {K : Nat} {N : Int} {M M1 : mM} {sz : Int → Int} {Q : mRes → mM → Prop} {n : Nat} (hS : St c K N M) (hn : M 112 10 = n) (k1 : kpM M M1) (h0 : M1 112 33 = c) (hl : lotE K (M1 122) (M1 121) (M1 123) sz (M 113) (orF sz K)) (hz : ∀ s : Nat, s < K → 1 ≤ sz s ∧ sz s ≤ c) (hQ : ∀ M2, frM [124, 125, 126] [37, 38] M1 M2 → Q (.inl (some (mI (agF c K M sz n)))) M2) : V (d + 3) k qX10_isNoted 0 [mR 18 58 112, mE 0] [] M1 Q := by
  have hA := hS.A
  have hP := hl.PL (hS.any hz) (hS.anyP hz)
  have loop : ∀ (r j : Nat) (M' : mM), j + r = n → frM [124, 125, 126] [37, 38] M1 M' → agF c K M sz j = 1 → V (d + 3) k qX10_isNoted 2 [mR 18 58 112, mI j] [] M' Q := by
    intro r
    induction r with
    | zero =>
      intro j M' hj g1 g2
      have e3 : M' 112 10 = n := by rw [g1.2 10 (by simp), k1.2 10 (by simp)]; exact hn
      have Bk := B_X10_isNoted_2 (d := d + 2) (k := k) (M := M') (Q := Q) (x1 := j)
      rw [e3] at Bk
      refine Bk ⟨fun _ => ?_, fun z => by omega⟩
      have := hQ M' g1
      rw [show n = j by omega, g2] at this
      exact this
    | succ r ih =>
      intro j M' hj g1 g2
      have e3 : M' 112 10 = n := by rw [g1.2 10 (by simp), k1.2 10 (by simp)]; exact hn
      have nt := hS.nt (i := j) (by omega)
      have e115 : M' 115 = M 115 := by rw [g1.1 115 (by simp) (by decide), k1.1 115 (by decide) (by omega)]
      have Bk := B_X10_isNoted_2 (d := d + 2) (k := k) (M := M') (Q := Q) (x1 := j)
      rw [e3, e115] at Bk
      have f2 : M' 122 = M1 122 := g1.1 122 (by simp) (by decide)
      have f1 : M' 121 = M1 121 := g1.1 121 (by simp) (by decide)
      have f3 : M' 123 = M1 123 := g1.1 123 (by simp) (by decide)
      refine Bk ⟨fun z => by omega, fun _ => ⟨by omega, c_X10_packs (c := c) (K := K) (by rw [g1.2 33 (by simp)]; exact h0) (by rw [g1.2 7 (by simp), k1.2 7 (by simp)]; exact hS.1.2.2.2.2.2.1) (by rw [f1, f2, f3]; exact hP) nt.2.2.1 (fun M2 q1 q2 => ?_)⟩⟩
      rw [f1, f2, f3, hl.pk]
      have g3 : frM [124, 125, 126] [37, 38] M1 M2 := ⟨fun t a b => (q1.1 t a b).trans (g1.1 t a b), fun i hi => (q1.2 i hi).trans (g1.2 i hi)⟩
      have e116 : M2 116 = M 116 := by rw [g3.1 116 (by simp) (by decide), k1.1 116 (by decide) (by omega)]
      have Bk := B_X10_isNoted_20 (d := d + 2) (k := k) (M := M2) (Q := Q) (x1 := j) (sx0 := ((pkA c (M 115 j) sz (M 113) (orF sz K) K).1 : Int))
      rw [e116] at Bk
      refine Bk ⟨by omega, fun z => ⟨by omega, ih (j + 1) M2 (by omega) g3 ?_⟩, fun z => ?_⟩
      · unfold agF; rw [if_pos ⟨g2, z⟩]
      · have a0 : agF c K M sz (j + 1) = 0 := by unfold agF; rw [if_neg (fun y => z y.2)]
        have := agF_0 a0 r
        rw [show j + 1 + r = n by omega] at this
        have h := hQ M2 g3
        rw [this] at h
        exact h
  exact B_X10_isNoted_0 (loop n 0 M1 (by omega) ⟨fun _ _ _ => rfl, fun _ _ => rfl⟩ rfl)
/-- is it a guess: another size, and the notes agree -/
def guF (c : Int) (K : Nat) (M : mM) (n s : Nat) (v : Int) : Int := if v ≠ M 9 s ∧ agF c K M (fset (M 9) s v) n = 1 then 1 else 0
/-- what the model looks at when it guesses -/
def gsM (c : Int) (K : Nat) (M M' : mM) (s : Nat) (v : Int) : Prop := M' 112 33 = c ∧ lotE K (M' 122) (M' 121) (M' 123) (fset (M 9) s v) (M 113) (orF (fset (M 9) s v) K)
theorem c_X10_isGuess {d k : Nat} {c : Int} {K : Nat} {N : Int} {M M' : mM} {Q : mRes → mM → Prop} {n s : Nat} {v : Int} (hS : St c K N M) (hn : M 112 10 = n) (k' : kpM M M') (e5 : M' 112 5 = 0) (hs : s < K) (hv : 1 ≤ v ∧ v ≤ c) (hQ : ∀ M2, kpM M M2 → M2 112 5 = 0 → M2 136 = M' 136 → (guF c K M n s v = 1 → gsM c K M M2 s v) → Q (.inl (some (mI (guF c K M n s v)))) M2) : V (d + 4) k qX10_isGuess 0 [mR 18 58 112, mI s, mI v] [] M' Q := by
  have hL := hS.1
  have hK6 := hL.2.1
  have hS' := hS.km k'
  have e9 : M' 9 = M 9 := k'.1 9 (by omega) (by omega)
  have e113 : M' 113 = M 113 := k'.1 113 (by omega) (by omega)
  have e114 : M' 114 s = M 9 s := by rw [k'.1 114 (by omega) (by omega)]; exact (hS.sz hs).1
  have Bk := B_X10_isGuess_0 (d := d + 3) (k := k) (M := M') (Q := Q) (x1 := s) (x2 := v)
  rw [e114] at Bk
  have g01 : guF c K M n s v = if v ≠ M 9 s ∧ agF c K M (fset (M 9) s v) n = 1 then 1 else 0 := rfl
  refine Bk ⟨by omega, fun z => c_X10_look0 hS' (fun M1 q => ?_), fun z => ?_⟩
  · have q' : lotE K (M1 122) (M1 121) (M1 123) (M 9) (M 113) (orF (M 9) K) := by
      have := q.2.1
      rw [e9, e113] at this
      exact this
    refine B_X10_isGuess_16 ⟨by omega, c_X10_orders (K := K) (by rw [up_row (by decide), q.kp.2 7 (by simp), k'.2 7 (by simp)]; exact hL.2.2.2.2.2.1) hK6 (fun M2 p1 p2 => B_X10_isGuess_27 ?_)⟩
    have f2 : ∀ t : Nat, t < K → M2 122 t = fset (M 9) s v t := fun t ht => by
      rw [p1 122 (by simp)]
      by_cases e : (t : Int) = s
      · rw [e, up_s, fset_s]
      · rw [up_fld e, fset_n e]; exact (q'.1 t ht).1
    have hl : lotE K (M2 122) (M2 121) (M2 123) (fset (M 9) s v) (M 113) (orF (fset (M 9) s v) K) := ⟨fun t ht => ⟨f2 t ht, by rw [p1 121 (by simp), up_row (by decide)]; exact (q'.1 t ht).2⟩, fun i hi => by
      have e : M2 123 i = orF (fset (M 9) s v) K i := by
        rw [p2 i hi]
        refine congrFun (orF_congr (fun t ht => ?_)) _
        have := f2 t ht
        rw [p1 122 (by simp)] at this
        exact this
      have := orF_rg (sz := fset (M 9) s v) K i hi
      rw [e]; exact ⟨rfl, this⟩⟩
    have hz : ∀ t : Nat, t < K → 1 ≤ fset (M 9) s v t ∧ fset (M 9) s v t ≤ c := fun t ht => by
      by_cases e : (t : Int) = s
      · rw [e, fset_s]; omega
      · rw [fset_n e]; exact (hS.sz ht).2
    have kM2 : kpM M1 M2 := ⟨fun t a b => by rw [p1 t (by simp; omega), up_row (by omega)], fun i hi => by rw [p1 112 (by simp), up_row (by decide)]⟩
    have k2 : kpM M M2 := (k'.tr q.kp).tr kM2
    have h33 : M2 112 33 = c := by rw [p1 112 (by simp), up_row (by decide)]; exact q.1
    refine c_X10_isNoted hS hn k2 h33 hl hz (fun M3 w => B_X10_isGuess_31 ⟨?_, ?_⟩)
    · rcases agF_01 (c := c) (K := K) (M := M) (sz := fset (M 9) s v) n with e | e <;> omega
    · have k3 : kpM M M3 := k2.tr (kpM.of w (fun n hn => by simp at hn; omega) (fun i hi => by simp at hi ⊢; omega))
      have e53 : M3 112 5 = 0 := by rw [w.2 5 (by simp), p1 112 (by simp), up_row (by decide), q.2.2.2.2 5 (by simp)]; exact e5
      have e136 : M3 136 = M' 136 := by rw [w.1 136 (by simp) (by decide), p1 136 (by simp), up_row (by decide), q.2.2.2.1 136 (by simp) (by decide)]
      have eg : guF c K M n s v = agF c K M (fset (M 9) s v) n := by
        rw [g01]
        rcases agF_01 (c := c) (K := K) (M := M) (sz := fset (M 9) s v) n with e | e
        · rw [if_neg (fun y => by have := y.2; omega), e]
        · rw [if_pos ⟨fun y => z y.symm, e⟩, e]
      have h := hQ M3 k3 e53 e136 (fun _ => ⟨by rw [w.2 33 (by simp)]; exact h33, by rw [w.1 122 (by simp) (by decide), w.1 121 (by simp) (by decide), w.1 123 (by simp) (by decide)]; exact hl⟩)
      rw [eg] at h
      exact h
  · have eg : guF c K M n s v = 0 := by rw [g01, if_neg (fun y => y.1 z.symm)]
    have h := hQ M' k' e5 rfl (fun y => by omega)
    rw [eg] at h
    exact h
theorem mq_other {d k : Nat} {c : Int} {K : Nat} {N : Int} {M : mM} {Q : mRes → mM → Prop} {w : Int} (hS : St c K N M) (hQ : ∀ M' v, kpM M M' → mr (fun _ => 1) (an_other c K M w) M' v → Q (.inl (some (mI v))) M') : V (d + 60) k qX10_other 0 [mR 18 58 112, mI w, mE 0, mE 0, mE 0, mE 0] [] M Q := by
  unfold an_other at hQ
  have hL := hS.1
  have hK6 := hL.2.1
  have hc := hL.1
  have hA := hS.A
  obtain ⟨n, hn⟩ : ∃ n : Nat, M 112 10 = n := ⟨(M 112 10).toNat, by omega⟩
  obtain ⟨cn, hcn⟩ : ∃ m : Nat, c = m := ⟨c.toNat, by omega⟩
  have hS0 := hS.m0 (v := 0)
  have kp0 : kpM M (mUp M 112 5 0) := kpM.rf.fl (by simp)
  have e50 : mUp M 112 5 0 112 5 = 0 := up_s
  refine B_X10_other_0 (c_X10_within (fun x hx => B_X10_other_12 (c_X10_fine e50 (by decide) (fun hz => B_X10_other_16 ⟨fun z => (z rfl).elim, fun _ => hQ _ 0 (kp0.fl (by simp)) ?_⟩) (fun hz => B_X10_other_16 ⟨fun _ => ?_, fun z => by omega⟩))))
  · have hn : ¬ (0 ≤ w ∧ w ≤ 2) := fun z => by rw [if_pos z] at hx; omega
    rw [if_neg hn]; exact up_s
  have hw : 0 ≤ w ∧ w ≤ 2 := by
    by_cases z : 0 ≤ w ∧ w ≤ 2
    · exact z
    · rw [if_neg z] at hx; omega
  rw [if_pos hw, hn, show ((n : Int)).toNat = n by omega] at hQ
  generalize mUp M 112 5 0 = M0 at *
  have f9 : M0 9 = M 9 := kp0.1 9 (by omega) (by omega)
  have f113 : M0 113 = M 113 := kp0.1 113 (by omega) (by omega)
  refine ⟨fun a => ?_, fun a => c_X10_look0 hS0 (fun M1 q => B_X10_other_30 ?_)⟩
  · have f6 : ∀ M' : mM, kpM M M' → M' 112 6 = c := fun M' k' => by rw [k'.2 6 (by simp)]; exact hL.2.2.2.1
    have f7 : ∀ M' : mM, kpM M M' → M' 112 7 = K := fun M' k' => by rw [k'.2 7 (by simp)]; exact hL.2.2.2.2.2.1
    have inner : ∀ (s : Nat) (st : Int × Int), s < K → (0 ≤ st.1 ∧ st.1 ≤ 100 * s) → (∀ M' u5, kpM M M' → M' 112 5 = 0 → V (d + 60) k qX10_other 50 [mR 18 58 112, mI w, mI (gsV c K M n s st cn).1, mI (gsV c K M n s st cn).2, mI ((s : Int) + 1), u5] [] M' Q) → ∀ (r v : Nat) (M' : mM), v + r = cn → kpM M M' → M' 112 5 = 0 → V (d + 60) k qX10_other 62 [mR 18 58 112, mI w, mI (gsV c K M n s st v).1, mI (gsV c K M n s st v).2, mI s, mI ((v : Int) + 1)] [] M' Q := by
      intro s st hs hst nxt r
      induction r with
      | zero =>
        intro v M' hv k' e'
        have e : v = cn := by omega
        subst e
        have Bk := B_X10_other_62 (d := d + 59) (k := k) (M := M') (Q := Q) (x1 := w) (x2 := (gsV c K M n s st v).1) (x3 := (gsV c K M n s st v).2) (x4 := s) (x5 := (v : Int) + 1)
        rw [f6 M' k'] at Bk
        exact Bk ⟨fun _ => ⟨by omega, nxt M' _ k' e'⟩, fun z => by omega⟩
      | succ r ih =>
        intro v M' hv k' e'
        have hbd := gsV_bd (c := c) (K := K) (M := M) (n := n) (s := s) hst v
        have eV : gsV c K M n s st (v + 1) = if ((v + 1 : Nat) : Int) ≠ M 9 s ∧ agF c K M (fset (M 9) s ((v + 1 : Nat) : Int)) n = 1 then ((gsV c K M n s st v).1 + 1, if (gsV c K M n s st v).1 = 0 then 100 * s + ((v + 1 : Nat) : Int) else (gsV c K M n s st v).2) else gsV c K M n s st v := rfl
        have eg : guF c K M n s ((v : Int) + 1) = if ((v + 1 : Nat) : Int) ≠ M 9 s ∧ agF c K M (fset (M 9) s ((v + 1 : Nat) : Int)) n = 1 then 1 else 0 := rfl
        have Bk := B_X10_other_62 (d := d + 59) (k := k) (M := M') (Q := Q) (x1 := w) (x2 := (gsV c K M n s st v).1) (x3 := (gsV c K M n s st v).2) (x4 := s) (x5 := (v : Int) + 1)
        rw [f6 M' k'] at Bk
        refine Bk ⟨fun z => by omega, fun _ => c_X10_isGuess hS hn k' e' hs (by omega) (fun M2 k2 e2 _ _ => ?_)⟩
        have nx := ih (v + 1) M2 (by omega) k2 e2
        by_cases y : ((v + 1 : Nat) : Int) ≠ M 9 s ∧ agF c K M (fset (M 9) s ((v + 1 : Nat) : Int)) n = 1
        · rw [if_pos y] at eV eg
          rw [eg]
          rw [eV] at nx
          refine B_X10_other_79 ⟨fun _ => ⟨fun x => ⟨by omega, by omega, ?_⟩, fun x => ⟨by omega, by omega, by omega, by omega, ?_⟩⟩, fun x => by omega⟩
          · simp only [if_neg x] at nx; exact nx
          · simp only [if_pos x] at nx; exact nx
        · rw [if_neg y] at eV eg
          rw [eg]
          rw [eV] at nx
          exact B_X10_other_79 ⟨fun x => (x rfl).elim, fun _ => ⟨by omega, nx⟩⟩
    have outer : ∀ (r s : Nat) (M' : mM) (u5 : mV), s + r = K → kpM M M' → M' 112 5 = 0 → V (d + 60) k qX10_other 50 [mR 18 58 112, mI w, mI (gsS c K M n s).1, mI (gsS c K M n s).2, mI s, u5] [] M' Q := by
      intro r
      induction r with
      | zero =>
        intro s M' u5 hs k' e'
        have e : s = K := by omega
        subst e
        have Bk := B_X10_other_50 (d := d + 59) (k := k) (M := M') (Q := Q) (x1 := w) (x2 := (gsS c s M n s).1) (x3 := (gsS c s M n s).2) (x4 := s) (u5 := u5)
        rw [f7 M' k'] at Bk
        refine Bk ⟨fun _ => ⟨fun b => hQ M' _ k' ⟨e', by rw [if_neg a, if_neg b]⟩, fun b => hQ M' _ k' ⟨e', by rw [if_neg a, if_pos b]⟩⟩, fun z => by omega⟩
      | succ r ih =>
        intro s M' u5 hs k' e'
        have Bk := B_X10_other_50 (d := d + 59) (k := k) (M := M') (Q := Q) (x1 := w) (x2 := (gsS c K M n s).1) (x3 := (gsS c K M n s).2) (x4 := s) (u5 := u5)
        rw [f7 M' k'] at Bk
        have hb := gsS_bd (K := K) (M := M) (n := n) hc s
        have e : gsS c K M n (s + 1) = gsV c K M n s (gsS c K M n s) cn := by show gsV c K M n s (gsS c K M n s) c.toNat = _; rw [hcn]; rfl
        refine Bk ⟨fun z => by omega, fun _ => inner s (gsS c K M n s) (by omega) hb (fun M'' u5 k'' e'' => ?_) cn 0 M' (by omega) k' e'⟩
        have := ih (s + 1) M'' u5 (by omega) k'' e''
        rw [e] at this
        exact this
    exact outer K 0 M0 _ (by omega) kp0 e50
  · have q' : lotE K (M1 122) (M1 121) (M1 123) (M 9) (M 113) (orF (M 9) K) := by
      have := q.2.1
      rw [f9, f113] at this
      exact this
    refine c_X10_isNoted hS hn (kp0.tr q.kp) q.1 q' (fun s hs => (hS.sz hs).2) (fun M2 g => ?_)
    have k2 : kpM M M2 := (kp0.tr q.kp).tr (kpM.of g (fun n hn => by simp at hn; omega) (fun i hi => by simp at hi ⊢; omega))
    have e2 : M2 112 5 = 0 := by rw [g.2 5 (by simp), q.2.2.2.2 5 (by simp)]; exact e50
    have h := fun v => hQ M2 v k2
    rw [if_pos a] at h
    rcases agF_01 (c := c) (K := K) (M := M) (sz := M 9) n with e | e
    · rw [e] at h ⊢
      exact B_X10_other_34 ⟨fun _ => h 0 ⟨e2, rfl⟩, fun b => (b rfl).elim⟩
    · rw [e] at h ⊢
      exact B_X10_other_34 ⟨fun b => by omega, fun _ => h 1 ⟨e2, rfl⟩⟩
