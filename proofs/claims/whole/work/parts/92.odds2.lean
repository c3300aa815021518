/-! questions: odds -/
theorem fset_self {f : Int → Int} {i : Int} : fset f i (f i) = f := funext fun j => by
  by_cases e : j = i
  · rw [e, fset_s]
  · rw [fset_n e]
theorem fset_fset {f : Int → Int} {i v w : Int} : fset (fset f i v) i w = fset f i w := funext fun j => by
  by_cases e : j = i
  · rw [e, fset_s, fset_s]
  · rw [fset_n e, fset_n e, fset_n e]
def odG (c : Int) (K : Nat) (M : mM) (s : Nat) (e : Nat) : Nat := if fwS c K M s (M 113 s - e) < (fwT c K M).1 then 1 else 0
theorem odG_le {c : Int} {K : Nat} {M : mM} {s e : Nat} : odG c K M s e ≤ 1 := by unfold odG; split <;> omega
theorem odG_0 {c : Int} {K : Nat} {M : mM} {s : Nat} : odG c K M s 0 = 0 := by
  unfold odG
  have e : fset (M 113) s (M 113 s - ((0 : Nat) : Int)) = M 113 := by rw [show M 113 s - ((0 : Nat) : Int) = M 113 s by omega, fset_self]
  have e2 : fwS c K M s (M 113 s - ((0 : Nat) : Int)) = (fwT c K M).1 := by show (fewT _ _ _ (fset _ _ _) _).1 = _; rw [e]
  rw [e2, if_neg (by omega)]
def an_odds (c : Int) (K : Nat) (M : mM) (s t : Int) : An := if 0 ≤ s ∧ s < K then (if 0 ≤ t ∧ t ≤ 10 then .inl ((omS t.toNat (min 5 (M 113 s)).toNat (odG c K M s.toNat) 32 : Nat) : Int) else .inr 2) else .inr 1
theorem xq_odds {d : Nat} {c : Int} {K : Nat} {N : Int} {M : mM} {Q : mRes → mM → Prop} {s t : Int} (hS : St c K N M) (hQ : ∀ M', kpX M M' → Q (xr (an_odds c K M s t)) M') : V (d + 60) 3 qX9_odds 0 [mR 17 15 0, mI s, mI t, mE 0, mE 0, mE 0, mE 0, mE 0, mE 0] [] M Q := by
  unfold an_odds at hQ
  have hL := hS.1
  have hK6 := hL.2.1
  have hG := hS.GL
  refine B_X9_odds_0 ⟨by omega, c_X9_needSort hL.2.2.2.2.1 hK6 (fun hs => ?_) (fun hs => by have := hQ M kpX.rf; rw [if_neg hs] at this; exact this)⟩
  rw [if_pos hs] at hQ
  have no : ¬ (0 ≤ t ∧ t ≤ 10) → Q (.inr 2) M := fun h => by have := hQ M kpX.rf; rw [if_neg h] at this; exact this
  refine B_X9_odds_5 ⟨fun z => ⟨by omega, by omega, no (by omega)⟩, fun z => ⟨fun z2 => ?_, fun z2 => ⟨by omega, by omega, no (by omega)⟩⟩⟩
  rw [if_pos ⟨by omega, z2⟩] at hQ
  obtain ⟨sn, rfl⟩ : ∃ n : Nat, s = n := ⟨s.toNat, by omega⟩
  obtain ⟨tn, rfl⟩ : ∃ n : Nat, t = n := ⟨t.toNat, by omega⟩
  rw [show ((sn : Int)).toNat = sn by omega, show ((tn : Int)).toNat = tn by omega] at hQ
  have hm := hS.mn sn (by omega)
  obtain ⟨top, htop⟩ : ∃ n : Nat, min 5 (M 113 sn) = n := ⟨(min 5 (M 113 sn)).toNat, by omega⟩
  rw [htop, show ((top : Int)).toNat = top by omega] at hQ
  have htop5 : top ≤ 5 := by omega
  have htopm : (top : Int) ≤ M 113 sn := by omega
  have hsum := hG.2.2.2.2.1
  have hg : ∀ e, odG c K M sn e ≤ 1 := fun e => odG_le
  have heq := o_eq (t := tn) (top := top) (g := odG c K M sn) (by omega) htop5 odG_0
  have hle := omS_le (t := tn) (top := top) (g := odG c K M sn) (by omega) hg 32
  refine c_X9_restNow hS (fun M1 q => B_X9_odds_30 (c_X8_fewL hG hS.pk (askX.lk hS q) (fun M2 q1 q2 => ?_)))
  have k2 : kpX M M2 := q.kp.tr (fun n hn => q1 n (by omega))
  have e14 : M2 14 sn = M 113 sn := by rw [q1 14 (by omega)]; exact q.2.2.2.1 sn (by omega)
  have Bk := B_X9_odds_39 (d := d + 59) (k := 2) (M := M2) (Q := Q) (x1 := sn) (x2 := tn) (sx0 := (fwT c K M).1) (u4 := mE 0) (u5 := mE 0) (u6 := mE 0) (u7 := mE 0) (u8 := mE 0)
  rw [e14, htop] at Bk
  refine Bk ⟨by omega, ?_⟩
  have loop : ∀ (r e : Nat) (M' : mM), e + r = top → kpX M M' → lkX c K (M 9) (fset (M 113) sn (M 113 sn - e)) (orF (M 9) K) M' → M' 14 sn = M 113 sn - e → V (d + 60) 2 qX9_odds 62 [mR 17 15 0, mI sn, mI tn, mR 11 5 12, mI (fwT c K M).1, mI top, mI ((oxS tn top (odG c K M sn) e : Nat) : Int), mI ((ocB top e : Nat) : Int), mI ((e : Int) + 1)] [] M' Q := by
    intro r
    induction r with
    | zero =>
      intro e M' he k' l' m'
      have ee : e = top := by omega
      subst ee
      have e5 : (5 : Int) - e = ((5 - e : Nat) : Int) := by omega
      refine B_X9_odds_62 ⟨fun _ => ⟨by omega, ?_⟩, fun z => by omega⟩
      rw [e5]
      refine c_X9_power (a := 10) (n := 5 - e) (Nat.le_refl _) (by omega) (B_X9_odds_151 ?_)
      rw [← Int.natCast_mul, ← heq]
      exact ⟨by omega, hQ M' k'⟩
    | succ r ih =>
      intro e M' he k' l' m'
      have b1 := o_bd ⟨tn, by omega⟩ ⟨top, by omega⟩ ⟨e, by omega⟩
      have b2 := o_bd ⟨tn, by omega⟩ ⟨top, by omega⟩ ⟨e + 1, by omega⟩
      have b3 := o_bd ⟨10 - tn, by omega⟩ ⟨top, by omega⟩ ⟨top - (e + 1), by omega⟩
      simp only [] at b1 b2 b3
      have hx := oxS_le (t := tn) (top := top) (g := odG c K M sn) (by omega) htop5 hg e (by omega)
      have eC : ((ocB top e : Nat) : Int) * ((top : Int) - ((e : Int) + 1) + 1) = ((ocB top e * (top - e) : Nat) : Int) := by
        rw [Int.natCast_mul]; congr 1; omega
      have eD : ((ocB top e * (top - e) : Nat) : Int) / ((e : Int) + 1) = ((ocB top (e + 1) : Nat) : Int) := by
        show _ = ((ocB top e * (top - e) / (e + 1) : Nat) : Int)
        rw [Int.natCast_ediv]; rfl
      have Bk := B_X9_odds_62 (d := d + 59) (k := 2) (M := M') (Q := Q) (x1 := sn) (x2 := tn) (x4 := (fwT c K M).1) (x5 := top) (x6 := ((oxS tn top (odG c K M sn) e : Nat) : Int)) (x7 := ((ocB top e : Nat) : Int)) (x8 := (e : Int) + 1)
      rw [eC, eD, m'] at Bk
      have em : M 113 sn - e - 1 = M 113 sn - ((e + 1 : Nat) : Int) := by omega
      rw [em] at Bk
      refine Bk ⟨fun z => by omega, fun _ => ⟨by omega, by omega, by omega, by omega, by omega, by omega, by omega, ?_⟩⟩
      have l2 : lkX c K (M 9) (fset (M 113) sn (M 113 sn - ((e + 1 : Nat) : Int))) (orF (M 9) K) (mUp M' 14 sn (M 113 sn - ((e + 1 : Nat) : Int))) := by
        have := l'.up (s := sn) (v := M 113 sn - ((e + 1 : Nat) : Int)) (by omega)
        rw [fset_fset] at this
        exact this
      refine c_X8_fewL (hG.fs (by omega) (by omega) (by omega)) (hG.fsP hS.1.1.1 hS.z (by omega) (by omega) (by omega)) l2 (fun M3 p1 p2 => ?_)
      have k3 : kpX M M3 := k'.tr (fun n hn => by rw [p1 n (by omega), up_row (by omega)])
      have m3 : M3 14 sn = M 113 sn - ((e + 1 : Nat) : Int) := by rw [p1 14 (by omega), up_s]
      have l3 : lkX c K (M 9) (fset (M 113) sn (M 113 sn - ((e + 1 : Nat) : Int))) (orF (M 9) K) M3 := by
        unfold lkX at l2 ⊢
        rw [p1 12 (by omega), p1 13 (by omega), p1 14 (by omega), p1 15 (by omega)]; exact l2
      have es : oxS tn top (odG c K M sn) (e + 1) = oxS tn top (odG c K M sn) e + odG c K M sn (e + 1) * oxT tn top (e + 1) := rfl
      have nx := ih (e + 1) M3 (by omega) k3 l3 m3
      refine B_X9_odds_102 ⟨fun z => ⟨by omega, ?_⟩, fun z => ?_⟩
      · have z' : (fwT c K M).1 ≤ fwS c K M sn (M 113 sn - ((e + 1 : Nat) : Int)) := z
        have g0 : odG c K M sn (e + 1) = 0 := by unfold odG; rw [if_neg (by omega)]
        rw [es, g0, Nat.zero_mul, Nat.add_zero] at nx
        exact nx
      · have z' : ¬ (fwT c K M).1 ≤ fwS c K M sn (M 113 sn - ((e + 1 : Nat) : Int)) := z
        have g1 : odG c K M sn (e + 1) = 1 := by unfold odG; rw [if_pos (by omega)]
        rw [es, g1, Nat.one_mul] at nx
        have ee : (e : Int) + 1 = ((e + 1 : Nat) : Int) := by omega
        rw [ee]
        refine c_X9_power (a := tn) (n := e + 1) (by omega) (by omega) ?_
        have u1 : ((ocB top (e + 1) : Nat) : Int) * ((tn ^ (e + 1) : Nat) : Int) = ((ocB top (e + 1) * tn ^ (e + 1) : Nat) : Int) := (Int.natCast_mul _ _).symm
        have Bk := B_X9_odds_117 (d := d + 59) (k := 2) (M := M3) (Q := Q) (x1 := sn) (x2 := tn) (x4 := (fwT c K M).1) (x5 := top) (x6 := ((oxS tn top (odG c K M sn) e : Nat) : Int)) (x7 := ((ocB top (e + 1) : Nat) : Int)) (x8 := ((e + 1 : Nat) : Int)) (sx0 := ((tn ^ (e + 1) : Nat) : Int)) (sx1 := ((ocB top (e + 1) : Nat) : Int)) (sx2 := ((oxS tn top (odG c K M sn) e : Nat) : Int))
        have u2 : (10 : Int) - tn = ((10 - tn : Nat) : Int) := by omega
        have u3 : (top : Int) - ((e + 1 : Nat) : Int) = ((top - (e + 1) : Nat) : Int) := by omega
        rw [u1, u2, u3] at Bk
        refine Bk ⟨by omega, by omega, by omega, c_X9_power (a := 10 - tn) (n := top - (e + 1)) (by omega) (by omega) ?_⟩
        have u4 : ((ocB top (e + 1) * tn ^ (e + 1) : Nat) : Int) * (((10 - tn) ^ (top - (e + 1)) : Nat) : Int) = ((oxT tn top (e + 1) : Nat) : Int) := (Int.natCast_mul _ _).symm
        have Bk := B_X9_odds_130 (d := d + 59) (k := 2) (M := M3) (Q := Q) (x1 := sn) (x2 := tn) (x4 := (fwT c K M).1) (x5 := top) (x6 := ((oxS tn top (odG c K M sn) e : Nat) : Int)) (x7 := ((ocB top (e + 1) : Nat) : Int)) (x8 := ((e + 1 : Nat) : Int)) (sx0 := (((10 - tn) ^ (top - (e + 1)) : Nat) : Int)) (sx1 := ((ocB top (e + 1) * tn ^ (e + 1) : Nat) : Int)) (sx2 := ((oxS tn top (odG c K M sn) e : Nat) : Int))
        rw [u4, ← Int.natCast_add] at Bk
        have b4 := b2.2.2.2.1
        exact Bk ⟨by omega, by omega, by omega, nx⟩
  have l0 : lkX c K (M 9) (fset (M 113) sn (M 113 sn - ((0 : Nat) : Int))) (orF (M 9) K) M2 := by
    rw [show M 113 sn - ((0 : Nat) : Int) = M 113 sn by omega, fset_self]
    have := askX.lk hS q
    unfold lkX at this ⊢
    rw [q1 12 (by omega), q1 13 (by omega), q1 14 (by omega), q1 15 (by omega)]; exact this
  exact loop top 0 M2 (by omega) k2 l0 (by rw [e14]; omega)
theorem mq_odds {d k : Nat} {c : Int} {K : Nat} {N : Int} {M : mM} {Q : mRes → mM → Prop} {s t : Int} (hS : St c K N M) (hQ : ∀ M' v, kpM M M' → mr (fun e => (e : Int)) (an_odds c K M s t) M' v → Q (.inl (some (mI v))) M') : V (d + 60) k qX10_odds 0 [mR 18 58 112, mI s, mI t, mE 0, mE 0, mE 0, mE 0, mE 0, mE 0, mE 0, mE 0] [] M Q := by
  unfold an_odds at hQ
  have hL := hS.1
  have hK6 := hL.2.1
  have hG := hS.GL
  have hS0 := hS.m0 (v := 0)
  have kp0 : kpM M (mUp M 112 5 0) := kpM.rf.fl (by simp)
  have ef : fwT c K (mUp M 112 5 0) = fwT c K M := by show fewT c K _ _ _ = fewT c K _ _ _; rw [up_row (by decide), up_row (by decide)]
  refine B_X10_odds_0 (c_X10_isSort up_s (by rw [up_fld (by decide)]; exact hL.2.2.2.2.2.1) hK6 (fun h => B_X10_odds_10 ⟨fun _ => hQ _ 0 (kp0.fl (by simp)) (by rw [if_neg h]; exact up_s), fun z => (z rfl).elim⟩) (fun hs => B_X10_odds_10 ⟨fun z => by omega, fun _ => c_X10_within (fun x hx => B_X10_odds_21 (c_X10_fine up_s (by decide) (fun hz => B_X10_odds_25 ⟨fun z => (z rfl).elim, fun _ => hQ _ 0 (kp0.fl (by simp)) ?_⟩) (fun hz => B_X10_odds_25 ⟨fun _ => c_X10_few0 hS0 (fun M1 M2 q q1 q2 => ?_), fun z => by omega⟩)))⟩))
  · have hn : ¬ (0 ≤ t ∧ t ≤ 10) := fun z => by rw [if_pos z] at hx; omega
    rw [if_pos hs, if_neg hn]; exact up_s
  have ht : 0 ≤ t ∧ t ≤ 10 := by
    by_cases z : 0 ≤ t ∧ t ≤ 10
    · exact z
    · rw [if_neg z] at hx; omega
  rw [if_pos hs, if_pos ht] at hQ
  rw [ef] at q2 ⊢
  obtain ⟨sn, rfl⟩ : ∃ n : Nat, s = n := ⟨s.toNat, by omega⟩
  obtain ⟨tn, rfl⟩ : ∃ n : Nat, t = n := ⟨t.toNat, by omega⟩
  rw [show ((sn : Int)).toNat = sn by omega, show ((tn : Int)).toNat = tn by omega] at hQ
  have hm := hS.mn sn (by omega)
  obtain ⟨top, htop⟩ : ∃ n : Nat, min 5 (M 113 sn) = n := ⟨(min 5 (M 113 sn)).toNat, by omega⟩
  rw [htop, show ((top : Int)).toNat = top by omega] at hQ
  have htop5 : top ≤ 5 := by omega
  have htopm : (top : Int) ≤ M 113 sn := by omega
  have hsum := hG.2.2.2.2.1
  have hg : ∀ e, odG c K M sn e ≤ 1 := fun e => odG_le
  have k2 : kpM M M2 := (kp0.tr q.kp).tr q1.kp7
  have e5 : M2 112 5 = 0 := by rw [q1.2 5 (by simp), q.2.2.2.2 5 (by simp)]; exact up_s
  have loop : ∀ (r m : Nat) (M' : mM) (u7 u8 u9 u10 : mV), m + r = 32 → kpM M M' → M' 112 5 = 0 → V (d + 60) k qX10_odds 63 [mR 18 58 112, mI sn, mI tn, mI (fwT c K M).1, mI top, mI ((omS tn top (odG c K M sn) m : Nat) : Int), mI m, u7, u8, u9, u10] [] M' Q := by
    intro r
    induction r with
    | zero =>
      intro m M' u7 u8 u9 u10 hm' k' e'
      have e : m = 32 := by omega
      subst e
      exact B_X10_odds_63 ⟨fun _ => hQ M' _ k' ⟨e', rfl⟩, fun z => by omega⟩
    | succ r ih =>
      intro m M' u7 u8 u9 u10 hm' k' e'
      refine B_X10_odds_63 ⟨fun z => by omega, fun _ => ?_⟩
      have inner : ∀ (r i : Nat) (u10 : mV), i + r = 5 → V (d + 60) k qX10_odds 79 [mR 18 58 112, mI sn, mI tn, mI (fwT c K M).1, mI top, mI ((omS tn top (odG c K M sn) m : Nat) : Int), mI m, mI ((owt tn m i : Nat) : Int), mI ((ocn top m i : Nat) : Int), mI i, u10] [] M' Q := by
        intro r
        induction r with
        | zero =>
          intro i u10 hi
          have e : i = 5 := by omega
          subst e
          have hc := ocn_le (top := top) (m := m) 5
          have hw : owt tn m 5 ≤ 10 ^ 5 := owt_le (by omega) 5
          have hb := omS_le (t := tn) (top := top) (g := odG c K M sn) (by omega) hg m
          have hS' := hS.km k'
          have e9 : M' 9 = M 9 := k'.1 9 (by omega) (by omega)
          have e113 : M' 113 = M 113 := k'.1 113 (by omega) (by omega)
          refine B_X10_odds_79 ⟨fun _ => c_X10_look0 hS' (fun M3 p => ?_), fun z => by omega⟩
          have hl := askM.lk hS' p
          rw [e9, e113] at hl
          have e121 : M3 121 sn = M 113 sn := by rw [p.2.2.1 sn (by omega), e113]
          have Bk := B_X10_odds_146 (d := d + 59) (k := k) (M := M3) (Q := Q) (x1 := sn) (x2 := tn) (x3 := (fwT c K M).1) (x4 := top) (x5 := ((omS tn top (odG c K M sn) m : Nat) : Int)) (x6 := m) (x7 := ((owt tn m 5 : Nat) : Int)) (x8 := ((ocn top m 5 : Nat) : Int)) (x9 := ((5 : Nat) : Int)) (u10 := u10)
          rw [e121] at Bk
          refine Bk ⟨by omega, by omega, by omega, ?_⟩
          refine c_X10_fewL (hG.fs (by omega) (by omega) (by omega)) (hG.fsP hS.1.1.1 hS.z (by omega) (by omega) (by omega)) (hl.up (by omega)) (fun M4 p1 p2 => ?_)
          have kp4 : kpM M M4 := (k'.tr p.kp).tr (frM.kp7 p1 |> fun h => ⟨fun n a b => by rw [h.1 n a b, up_row (by omega)], fun i hi => by rw [h.2 i hi, up_row (by decide)]⟩)
          have e5' : M4 112 5 = 0 := by rw [p1.2 5 (by simp), up_row (by decide), p.2.2.2.2 5 (by simp)]; exact e'
          have es : omS tn top (odG c K M sn) (m + 1) = omS tn top (odG c K M sn) m + odG c K M sn (ocn top m 5) * owt tn m 5 := rfl
          have nx := fun u7 u8 u9 u10 => ih (m + 1) M4 u7 u8 u9 u10 (by omega) kp4 e5'
          refine B_X10_odds_161 ⟨fun z => ⟨by omega, ?_⟩, fun z => ⟨by omega, by omega, ?_⟩⟩
          · have z' : (fwT c K M).1 ≤ fwS c K M sn (M 113 sn - ((ocn top m 5 : Nat) : Int)) := z
            have g0 : odG c K M sn (ocn top m 5) = 0 := by unfold odG; rw [if_neg (by omega)]
            rw [es, g0, Nat.zero_mul, Nat.add_zero] at nx
            exact nx _ _ _ _
          · have z' : ¬ (fwT c K M).1 ≤ fwS c K M sn (M 113 sn - ((ocn top m 5 : Nat) : Int)) := z
            have g1 : odG c K M sn (ocn top m 5) = 1 := by unfold odG; rw [if_pos (by omega)]
            rw [es, g1, Nat.one_mul, Int.natCast_add] at nx
            exact nx _ _ _ _
        | succ r ih2 =>
          intro i u10 hi
          have hc := ocn_le (top := top) (m := m) i
          have hw : owt tn m (i + 1) ≤ 10 ^ (i + 1) := owt_le (by omega) (i + 1)
          have hp : 10 ^ (i + 1) ≤ 10 ^ 5 := Nat.pow_le_pow_right (by omega) (by omega)
          have ew : owt tn m (i + 1) = owt tn m i * (if m / 2 ^ i % 2 = 1 then tn else 10 - tn) := rfl
          have ec : ocn top m (i + 1) = ocn top m i + (if m / 2 ^ i % 2 = 1 ∧ i < top then 1 else 0) := rfl
          have bv := bit_v ⟨m, by omega⟩ ⟨i, by omega⟩
          simp only [] at bv
          have nx := fun u10 => ih2 (i + 1) u10 (by omega)
          have ei : (i : Int) + 1 = ((i + 1 : Nat) : Int) := rfl
          refine B_X10_odds_79 ⟨fun z => by omega, fun _ => ⟨fun z => ?_, fun z => ?_⟩⟩
          · rw [bv] at z
            have zb : ¬ m / 2 ^ i % 2 = 1 := fun y => z (by rw [y]; rfl)
            rw [if_neg zb] at ew
            rw [if_neg (fun y => zb y.1), Nat.add_zero] at ec
            refine B_X10_odds_101 ⟨fun _ => ⟨by omega, ?_⟩, fun y => (y rfl).elim⟩
            have u2 : (10 : Int) - tn = ((10 - tn : Nat) : Int) := by omega
            have Bk := B_X10_odds_118 (d := d + 59) (k := k) (M := M') (Q := Q) (x1 := sn) (x2 := tn) (x3 := (fwT c K M).1) (x4 := top) (x5 := ((omS tn top (odG c K M sn) m : Nat) : Int)) (x6 := m) (x7 := ((owt tn m i : Nat) : Int)) (x8 := ((ocn top m i : Nat) : Int)) (x9 := i) (x10 := 0) (sx0 := (10 : Int) - tn) (sx1 := ((owt tn m i : Nat) : Int))
            rw [u2, ← Int.natCast_mul, ← ew] at Bk
            rw [u2]
            rw [ec] at nx
            exact Bk ⟨by omega, fun _ => ⟨by omega, nx _⟩, fun y => (y rfl).elim⟩
          · rw [bv] at z
            have zb : m / 2 ^ i % 2 = 1 := by omega
            rw [if_pos zb] at ew
            refine B_X10_odds_101 ⟨fun y => by omega, fun _ => ?_⟩
            have Bk := B_X10_odds_118 (d := d + 59) (k := k) (M := M') (Q := Q) (x1 := sn) (x2 := tn) (x3 := (fwT c K M).1) (x4 := top) (x5 := ((omS tn top (odG c K M sn) m : Nat) : Int)) (x6 := m) (x7 := ((owt tn m i : Nat) : Int)) (x8 := ((ocn top m i : Nat) : Int)) (x9 := i) (x10 := 1) (sx0 := tn) (sx1 := ((owt tn m i : Nat) : Int))
            rw [← Int.natCast_mul, ← ew] at Bk
            refine Bk ⟨by omega, fun y => by omega, fun _ => ⟨fun y => ⟨by omega, ?_⟩, fun y => ⟨by omega, by omega, ?_⟩⟩⟩
            · rw [if_neg (by omega), Nat.add_zero] at ec
              rw [ec] at nx
              exact nx _
            · rw [if_pos ⟨zb, by omega⟩] at ec
              rw [ec] at nx
              exact nx _
      exact inner 5 0 _ (by omega)
  have f113 : M2 113 = M 113 := k2.1 113 (by omega) (by omega)
  have Bk := B_X10_odds_34 (d := d + 59) (k := k) (M := M2) (Q := Q) (x1 := sn) (x2 := tn) (sx0 := (fwT c K M).1) (u3 := mE 0) (u4 := mE 0) (u5 := mE 0) (u6 := mE 0) (u7 := mE 0) (u8 := mE 0) (u9 := mE 0) (u10 := mE 0)
  rw [f113] at Bk
  refine Bk ⟨by omega, fun z => ?_, fun z => ⟨by omega, ?_⟩⟩
  · have := loop 32 0 M2 (mE 0) (mE 0) (mE 0) (mE 0) (by omega) k2 e5
    rw [show (top : Int) = 5 by omega] at this
    exact this
  · have := loop 32 0 M2 (mE 0) (mE 0) (mE 0) (mE 0) (by omega) k2 e5
    rw [show (top : Int) = M 113 sn by omega] at this
    exact this
