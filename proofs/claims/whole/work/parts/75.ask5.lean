/-! questions: net, high, topUp -/
theorem lotE.ly {K : Nat} {sz mn od sz' mn' od' : Int → Int} (h : lotE K sz mn od sz' mn' od') : ∀ r i : Nat, i + r ≤ K → lyL od mn r i = lyL od' mn' r i
  | 0, _, _ => rfl
  | r + 1, i, hr => by
    have h1 := h.o (i := i) (by omega)
    show (if 0 < mn (od i) then od i :: lyL od mn r (i + 1) else lyL od mn r (i + 1)) = (if 0 < mn' (od' i) then od' i :: lyL od' mn' r (i + 1) else lyL od' mn' r (i + 1))
    rw [h1.2.2, h1.1, lotE.ly h r (i + 1) (by omega)]
theorem lotE.nz {K : Nat} {sz mn od sz' mn' od' : Int → Int} (h : lotE K sz mn od sz' mn' od') : nzL sz mn (lyL od mn K 0) = nzL sz' mn' (lyL od' mn' K 0) := by
  rw [← h.ly K 0 (by omega)]
  unfold nzL
  refine List.map_congr_left (fun s hs => ?_)
  obtain ⟨j, _, h2, h3, _⟩ := lyL_mem hs
  have h4 := h.2 j (by omega)
  rw [← h3] at h4
  obtain ⟨n, hn⟩ : ∃ n : Nat, s = n := ⟨s.toNat, by omega⟩
  have h5 := h.1 n (by omega)
  rw [hn, h5.1, h5.2]
abbrev lsT (K : Nat) (M : mM) : List Int := lyL (orF (M 9) K) (M 113) K 0
abbrev nzT (K : Nat) (M : mM) : zL := nzL (M 9) (M 113) (lsT K M)
theorem St.cnE {c : Int} {K : Nat} {N : Int} {M : mM} (h : St c K N M) : ((pats (zlT K M) c).length : Int) = cn (nzT K M) c ∧ cn (nzT K M) c < 100000 := by
  have hG := h.GL
  have e := (ly_cn (sz := M 9) (mn := M 113) (od := orF (M 9) K) (r := K) (i := 0) (f := c) (fun j _ h2 => ⟨hG.m (by omega), (hG.z (by omega)).1⟩) (by have := h.1.1; omega)).1
  have e2 : cn (lst (zmF (fun j => (M 9) (orF (M 9) K j)) (fun j => (M 113) (orF (M 9) K j))) K 0) c = ((pats (zlT K M) c).length : Int) := rfl
  have hp : (pats (zlT K M) c).length < 100000 := hG.plen
  have h9 : cn (nzT K M) c = ((pats (zlT K M) c).length : Int) := e.trans e2
  exact ⟨h9.symm, by rw [h9]; omega⟩
theorem c_X10_net0 {d k : Nat} {c : Int} {K : Nat} {N : Int} {M : mM} {Q : mRes → mM → Prop} (hS : St c K N M) (hQ : ∀ M1 M2, askM c K M M1 → frM [131, 132, 133] [53] M1 M2 → netM c (lsT K M) (nzT K M) M2 → Q (.inl none) M2) : V (d + 2) k qX10_laysNet 0 [mR 18 58 112, mE 0, mE 0, mE 0, mE 0, mE 0] [] M Q := by
  refine B_X10_laysNet_0 (c_X10_look0 hS (fun M1 q => ?_))
  have e7 : M1 112 7 = K := by rw [q.2.2.2.2 7 (by simp)]; exact hS.1.2.2.2.2.2.1
  refine l_X10_laysNet q.1 e7 rfl rfl rfl (q.2.1.GL hS.GL) hS.1.1.1 (fun M2 q1 q2 => ?_)
  rw [q.2.1.nz, q.2.1.ly K 0 (by omega)] at q2
  exact hQ M1 M2 q q1 q2
def an_net (c : Int) (K : Nat) (M : mM) (w : Int) : An := if 0 ≤ w ∧ w ≤ 5 then .inl (if w = 0 then lyS 0 c (nzT K M) (fun _ _ => 1) ((lsT K M).length + 1) else if w = 1 then lyS 0 c (nzT K M) (arL c (nzT K M)) (lsT K M).length else if w = 3 then lyS 1 c (nzT K M) (fun _ _ => 1) ((lsT K M).length + 1) else if w = 4 then lyS 1 c (nzT K M) (arL c (nzT K M)) (lsT K M).length else cn (nzT K M) c) else .inr 1
theorem xq_net {d : Nat} {c : Int} {K : Nat} {N : Int} {M : mM} {Q : mRes → mM → Prop} {w : Int} (hS : St c K N M) (hQ : ∀ M', kpX M M' → Q (xr (an_net c K M w)) M') : V (d + 60) 3 qX9_net 0 [mR 17 15 0, mI w, mE 0, mE 0] [] M Q := by
  unfold an_net at hQ
  have hK6 := hS.1.2.1
  have hc := hS.1.1
  have no : ¬ (0 ≤ w ∧ w ≤ 5) → Q (.inr 1) M := fun h => by have := hQ M kpX.rf; rw [if_neg h] at this; exact this
  refine B_X9_net_0 ⟨fun _ => ⟨by omega, by omega, no (by omega)⟩, fun _ => ⟨fun _ => c_X9_restNow hS (fun M1 q => B_X9_net_24 (c_X3_waysThrough q.1 q.2.1 rfl rfl rfl (q.2.2.1.GL hS.GL) hc.1 (fun M2 q1 q2 => ?_))), fun _ => ⟨by omega, by omega, no (by omega)⟩⟩⟩
  have kp : kpX M M2 := q.kp.tr (fun n hn => q1 n (by omega))
  have hQ' := hQ M2 kp
  rw [if_pos (by omega)] at hQ'
  have hG := q.2.2.1.GL hS.GL
  have a12 := q1 12 (by omega)
  have a13 := q1 13 (by omega)
  have a14 := q1 14 (by omega)
  have hL := lyL_len (od := M1 15) (mn := M1 14) (r := K) (i := 0)
  have hz := nz_ok hG hc.1
  have hnl := nz_len (sz := M1 13) (mn := M1 14) (L := lyL (M1 15) (M1 14) K 0)
  have el := q.2.2.1.ly K 0 (by omega)
  have en := q.2.2.1.nz
  have ep : ((pats (zl K (M1 13) (M1 14) (M1 15)) c).length : Int) = cn (nzT K M) c := by rw [q.2.2.1.zE]; exact hS.cnE.1
  rw [ep]
  refine B_X9_net_33 ⟨fun e => c_X3_countPoints (by rw [a12]; exact q.1) q2 hnl hz (by omega) (by omega) (B_X9_net_77 ?_), fun e => c_X3_countArcs (by rw [a12]; exact q.1) a13 a14 hG hc.1 q2 (B_X9_net_87 ?_), fun e => ?_, fun e => c_X3_countPoints (by rw [a12]; exact q.1) q2 hnl hz (by omega) (by omega) (B_X9_net_97 ?_), fun e => c_X3_countArcs (by rw [a12]; exact q.1) a13 a14 hG hc.1 q2 (B_X9_net_107 ?_), fun e => ?_⟩
  · subst e; rw [en, el]; exact hQ'
  · subst e; rw [en, el]; exact hQ'
  · subst e; exact hQ'
  · subst e; rw [en, el]; exact hQ'
  · subst e; rw [en, el]; exact hQ'
  · have e5 : w = 5 := by omega
    subst e5; exact hQ'
theorem mq_net {d k : Nat} {c : Int} {K : Nat} {N : Int} {M : mM} {Q : mRes → mM → Prop} {w : Int} (hS : St c K N M) (hQ : ∀ M' v, kpM M M' → mr (fun _ => 1) (an_net c K M w) M' v → Q (.inl (some (mI v))) M') : V (d + 60) k qX10_net 0 [mR 18 58 112, mI w] [] M Q := by
  unfold an_net at hQ
  have hK6 := hS.1.2.1
  have hc := hS.1.1
  have hS0 := hS.m0 (v := 0)
  have kp0 : kpM M (mUp M 112 5 0) := kpM.rf.fl (by simp)
  refine B_X10_net_0 (c_X10_within (fun x hx => B_X10_net_12 (c_X10_fine up_s (by decide) (fun hz => B_X10_net_16 ⟨fun z => (z rfl).elim, fun _ => hQ _ 0 (kp0.fl (by simp)) ?_⟩) (fun hz => B_X10_net_16 ⟨fun _ => c_X10_net0 hS0 (fun M1 M2 q q1 q2 => ?_), fun z => by omega⟩))))
  · have hn : ¬ (0 ≤ w ∧ w ≤ 5) := fun z => by rw [if_pos z] at hx; omega
    rw [if_neg hn]; exact up_s
  · have hn : 0 ≤ w ∧ w ≤ 5 := by
      by_cases z : 0 ≤ w ∧ w ≤ 5
      · exact z
      · rw [if_neg z] at hx; omega
    rw [if_pos hn] at hQ
    have q2' : netM c (lsT K M) (nzT K M) M2 := by
      have e1 : lsT K (mUp M 112 5 0) = lsT K M := by show lyL _ _ _ _ = lyL _ _ _ _; rw [m0e.1, m0e.2]
      have e2 : nzT K (mUp M 112 5 0) = nzT K M := by show nzL _ _ _ = nzL _ _ _; rw [m0e.1, m0e.2, e1]
      rw [e1, e2] at q2; exact q2
    have eL := q.2.1
    rw [m0e.1, m0e.2] at eL
    have hG := eL.GL hS.GL
    have el := eL.ly K 0 (by omega)
    have en := eL.nz
    have e33 : M2 112 33 = c := by rw [q1.2 33 (by simp)]; exact q.1
    have e5 : M2 112 5 = 0 := by rw [q1.2 5 (by simp), q.2.2.2.2 5 (by simp)]; exact up_s
    have a1 := q1.1 121 (by simp) (by decide)
    have a2 := q1.1 122 (by simp) (by decide)
    have kp : kpM M M2 := (kp0.tr q.kp).tr (kpM.of q1 (fun n hn => by simp at hn; omega) (fun i hi => by simp at hi ⊢; omega))
    have hL : (lsT K M).length ≤ K := lyL_len
    have hz : zOK (nzT K M) := nz_ok hS.GL hc.1
    have hnl : (nzT K M).length = (lsT K M).length := nz_len
    have q2'' : netM c (lyL (M1 123) (M1 121) K 0) (nzL (M1 122) (M1 121) (lyL (M1 123) (M1 121) K 0)) M2 := by rw [en, el]; exact q2'
    have pts : ∀ sq : Int, Q (.inl (some (mI (lyS sq c (nzT K M) (fun _ _ => 1) ((lsT K M).length + 1))))) M2 → V (d + 60) k qX10_net 71 [mR 18 58 112, mI w] [mI sq, mR 18 58 112] M2 Q := fun sq h => B_X10_net_71 (c_X10_points e33 q2' hz (by omega) (by omega) (B_X10_net_74 h))
    have arc : ∀ sq : Int, Q (.inl (some (mI (lyS sq c (nzT K M) (arL c (nzT K M)) (lsT K M).length)))) M2 → V (d + 60) k qX10_net 86 [mR 18 58 112, mI w] [mI sq, mR 18 58 112] M2 Q := fun sq h => by
      refine B_X10_net_86 (c_X10_arcs e33 a2 a1 hG hc.1 q2'' (B_X10_net_89 ?_))
      rw [en, el]; exact h
    refine B_X10_net_25 ⟨fun e => ⟨fun _ => pts 0 (hQ M2 _ kp ⟨e5, ?_⟩), fun z => by omega⟩, fun e => ⟨fun _ => arc 0 (hQ M2 _ kp ⟨e5, ?_⟩), fun z => by omega⟩, fun e => c_X10_paths e33 q2' hz hnl (by omega) (by omega) hS.cnE.2 (B_X10_net_94 (hQ M2 _ kp ⟨e5, ?_⟩)), fun e => ⟨fun z => (z e).elim, fun _ => pts 1 (hQ M2 _ kp ⟨e5, ?_⟩)⟩, fun e => ⟨fun z => (z e).elim, fun _ => arc 1 (hQ M2 _ kp ⟨e5, ?_⟩)⟩, fun e => c_X10_squeezedPaths e33 a2 a1 hG hc.1 q2'' (fun M3 p1 => B_X10_net_99 (hQ M3 _ (kp.tr ⟨fun n a b => p1 n (by simp; omega), fun i _ => by rw [p1 112 (by simp)]⟩) ⟨by rw [p1 112 (by simp)]; exact e5, ?_⟩))⟩
    · subst e; rfl
    · subst e; rfl
    · subst e; rfl
    · subst e; rfl
    · subst e; rfl
    · have e5' : w = 5 := by omega
      subst e5'; rw [en]; rfl
def an_high (c : Int) (K : Nat) (M : mM) (l p : Int) : An := if 0 ≤ l ∧ l ≤ (lsT K M).length ∧ 0 ≤ p ∧ p ≤ c ∧ 0 < wyF c (nzT K M) l.toNat p then .inl (hiF c (nzT K M) l.toNat p) else .inr 1
theorem xq_high {d : Nat} {c : Int} {K : Nat} {N : Int} {M : mM} {Q : mRes → mM → Prop} {l p : Int} (hS : St c K N M) (hQ : ∀ M', kpX M M' → Q (xr (an_high c K M l p)) M') : V (d + 60) 3 qX9_high 0 [mR 17 15 0, mI l, mI p, mE 0] [] M Q := by
  unfold an_high at hQ
  have hK6 := hS.1.2.1
  have hc := hS.1.1
  refine B_X9_high_0 (c_X9_restNow hS (fun M1 q => B_X9_high_4 (c_X3_waysThrough q.1 q.2.1 rfl rfl rfl (q.2.2.1.GL hS.GL) hc.1 (fun M2 q1 q2 => ?_))))
  have kp : kpX M M2 := q.kp.tr (fun n hn => q1 n (by omega))
  have hQ' := hQ M2 kp
  have hL : (lsT K M).length ≤ K := lyL_len
  have hz : zOK (nzT K M) := nz_ok hS.GL hc.1
  have hnl : (nzT K M).length = (lsT K M).length := nz_len
  rw [q.2.2.1.nz, q.2.2.1.ly K 0 (by omega)] at q2
  replace q2 : netC c (lsT K M) (nzT K M) M2 := q2
  have e12 : M2 12 0 = c := by rw [q1 12 (by omega)]; exact q.1
  have Bk := fun sx0 => B_X9_high_13 (d := d + 59) (k := 3) (M := M2) (Q := Q) (x1 := l) (x2 := p) (sx0 := sx0)
  rw [e12] at Bk
  refine Bk _ (c_X3_isPoint q2 (by omega) (by omega) (fun h => ?_) (fun h => B_X9_high_27 ⟨fun z => (z rfl).elim, fun _ => ⟨by omega, by omega, by rw [if_neg h] at hQ'; exact hQ'⟩⟩))
  rw [if_pos h] at hQ'
  obtain ⟨ln, hln⟩ : ∃ n : Nat, l = n := ⟨l.toNat, by omega⟩
  obtain ⟨pn, hpn⟩ : ∃ n : Nat, p = n := ⟨p.toNat, by omega⟩
  subst hln; subst hpn
  have Bk := B_X9_high_27 (d := d + 59) (k := 3) (M := M2) (Q := Q) (x1 := ln) (x2 := pn) (sx0 := 1)
  rw [e12] at Bk
  refine Bk ⟨fun _ => c_X3_highOf q2 hnl hz (by omega) (by omega) (by omega) (by omega) (B_X9_high_54 ?_), fun z => by omega⟩
  exact hQ'
theorem mq_high {d k : Nat} {c : Int} {K : Nat} {N : Int} {M : mM} {Q : mRes → mM → Prop} {l p : Int} (hS : St c K N M) (hQ : ∀ M' v, kpM M M' → mr (fun _ => 1) (an_high c K M l p) M' v → Q (.inl (some (mI v))) M') : V (d + 60) k qX10_high 0 [mR 18 58 112, mI l, mI p] [] M Q := by
  unfold an_high at hQ
  have hK6 := hS.1.2.1
  have hc := hS.1.1
  have hS0 := hS.m0 (v := 0)
  have kp0 : kpM M (mUp M 112 5 0) := kpM.rf.fl (by simp)
  refine B_X10_high_0 (c_X10_net0 hS0 (fun M1 M2 q q1 q2 => ?_))
  have q2' : netM c (lsT K M) (nzT K M) M2 := by
    have e1 : lsT K (mUp M 112 5 0) = lsT K M := by show lyL _ _ _ _ = lyL _ _ _ _; rw [m0e.1, m0e.2]
    have e2 : nzT K (mUp M 112 5 0) = nzT K M := by show nzL _ _ _ = nzL _ _ _; rw [m0e.1, m0e.2, e1]
    rw [e1, e2] at q2; exact q2
  have e33 : M2 112 33 = c := by rw [q1.2 33 (by simp)]; exact q.1
  have e5 : M2 112 5 = 0 := by rw [q1.2 5 (by simp), q.2.2.2.2 5 (by simp)]; exact up_s
  have kp : kpM M M2 := (kp0.tr q.kp).tr (kpM.of q1 (fun n hn => by simp at hn; omega) (fun i hi => by simp at hi ⊢; omega))
  have hL : (lsT K M).length ≤ K := lyL_len
  have bad : ¬ (0 ≤ l ∧ l ≤ (lsT K M).length ∧ 0 ≤ p ∧ p ≤ c ∧ 0 < wyF c (nzT K M) l.toNat p) → V (d + 60) k qX10_high 47 [mR 18 58 112, mI l, mI p] [mR 18 58 112] M2 Q := fun hn => B_X10_high_47 (B_X10_high_48 (c_X10_fine e5 (by decide) (fun _ => B_X10_high_52 ⟨fun _ => hQ _ 0 (kp.fl (by simp)) (by rw [if_neg hn]; exact up_s), fun z => (z rfl).elim⟩) (fun z => (z rfl).elim)))
  have Bk := B_X10_high_9 (d := d + 59) (k := k) (M := M2) (Q := Q) (x1 := l) (x2 := p)
  rw [q2'.1] at Bk
  refine Bk (c_X10_within (fun x hx => ?_))
  by_cases h1 : 0 ≤ l ∧ l ≤ ((lsT K M).length : Int)
  · rw [if_pos h1] at hx
    subst hx
    have Bk := B_X10_high_19 (d := d + 59) (k := k) (M := M2) (Q := Q) (x1 := l) (x2 := p) (sx0 := 1)
    rw [e33] at Bk
    refine Bk ⟨fun z => by omega, fun _ => c_X10_within (fun x hx => ?_)⟩
    by_cases h2 : 0 ≤ p ∧ p ≤ c
    · rw [if_pos h2] at hx
      subst hx
      obtain ⟨ln, hln⟩ : ∃ n : Nat, l = n := ⟨l.toNat, by omega⟩
      obtain ⟨pn, hpn⟩ : ∃ n : Nat, p = n := ⟨p.toNat, by omega⟩
      subst hln; subst hpn
      refine B_X10_high_31 ⟨fun z => by omega, fun _ => c_X10_isPoint q2' (by omega) (by omega) (by omega) (fun h3 => B_X10_high_40 ⟨fun z => by omega, fun _ => B_X10_high_48 (c_X10_fine e5 (by decide) (fun z => by omega) (fun _ => B_X10_high_52 ⟨fun z => by omega, fun _ => ⟨by omega, by omega, by omega, hQ M2 _ kp ?_⟩⟩))⟩) (fun h3 => B_X10_high_40 ⟨fun _ => bad (fun z => h3 z.2.2.2.2), fun z => (z rfl).elim⟩)⟩
      rw [if_pos ⟨h1.1, h1.2, h2.1, h2.2, h3⟩]
      exact ⟨e5, q2'.2.2.2 ln pn (by omega) (by omega)⟩
    · rw [if_neg h2] at hx
      subst hx
      exact B_X10_high_31 ⟨fun _ => bad (fun z => h2 ⟨z.2.2.1, z.2.2.2.1⟩), fun z => (z rfl).elim⟩
  · rw [if_neg h1] at hx
    subst hx
    exact B_X10_high_19 ⟨fun _ => bad (fun z => h1 ⟨z.1, z.2.1⟩), fun z => (z rfl).elim⟩
/-! topUp -/
def an_top (c : Int) (K : Nat) (M : mM) (b s : Int) : An := if (0 ≤ b ∧ b < M 113 6) ∧ (s = -1 ∨ (0 ≤ s ∧ s < K)) then .inl (if s = -1 then rc (zlT K M) (c - wtB K M b) else rwF (orF (M 9) K) (tu (zlT K M) (c - wtB K M b)) K s) else .inr 1
theorem c_X9_freeIn {d k : Nat} {c : Int} {K : Nat} {N : Int} {M : mM} {Q : mRes → mM → Prop} {b : Int} (hS : St c K N M) (hb : 0 ≤ b ∧ b < M 113 6) (hQ : Q (.inl (some (mI (c - wtB K M b)))) M) : V (d + 3) k qX9_freeIn 0 [mR 17 15 0, mI b] [] M Q := by
  have h13 := hS.b13
  have hw := hS.bin (b := b) (by omega)
  have hc := hS.1.1
  refine B_X9_freeIn_0 (c_X7_isBin (Or.inl rfl) (by show 0 ≤ M 17 13 ∧ M 17 13 ≤ 12; omega) (fun r hr => ?_))
  rw [if_pos (by show 0 ≤ b ∧ b < M 17 13; omega)] at hr
  subst hr
  refine B_X9_freeIn_8 ⟨fun z => by omega, fun _ => ⟨by omega, c_X9_wt hS (by omega) ?_⟩⟩
  have Bk := B_X9_freeIn_34 (d := d + 2) (k := k) (M := M) (Q := Q) (x1 := b) (sx0 := wtB K M b) (sx1 := M 8 0)
  rw [hS.1.2.2.1] at Bk ⊢
  exact Bk ⟨by omega, hQ⟩
theorem GLok.ch {c c' : Int} {K : Nat} {sz mn od : Int → Int} (h : GLok c K sz mn od) (hc : 0 ≤ c' ∧ c' ≤ 99) : GLok c' K sz mn od := ⟨hc, h.2⟩
theorem xq_top {d : Nat} {c : Int} {K : Nat} {N : Int} {M : mM} {Q : mRes → mM → Prop} {b s : Int} (hS : St c K N M) (hQ : ∀ M', kpX M M' → Q (xr (an_top c K M b s)) M') : V (d + 60) 3 qX9_topUp 0 [mR 17 15 0, mI b, mI s, mE 0] [] M Q := by
  unfold an_top at hQ
  have hL := hS.1
  have hK6 := hL.2.1
  have h13 := hS.b13
  have hc := hL.1
  refine B_X9_topUp_0 ⟨by omega, c_X9_needBin (by omega) (fun h => B_X9_topUp_5 ⟨by omega, c_X9_needSortOrNone hL.2.2.2.2.1 hK6 (fun h2 => B_X9_topUp_10 (c_X9_restNow hS (fun M1 q => B_X9_topUp_14 ?_))) (fun h2 => by have := hQ M kpX.rf; rw [if_neg (fun z => h2 z.2)] at this; exact this)⟩) (fun h => by have := hQ M kpX.rf; rw [if_neg (by omega)] at this; exact this)⟩
  have hb : 0 ≤ b ∧ b < M 113 6 := by omega
  rw [if_pos ⟨hb, h2⟩] at hQ
  have hw := hS.bin (b := b) (by omega)
  have hS1 := hS.kx q.kp
  have e9 : M1 9 = M 9 := q.2.2.2.2 9 (by omega)
  have e113 : M1 113 = M 113 := q.2.2.2.2 113 (by omega)
  have ew : wtB K M1 b = wtB K M b := by unfold wtB; rw [e9, e113]
  refine c_X9_freeIn hS1 (by rw [e113]; exact hb) (B_X9_topUp_25 ?_)
  rw [ew]
  have hG := q.2.2.1.GL hS.GL
  refine c_X3_fillGreatest q.2.1 rfl rfl rfl hG hc.1 (by omega) (fun M2 q1 q2 => ?_)
  have ez : zl K (M1 13) (M1 14) (M1 15) = zlT K M := q.2.2.1.zE
  rw [ez] at q2
  have hQ' := hQ M2 (q.kp.tr (fun n hn => q1 n (by omega) (by omega)))
  have hzk : zOK (zlT K M) := hS.GL.zOK (r := K) (i := 0) (by omega)
  have hP := tu_isP (l := zlT K M) (f := c - wtB K M b) hzk (by omega)
  have hGf : GLok (c - wtB K M b) K (M1 13) (M1 14) (M1 15) := hG.ch (by omega)
  refine B_X9_topUp_32 ⟨fun e1 => ⟨by omega, ?_⟩, fun e1 => ?_⟩
  · have h' : Q (xr (.inl (if s = -1 then rc (zlT K M) (c - wtB K M b) else rwF (orF (M 9) K) (tu (zlT K M) (c - wtB K M b)) K s))) M2 := hQ'
    rw [if_neg e1] at h'
    obtain ⟨n, hn⟩ : ∃ n : Nat, s = n := ⟨s.toNat, by omega⟩
    rw [hn] at h' ⊢
    rw [ptR_rw hG q2 n (by omega), q.2.2.1.rw]; exact h'
  · have h' : Q (xr (.inl (if s = -1 then rc (zlT K M) (c - wtB K M b) else rwF (orF (M 9) K) (tu (zlT K M) (c - wtB K M b)) K s))) M2 := hQ'
    rw [if_pos e1] at h'
    have hpw := ptR_pw hG q2
    rw [ez, (tu_spec hzk (by omega)).2] at hpw
    have hbd := ptR_bd hGf q2 (by rw [ez]; exact hP)
    have a13 : M2 13 = M1 13 := q1 13 (by omega) (by omega)
    refine c_X2_weightOf (Or.inr (Or.inr rfl)) (by rw [q1 12 (by omega) (by omega)]; exact q.2.1) hK6 (fun j hj => ?_) (fun r hr => B_X9_topUp_45 ?_)
    · have := hbd j hj
      show 0 ≤ M2 13 j * M2 110 j ∧ M2 13 j * M2 110 j ≤ 10000
      rw [a13, Int.mul_comm]; omega
    · have e3 : sg (fun j => M2 (12 + 1) j * M2 110 j) K = rc (zlT K M) (c - wtB K M b) := by
        rw [hpw]
        exact sg_congr (fun j _ => by show M2 13 j * M2 110 j = M2 110 j * M1 13 j; rw [a13, Int.mul_comm])
      rw [hr, e3]; exact h'
theorem mq_top {d k : Nat} {c : Int} {K : Nat} {N : Int} {M : mM} {Q : mRes → mM → Prop} {b s : Int} (hS : St c K N M) (hQ : ∀ M' v, kpM M M' → mr (fun _ => 1) (an_top c K M b s) M' v → Q (.inl (some (mI v))) M') : V (d + 60) k qX10_topUp 0 [mR 18 58 112, mI b, mI s, mE 0, mE 0, mE 0, mE 0, mE 0] [] M Q := by
  unfold an_top at hQ
  have hL := hS.1
  have hK6 := hL.2.1
  have h13 := hS.b13
  have hc := hL.1
  have hS0 := hS.m0 (v := 0)
  have kp0 : kpM M (mUp M 112 5 0) := kpM.rf.fl (by simp)
  have r0 : ∀ n, n ≠ 112 → mUp M 112 5 0 n = M n := fun n hn => up_row hn
  have go : (0 ≤ b ∧ b < M 113 6) → (s = -1 ∨ (0 ≤ s ∧ s < K)) → V (d + 60) k qX10_topUp 28 [mR 18 58 112, mI b, mI s, mE 0, mE 0, mE 0, mE 0, mE 0] [] (mUp M 112 5 0) Q := fun h h2 => by
    rw [if_pos ⟨h, h2⟩] at hQ
    have hw := hS.bin (b := b) (by omega)
    refine B_X10_topUp_28 (c_X10_look0 hS0 (fun M1 q => B_X10_topUp_32 ?_))
    have hS1 := hS0.km q.kp
    have e9 : M1 9 = M 9 := by rw [q.2.2.2.1 9 (by simp) (by decide)]; exact m0e.1
    have e113 : M1 113 = M 113 := by rw [q.2.2.2.1 113 (by simp) (by decide)]; exact m0e.2
    have ew : wtB K M1 b = wtB K M b := by unfold wtB; rw [e9, e113]
    refine c_X10_wt hS1 (by omega) ?_
    rw [ew]
    have eL := q.2.1
    rw [m0e.1, m0e.2] at eL
    have e7 : M1 112 7 = K := by rw [q.2.2.2.2 7 (by simp), up_fld (by decide)]; exact hL.2.2.2.2.2.1
    have e6 : M1 112 6 = c := by rw [q.2.2.2.2 6 (by simp), up_fld (by decide)]; exact hL.2.2.2.1
    have e5 : M1 112 5 = 0 := by rw [q.2.2.2.2 5 (by simp)]; exact up_s
    have hGf : GLok (c - wtB K M b) K (M1 122) (M1 121) (M1 123) := (eL.GL hS.GL).ch (by omega)
    rw [e6]
    refine B_X10_topUp_41 ⟨by omega, l_X10_topUp (x1 := b) (x2 := s) rfl rfl (fun s => by rw [Int.zero_add]) hGf e7 (by omega) (fun M2 q1 => hQ M2 _ ((kp0.tr q.kp).tr ⟨fun n a b => q1 n (by omega) (by omega), fun i _ => by rw [q1 112 (by decide) (by decide)]⟩) ⟨by rw [q1 112 (by decide) (by decide)]; exact e5, ?_⟩)⟩
    rw [eL.zE, eL.rw]
  refine B_X10_topUp_0 (c_X10_isBin up_s (by rw [r0 113 (by decide)]; omega) (fun h => B_X10_topUp_10 ⟨fun _ => hQ _ 0 (kp0.fl (by simp)) ?_, fun z => (z rfl).elim⟩) (fun h => B_X10_topUp_10 ⟨fun z => by omega, fun _ => ⟨fun e => go (by rw [r0 113 (by decide)] at h; exact h) (Or.inl e), fun e => c_X10_isSort up_s (by rw [up_fld (by decide)]; exact hL.2.2.2.2.2.1) hK6 (fun h2 => B_X10_topUp_23 ⟨fun z => (z rfl).elim, fun _ => hQ _ 0 (kp0.fl (by simp)) ?_⟩) (fun h2 => B_X10_topUp_23 ⟨fun _ => go (by rw [r0 113 (by decide)] at h; exact h) (Or.inr h2), fun z => by omega⟩)⟩⟩))
  · rw [r0 113 (by decide)] at h
    rw [if_neg (fun z => h z.1)]; exact up_s
  · rw [if_neg (fun z => z.2.elim e h2)]; exact up_s
