/-! acts: put, take, rest -/
def rfX (M : mM) : mM := mUp M 18 1 (M 18 1 + 1)
theorem c_X9_refuse {d k : Nat} {c : Int} {K : Nat} {N : Int} {M : mM} {Q : mRes → mM → Prop} (hS : St c K N M) (hN : N ≤ 100000) (hQ : Q (.inl (some (mI (-1)))) (rfX M)) : V d k qX9_refuseAct 0 [mR 17 15 0] [] M Q := by
  have := hS.rf (i := 1) (by omega)
  have h1 : M 18 1 = M 117 1 ∧ 0 ≤ M 18 1 ∧ M 18 1 ≤ N := this
  exact B_X9_refuseAct_0 ⟨by omega, hQ⟩
theorem c_X10_refuse {d k : Nat} {M M0 : mM} {N : Int} {Q : mRes → mM → Prop} (k0 : kpM M0 M) (hN : 0 ≤ M0 117 1 ∧ M0 117 1 ≤ N) (hN2 : N ≤ 100000) (hQ : ∀ M2, (∃ M', kpM M0 M' ∧ M2 = mUp M' 117 ((1 : Nat) : Int) (M' 117 ((1 : Nat) : Int) + 1)) → Q (.inl (some (mI (-1)))) M2) : V d k qX10_refuses 0 [mR 18 58 112, mI 1] [] M Q := by
  have e : M 117 = M0 117 := k0.1 117 (by omega) (by omega)
  exact B_X10_refuses_0 ⟨by omega, by rw [e]; omega, by omega, hQ _ ⟨M, k0, rfl⟩⟩
/-- the act has been kept, the row changed -/
theorem XA.of {M M1 M' : mM} {R : Int → Int} (h1 : ∀ n, n ≠ 16 → n ≠ 19 → M1 n = M n) (h2 : M1 16 3 = M 16 3) (h3 : M1 16 2 = nwA (M 16 2)) (h4 : ∀ k i : Nat, (k : Int) < nwA (M 16 2) → i < 14 → M1 19 (14 * (k : Int) + i) = if (k : Int) = nwA (M 16 2) - 1 then M 17 i else M 19 (14 * ((k : Int) + shA (M 16 2)) + i)) (h5 : ∀ n, n ≠ 17 → ¬ ((2 ≤ n ∧ n ≤ 7) ∨ (12 ≤ n ∧ n ≤ 15) ∨ (28 ≤ n ∧ n ≤ 111)) → M' n = M1 n) (h6 : stk 17 M' R) : XA M M' R :=
  ⟨fun n a b c e => by rw [h5 n b e]; exact h1 n a c, by rw [h5 16 (by decide) (by omega)]; exact h2, by rw [h5 16 (by decide) (by omega)]; exact h3, fun k i hk hi => by rw [h5 19 (by decide) (by omega)]; exact h4 k i hk hi, h6⟩
theorem St.A {c : Int} {K : Nat} {N : Int} {M : mM} (h : St c K N M) : M 16 2 = M 112 8 ∧ (0 ≤ M 112 8 ∧ M 112 8 ≤ 40) ∧ (0 ≤ M 112 9 ∧ M 112 9 < 40) ∧ M 16 3 = M 112 10 ∧ (0 ≤ M 112 10 ∧ M 112 10 ≤ 8) := ⟨h.2.1.1.1, h.2.1.1.2.2.1, h.2.1.1.2.2.2.1, h.2.1.1.2.1, h.2.1.1.2.2.2.2⟩
theorem stk_cg {M M' : mM} {R : Int → Int} (e : M' 17 = M 17) (h : stk 17 M R) : stk 17 M' R := by unfold stk at *; rw [e]; exact h
theorem clX.cg {c : Int} {K : Nat} {M M' : mM} {R : Int → Int} (h : clX c K M R) (e8 : M' 8 = M 8) (e9 : M' 9 = M 9) (e17 : M' 17 = M 17) : clX c K M' R := by unfold clX stk at *; rw [e8, e9, e17]; exact h
def okPut (c : Int) (K : Nat) (M : mM) (s b : Int) : Prop := (0 ≤ s ∧ s < K) ∧ (0 ≤ b ∧ b < M 113 6) ∧ 1 ≤ M 113 s ∧ wtB K M b + M 9 s ≤ c
theorem xa_put {d k : Nat} {c : Int} {K : Nat} {N : Int} {M : mM} {Q : mRes → mM → Prop} {s b : Int} (hS : St c K N M) (hN : N ≤ 100000)
    (h1 : okPut c K M s b → ∀ M1, XA M M1 (rMv (M 113) s b 1) → Q (.inl (some (mI (c - wtB K M b - M 9 s)))) M1) (h0 : ¬ okPut c K M s b → Q (.inl (some (mI (-1)))) (rfX M)) : V (d + 60) k qX9_put 0 [mR 17 15 0, mI s, mI b] [] M Q := by
  have hL := hS.1
  have hK6 := hL.2.1
  have h13 := hS.b13
  have hrow := hS.row
  have hcl := hS.cl
  have hc := hL.1
  have no : ¬ okPut c K M s b → V (d + 60) k qX9_put 48 [mR 17 15 0, mI s, mI b] [] M Q := fun h => B_X9_put_48 (c_X9_refuse hS hN (B_X9_put_52 (h0 h)))
  refine B_X9_put_0 (c_X9_isSort hL.2.2.2.2.1 hK6 (fun a1 => B_X9_put_5 ⟨fun z => by omega, fun _ => c_X7_isBin (Or.inl rfl) (by show 0 ≤ M 17 13 ∧ M 17 13 ≤ 12; omega) (fun r hr => ?_)⟩) (fun a1 => B_X9_put_5 ⟨fun _ => no (fun z => a1 z.1), fun z => (z rfl).elim⟩))
  by_cases a2 : 0 ≤ b ∧ b < M (16 + 1) 13
  · rw [if_pos a2] at hr
    subst hr
    have a2' : 0 ≤ b ∧ b < M 113 6 := by rw [← h13.1]; exact a2
    refine B_X9_put_16 ⟨fun z => by omega, fun _ => c_X7_restOf (Or.inl rfl) hrow.1.1 hrow.2.r7 (by omega) (fun r hr => ?_)⟩
    subst hr
    refine B_X9_put_27 ⟨fun a3 => no (fun z => by have := z.2.2.1; omega), fun a3 => c_X9_freeIn hS a2' ?_⟩
    refine B_X9_put_36 ⟨by omega, fun a4 => ?_, fun a4 => no (fun z => by have := z.2.2.2; omega)⟩
    have hok : okPut c K M s b := ⟨a1, a2', by omega, by omega⟩
    obtain ⟨sn, rfl⟩ : ∃ n : Nat, s = n := ⟨s.toNat, by omega⟩
    obtain ⟨bn, rfl⟩ : ∃ n : Nat, b = n := ⟨b.toNat, by omega⟩
    have hA := hS.A
    refine c_X7_remember (by omega) (fun M1 p1 p2 p3 p4 => B_X9_put_60 ?_)
    have e17 : M1 17 = M 17 := p1 17 (by decide) (by decide)
    have hpk := hcl.pk
    refine c_X7_moveIn (stk_cg e17 hrow.1) hrow.2.2.2.1 (by omega) (by omega) (by rw [e17]; exact ⟨hpk.1 bn (by omega), hpk.2⟩) (fun M2 q1 q2 => B_X9_put_69 ?_)
    have e9 : M2 9 = M 9 := by rw [q1 9 (by decide), p1 9 (by decide) (by decide)]
    have e8 : M2 8 = M 8 := by rw [q1 8 (by decide), p1 8 (by decide) (by decide)]
    have hz : ∀ t : Nat, t < K → 1 ≤ M 9 t := fun t ht => (hS.sz ht).2.1
    have hm := hS.mn sn (by omega)
    have hsum := hrow.2.2.1
    have hb0 := hrow.2.2.2.2.1 bn sn (by omega) (by omega)
    have hR' : rowOK c K (M 9) (rMv (M 113) sn bn 1) := rMv_ok hc.2 hK6 hz hrow.2 (by omega) a2'.2 (by omega) (by omega) (by omega) (by have := hok.2.2.2; unfold wtB at this; unfold wtR; omega)
    have cl2 : clX c K M2 (rMv (M 113) sn bn 1) := ⟨hc, hK6, by rw [e8]; exact hL.2.2.1, by rw [e8]; exact hL.2.2.2.2.1, by rw [e9]; exact fun t ht => (hS.sz ht).2, q2, by rw [e9]; exact hR'⟩
    have e6 : rMv (M 113) sn bn 1 6 = M 113 6 := rMv_n (by omega) (by omega)
    refine c_X9_freeR cl2 (by rw [e6]; exact a2') (B_X9_put_74 ?_)
    rw [e9, rMv_wt hK6 (by omega) bn, if_pos rfl]
    have := h1 hok M2 (XA.of p1 p2 p3 p4 (fun n a b => q1 n a) q2)
    rw [show c - (wtR K (M 9) (M 113) bn + M 9 sn * 1) = c - wtB K M bn - M 9 sn by unfold wtR wtB; omega]
    exact this
  · rw [if_neg a2] at hr
    subst hr
    exact B_X9_put_16 ⟨fun _ => no (fun z => a2 (by show 0 ≤ b ∧ b < M 17 13; rw [h13.1]; exact z.2.1)), fun z => (z rfl).elim⟩
/-- what is kept, then the row changed further -/
theorem MA.up {M M1 : mM} {R : Int → Int} {i v : Int} (h : MA M M1 R) (hi : 0 ≤ i ∧ i < 79) : MA M (mUp M1 113 i v) (fset R i v) := by
  obtain ⟨h1, h2, h3, h4, h5, h6, h7⟩ := h
  refine ⟨fun n a b c => by rw [up_row b]; exact h1 n a b c, fun j hj => by rw [up_row (by decide)]; exact h2 j hj, by rw [up_row (by decide)]; exact h3, by rw [up_row (by decide)]; exact h4, fun j a b => ?_, fun k j a b c => by rw [up_fld (by omega)]; exact h6 k j a b c, fun j a => by rw [up_fld (by omega)]; exact h7 j a⟩
  by_cases e : j = i
  · rw [e, up_s, fset_s]
  · rw [up_fld e, fset_n e]; exact h5 j a b
theorem MA.cg {M M1 : mM} {R R' : Int → Int} (h : MA M M1 R) (e : ∀ i : Int, 0 ≤ i → i < 79 → R' i = R i) : MA M M1 R' := ⟨h.1, h.2.1, h.2.2.1, h.2.2.2.1, fun i a b => by rw [e i a b]; exact h.2.2.2.2.1 i a b, h.2.2.2.2.2⟩
theorem MA.kp {M0 M M1 : mM} {R : Int → Int} (k : kpM M0 M) (h : MA M M1 R) : MA M0 M1 R := by
  obtain ⟨h1, h2, h3, h4, h5, h6, h7⟩ := h
  have e8 : M 112 8 = M0 112 8 := k.2 8 (by simp)
  have e9 : M 112 9 = M0 112 9 := k.2 9 (by simp)
  have e113 : M 113 = M0 113 := k.1 113 (by omega) (by omega)
  rw [e8, e9, e113] at h6
  rw [e8] at h3 h4
  rw [e9] at h4
  rw [e113] at h7
  exact ⟨fun n a b c => by rw [h1 n a b c]; exact k.1 n a c, fun i hi => by rw [h2 i hi]; exact k.2 i (by simp at hi ⊢; omega), h3, h4, h5, h6, h7⟩
/-! the model's part alone -/
def mdX (c : Int) (K : Nat) (M : mM) (R : Int → Int) : Prop := (1 ≤ c ∧ c ≤ 99) ∧ K ≤ 6 ∧ M 112 6 = c ∧ M 112 7 = K ∧ (∀ s : Nat, s < K → 1 ≤ M 114 s ∧ M 114 s ≤ c) ∧ (∀ i : Int, 0 ≤ i → i < 79 → M 113 i = R i) ∧ rowOK c K (M 114) R
theorem rowOK.sz {c : Int} {K : Nat} {sz sz' R : Int → Int} (h : rowOK c K sz R) (e : ∀ s : Nat, s < K → sz' s = sz s) : rowOK c K sz' R := ⟨h.1, h.2.1, h.2.2.1, h.2.2.2.1, fun b hb => by
  rw [sg_congr (f := fun s => sz' s * R (7 + 6 * b + s)) (g := fun s => sz s * R (7 + 6 * b + s)) (fun j hj => by show sz' j * _ = sz j * _; rw [e j hj])]
  exact h.2.2.2.2 b hb⟩
theorem wtR_sz {K : Nat} {sz sz' R : Int → Int} {b : Int} (e : ∀ s : Nat, s < K → sz' s = sz s) : wtR K sz' R b = wtR K sz R b := sg_congr (fun j hj => by show sz' j * _ = sz j * _; rw [e j hj])
theorem c_X10_wtM {d k : Nat} {c : Int} {K : Nat} {M : mM} {R : Int → Int} {Q : mRes → mM → Prop} {b : Int} (h : mdX c K M R) (hb : 0 ≤ b ∧ b < 12) (hQ : Q (.inl (some (mI (wtR K (M 114) R b)))) M) : V (d + 1) k qX10_fullOf 0 [mR 18 58 112, mI b, mE 0, mE 0] [] M Q := by
  obtain ⟨h1, h2, h3, h4, h5, h6, h7⟩ := h
  obtain ⟨n, hn⟩ : ∃ n : Nat, b = n := ⟨b.toNat, by omega⟩
  subst hn
  refine c_X10_fullOf h4 h2 (by omega) (fun s hs => by rw [h6 (7 + 6 * n + s) (by omega) (by omega)]; have := h7.2.2.2.1 n s (by omega) hs; omega) (fun s hs => by have := h5 s hs; omega) (fun r hr => ?_)
  have e : sg (fun s => M 114 s * M 113 (7 + 6 * n + s)) K = wtR K (M 114) R n := sg_congr (fun j hj => by show _ * M 113 _ = _ * R _; rw [h6 (7 + 6 * n + j) (by omega) (by omega)])
  rw [hr, e]; exact hQ
theorem St.md {c : Int} {K : Nat} {N : Int} {M M1 : mM} (h : St c K N M) (e2 : M1 112 = M 112) (e3 : M1 113 = M 113) (e4 : M1 114 = M 114) : mdX c K M1 (M 113) := ⟨h.1.1, h.1.2.1, by rw [e2]; exact h.1.2.2.2.1, by rw [e2]; exact h.1.2.2.2.2.2.1, fun s hs => by rw [e4, (h.sz hs).1]; exact (h.sz hs).2, fun i _ _ => by rw [e3], by rw [e4]; exact h.row.2.sz (fun s hs => (h.sz hs).1)⟩
theorem mdX.up5 {c : Int} {K : Nat} {M : mM} {R : Int → Int} {v : Int} (h : mdX c K M R) : mdX c K (mUp M 112 5 v) R := by
  unfold mdX at *
  rw [up_fld (by decide), up_fld (by decide), up_row (by decide), up_row (by decide)]; exact h
theorem MA.md {c : Int} {K : Nat} {M M1 : mM} {R R' : Int → Int} (h : mdX c K M R) (hM : MA M M1 R') (hR : rowOK c K (M 114) R') : mdX c K M1 R' := ⟨h.1, h.2.1, by rw [hM.2.1 6 (by simp)]; exact h.2.2.1, by rw [hM.2.1 7 (by simp)]; exact h.2.2.2.1, by rw [hM.1 114 (by omega) (by omega) (by omega)]; exact h.2.2.2.2.1, hM.2.2.2.2.1, by rw [hM.1 114 (by omega) (by omega) (by omega)]; exact hR⟩
/-- what the model sees of a state that the class has changed -/
theorem XA.e {M M1 : mM} {R : Int → Int} (h : XA M M1 R) : M1 112 = M 112 ∧ M1 113 = M 113 ∧ M1 114 = M 114 ∧ M1 117 = M 117 := ⟨h.1 112 (by omega) (by omega) (by omega) (by omega), h.1 113 (by omega) (by omega) (by omega) (by omega), h.1 114 (by omega) (by omega) (by omega) (by omega), h.1 117 (by omega) (by omega) (by omega) (by omega)⟩
theorem rfX.e {M : mM} : rfX M 112 = M 112 ∧ rfX M 113 = M 113 ∧ rfX M 114 = M 114 ∧ rfX M 117 = M 117 := ⟨up_row (by decide), up_row (by decide), up_row (by decide), up_row (by decide)⟩
theorem m_refuse {d k : Nat} {c : Int} {K : Nat} {N : Int} {M M3 : mM} {Q : mRes → mM → Prop} (hS : St c K N M) (hN : N ≤ 100000) (k3 : kpM (rfX M) M3) (hQ : ∀ M2, St c K (N + 1) M2 → Q (.inl (some (mI (-1)))) M2) : V d k qX10_refuses 0 [mR 18 58 112, mI 1] [] M3 Q := by
  have h1 : M 18 1 = M 117 1 ∧ 0 ≤ M 18 1 ∧ M 18 1 ≤ N := hS.rf (i := 1) (by omega)
  exact c_X10_refuse (N := N) k3 (by rw [rfX.e.2.2.2]; omega) hN (fun M2 h2 => hQ M2 (ref_2 (i := 1) (by omega) hS kpX.rf h2))
theorem ma_put {d k : Nat} {c : Int} {K : Nat} {N : Int} {M : mM} {Q : mRes → mM → Prop} {s b : Int} (hS : St c K N M) (hN : N ≤ 100000) {M1 : mM} (hX : (okPut c K M s b ∧ XA M M1 (rMv (M 113) s b 1)) ∨ (¬ okPut c K M s b ∧ M1 = rfX M))
    (h1 : okPut c K M s b → ∀ M2, St c K N M2 → Q (.inl (some (mI (c - wtB K M b - M 9 s)))) M2) (h0 : ¬ okPut c K M s b → ∀ M2, St c K (N + 1) M2 → Q (.inl (some (mI (-1)))) M2) : V (d + 60) k qX10_put 0 [mR 18 58 112, mI s, mI b] [] M1 Q := by
  have hL := hS.1
  have hK6 := hL.2.1
  have h13 := hS.b13
  have hc := hL.1
  have hA := hS.A
  have he : M1 112 = M 112 ∧ M1 113 = M 113 ∧ M1 114 = M 114 ∧ M1 117 = M 117 := by
    rcases hX with ⟨_, z⟩ | ⟨_, z⟩
    · exact z.e
    · rw [z]; exact rfX.e
  have md := (hS.md he.1 he.2.1 he.2.2.1).up5 (v := 0)
  have kp0 : kpM M1 (mUp M1 112 5 0) := kpM.rf.fl (by simp)
  generalize hM0 : mUp M1 112 5 0 = M0 at *
  have f113 : M0 113 = M 113 := by rw [← hM0, up_row (by decide)]; exact he.2.1
  have f114 : M0 114 = M 114 := by rw [← hM0, up_row (by decide)]; exact he.2.2.1
  have f112 : ∀ i : Int, i ≠ 5 → M0 112 i = M 112 i := fun i hi => by rw [← hM0, up_fld hi, he.1]
  have no : ¬ okPut c K M s b → V (d + 60) k qX10_put 61 [mR 18 58 112, mI s, mI b] [] M0 Q := fun hn => by
    have e1 : M1 = rfX M := by
      rcases hX with ⟨z, _⟩ | ⟨_, z⟩
      · exact (hn z).elim
      · exact z
    exact B_X10_put_61 (m_refuse hS hN (by rw [← e1]; exact kp0) (fun M2 h => B_X10_put_66 (h0 hn M2 h)))
  have Bk := B_X10_put_0 (d := d + 59) (k := k) (M := M1) (Q := Q) (x1 := s) (x2 := b)
  rw [he.1, hL.2.2.2.2.2.1, hM0] at Bk
  refine Bk ⟨by omega, c_X10_within (fun x hx => ?_)⟩
  by_cases a1 : 0 ≤ s ∧ s ≤ (K : Int) - 1
  · rw [if_pos a1] at hx
    subst hx
    refine B_X10_put_16 ⟨fun z => by omega, fun _ => c_X10_bins (fun x hx => B_X10_put_25 ⟨by rw [hx, f113]; omega, c_X10_within (fun y hy => ?_)⟩)⟩
    rw [f113] at hx
    subst hx
    by_cases a2 : 0 ≤ b ∧ b ≤ M 113 6 - 1
    · rw [if_pos a2] at hy
      subst hy
      obtain ⟨sn, rfl⟩ : ∃ n : Nat, s = n := ⟨s.toNat, by omega⟩
      obtain ⟨bn, rfl⟩ : ∃ n : Nat, b = n := ⟨b.toNat, by omega⟩
      have hz := hS.sz (s := sn) (by omega)
      have ew : wtR K (M0 114) (M 113) bn = wtB K M bn := by rw [f114]; exact wtR_sz (fun t ht => (hS.sz ht).1)
      have hm := hS.mn sn (by omega)
      have hwb := (hS.bin (b := bn) (by omega)).2.2.2
      have Bk := B_X10_put_30 (d := d + 59) (k := k) (M := M0) (Q := Q) (x1 := sn) (x2 := bn) (sx0 := 1)
      rw [f113] at Bk
      refine Bk ⟨fun z => by omega, fun _ => ⟨by omega, fun a3 => no (fun z => by have := z.2.2.1; omega), fun a3 => c_X10_wtM md (by omega) ?_⟩⟩
      rw [ew]
      have Bk := B_X10_put_47 (d := d + 59) (k := k) (M := M0) (Q := Q) (x1 := sn) (x2 := bn) (sx0 := wtB K M bn)
      rw [f114, hz.1, f112 6 (by decide), hL.2.2.2.1] at Bk
      refine Bk ⟨by omega, by omega, fun a4 => ?_, fun a4 => no (fun z => by have := z.2.2.2; omega)⟩
      have hok : okPut c K M sn bn := ⟨by omega, by omega, by omega, by omega⟩
      have hXA : XA M M1 (rMv (M 113) sn bn 1) := by
        rcases hX with ⟨_, z⟩ | ⟨z, _⟩
        · exact z
        · exact (z hok).elim
      refine c_X10_keeps (by rw [f112 8 (by decide)]; omega) (by rw [f112 9 (by decide)]; omega) (fun M3 p1 p2 p3 p4 => B_X10_put_71 (c_X10_binAt (by omega) (fun r hr => ?_)))
      subst hr
      rw [f113] at p1
      have g : ∀ i : Int, 0 ≤ i → i < 79 → M3 113 i = M 113 i := p1.2.2.2.2.1
      have hb0 := hS.row.2.2.2.2.1 bn sn (by omega) (by omega)
      have e1 := g (7 + 6 * (bn : Int) + sn) (by omega) (by omega)
      have e2 : mUp M3 113 (7 + 6 * (bn : Int) + sn) (M 113 (7 + 6 * (bn : Int) + sn) + 1) 113 sn = M 113 sn := by rw [up_fld (by omega)]; exact g sn (by omega) (by omega)
      have Bk := B_X10_put_79 (d := d + 59) (k := k) (M := M3) (Q := Q) (x1 := sn) (x2 := bn) (sx0 := 7 + 6 * bn)
      rw [e1, e2] at Bk
      have hma := (p1.up (i := 7 + 6 * (bn : Int) + sn) (v := M 113 (7 + 6 * (bn : Int) + sn) + 1) (by omega)).up (i := sn) (v := M 113 sn - 1) (by omega)
      have hma' : MA M0 (mUp (mUp M3 113 (7 + 6 * (bn : Int) + sn) (M 113 (7 + 6 * (bn : Int) + sn) + 1)) 113 sn (M 113 sn - 1)) (rMv (M 113) sn bn 1) := hma
      have hzz : ∀ t : Nat, t < K → 1 ≤ M 9 t := fun t ht => (hS.sz ht).2.1
      have hsum := hS.row.2.2.1
      have hR' : rowOK c K (M 9) (rMv (M 113) sn bn 1) := rMv_ok hc.2 hK6 hzz hS.row.2 (by omega) (by omega) (by omega) (by omega) (by omega) (by have := hok.2.2.2; unfold wtB at this; unfold wtR; omega)
      have hR4 : rowOK c K (M0 114) (rMv (M 113) sn bn 1) := by rw [f114]; exact hR'.sz (fun t ht => (hS.sz ht).1)
      refine Bk ⟨by omega, by omega, by omega, by omega, by omega, by omega, by omega, c_X10_wtM (hma'.md md hR4) (by omega) ?_⟩
      have e114 : mUp (mUp M3 113 (7 + 6 * (bn : Int) + sn) (M 113 (7 + 6 * (bn : Int) + sn) + 1)) 113 sn (M 113 sn - 1) 114 = M 114 := by rw [up_row (by decide), up_row (by decide), p3 114 (by decide) (by decide)]; exact f114
      have ew2 : wtR K (M 114) (rMv (M 113) sn bn 1) bn = wtB K M bn + M 9 sn := by
        rw [wtR_sz (sz := M 9) (fun t ht => (hS.sz ht).1), rMv_wt hK6 (by omega) bn, if_pos rfl]; unfold wtR wtB; omega
      have e6 : M3 112 6 = c := by rw [p4 6 (by decide) (by decide), f112 6 (by decide)]; exact hL.2.2.2.1
      rw [e114, ew2, e6]
      refine B_X10_put_105 ⟨by omega, ?_⟩
      rw [show c - (wtB K M bn + M 9 sn) = c - wtB K M bn - M 9 sn by omega]
      exact h1 hok _ (act_St hS hXA (hma'.kp kp0) hR')
    · rw [if_neg a2] at hy
      subst hy
      exact B_X10_put_30 ⟨fun _ => no (fun z => a2 (by have := z.2.1; omega)), fun z => (z rfl).elim⟩
  · rw [if_neg a1] at hx
    subst hx
    exact B_X10_put_16 ⟨fun _ => no (fun z => a1 (by have := z.1; omega)), fun z => (z rfl).elim⟩
