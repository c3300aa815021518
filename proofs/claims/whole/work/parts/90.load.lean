/-! acts: load -/
theorem pq_bd {f : Int → Int} (hf : ∀ s : Nat, s < 6 → 0 ≤ f s ∧ f s ≤ 127) {s : Nat} (hs : s < 6) : 0 ≤ f s * p7 s ∧ f s * p7 s ≤ 4363686772736 := by
  have a := hf s hs
  have b := p7_bd hs
  refine ⟨Int.mul_nonneg a.1 (by omega), ?_⟩
  have h1 : f s * p7 s ≤ 127 * p7 s := Int.mul_le_mul_of_nonneg_right a.2 (by omega)
  omega
theorem pq_6 {f : Int → Int} : sg (fun s => f s * p7 s.toNat) 6 = pkL f := by
  simp [sg, p7, pkL]; omega
theorem c_X8_firstBin {d k : Nat} {M : mM} {Q : mRes → mM → Prop} {f : Int → Int} (hM : ∀ s : Nat, s < 6 → M 33 s = f s) (hf : ∀ s : Nat, s < 6 → 0 ≤ f s ∧ f s ≤ 127) (hQ : Q (.inl (some (mL (pkL f)))) M) : V (d + 1) k qX8_firstBin 0 [mR 16 10 32, mE 0, mE 0, mE 0] [] M Q := by
  have loop : ∀ r j : Nat, j + r = 6 → V (d + 1) k qX8_firstBin 4 [mR 16 10 32, mL (sg (fun s => f s * p7 s.toNat) j), mE 0, mI j] [] M Q := by
    intro r
    induction r with
    | zero =>
      intro j hj
      have e : j = 6 := by omega
      subst e
      rw [pq_6]
      exact B_X8_firstBin_4 ⟨fun _ => hQ, fun z => by omega⟩
    | succ r ih =>
      intro j hj
      have hb := sg_bd (f := fun s => f s * p7 s.toNat) (c := 4363686772736) (n := j) (fun t ht => by
        have := pq_bd hf (s := t) (by omega)
        show 0 ≤ f t * p7 (t : Int).toNat ∧ f t * p7 (t : Int).toNat ≤ _
        rw [show (t : Int).toNat = t by omega]; exact this)
      have hj' := pq_bd hf (s := j) (by omega)
      refine B_X8_firstBin_4 ⟨fun z => by omega, fun _ => ⟨by omega, c_X7_one (by omega) (fun v hv => ?_)⟩⟩
      rw [show (j : Int).toNat = j by omega] at hv
      subst hv
      rw [hM j (by omega)]
      refine B_X8_firstBin_22 ⟨by omega, by omega, by omega, ?_⟩
      have e : sg (fun s => f s * p7 s.toNat) (j + 1) = sg (fun s => f s * p7 s.toNat) j + f j * p7 j := by
        show _ + f j * p7 (j : Int).toNat = _
        rw [show (j : Int).toNat = j by omega]
      have := ih (j + 1) (by omega)
      rw [e] at this
      exact this
  exact B_X8_firstBin_0 (loop 6 0 (by omega))
def okLd (K : Nat) (M : mM) : Prop := 1 ≤ sg (M 113) K ∧ M 113 6 < 12
def rLd (R f : Int → Int) : Int → Int := fun i => if 0 ≤ i ∧ i < 6 then R i - f i else if i = 6 then R 6 + 1 else if 7 + 6 * R 6 ≤ i ∧ i < 13 + 6 * R 6 then f (i - 7 - 6 * R 6) else R i
theorem rLd_lo {R f : Int → Int} {s : Nat} (hs : s < 6) : rLd R f s = R s - f s := by unfold rLd; rw [if_pos (by omega)]
theorem rLd_6 {R f : Int → Int} : rLd R f 6 = R 6 + 1 := by unfold rLd; rw [if_neg (by decide), if_pos rfl]
theorem rLd_bin {R f : Int → Int} {b s n : Nat} (hn : R 6 = n) (hs : s < 6) : rLd R f (7 + 6 * (b : Int) + s) = if b = n then f s else R (7 + 6 * (b : Int) + s) := by
  unfold rLd
  rw [if_neg (by omega), if_neg (by omega)]
  by_cases e : b = n
  · subst e; rw [if_pos (by omega), if_pos rfl]; congr 1; omega
  · rw [if_neg (by omega), if_neg e]
theorem rLd_ok {c : Int} {K : Nat} {sz R f : Int → Int} (hK : K ≤ 6) (h : rowOK c K sz R) (h6 : R 6 < 12) (hf : fbOK c K sz R f) : rowOK c K sz (rLd R f) := by
  obtain ⟨g1, g2, g3, g4, g5⟩ := h
  obtain ⟨n, hn⟩ : ∃ n : Nat, R 6 = n := ⟨(R 6).toNat, by omega⟩
  have fr : ∀ s : Nat, s < 6 → 0 ≤ f s ∧ f s ≤ 12 := fun s hs => by
    have a := hf.1 s hs
    by_cases hk : K ≤ s
    · have := a.2 hk; omega
    · have := hf.2.1 s (by omega); have := g1 s hs; omega
  refine ⟨fun s hs => ?_, ?_, by rw [rLd_6]; omega, fun b s hb hs => ?_, fun b hb => ?_⟩
  · rw [rLd_lo hs]
    have a := g1 s hs
    have b := hf.1 s hs
    refine ⟨?_, by omega, fun hk => by rw [a.2.2 hk, b.2 hk]; omega⟩
    by_cases hk : K ≤ s
    · rw [a.2.2 hk, b.2 hk]; omega
    · have := hf.2.1 s (by omega); omega
  · have e : sg (rLd R f) K = sg R K - sg f K := by
      rw [← sg_sub]
      exact sg_congr (fun j hj => rLd_lo (by omega))
    have := (sg_bd (f := f) (c := 12) (n := K) (fun j hj => fr j (by omega))).1
    omega
  · rw [rLd_bin hn hs, rLd_6]
    by_cases e : b = n
    · rw [if_pos e]
      have a := fr s hs
      exact ⟨a.1, by omega, (hf.1 s hs).2, fun z => by omega⟩
    · rw [if_neg e]
      have := g4 b s hb hs
      exact ⟨this.1, this.2.1, this.2.2.1, fun z => this.2.2.2 (by omega)⟩
  · by_cases e : b = n
    · rw [sg_congr (f := fun s => sz s * rLd R f (7 + 6 * b + s)) (g := fun s => sz s * f s) (fun j hj => by show sz j * rLd R f _ = sz j * f j; rw [rLd_bin hn (by omega), if_pos e])]
      exact hf.2.2
    · rw [sg_congr (f := fun s => sz s * rLd R f (7 + 6 * b + s)) (g := fun s => sz s * R (7 + 6 * b + s)) (fun j hj => by show sz j * rLd R f _ = sz j * R _; rw [rLd_bin hn (by omega), if_neg e])]
      exact g5 b hb
abbrev bsF (c : Int) (K : Nat) (M : mM) : Int → Int := (fwT c K M).2.2.2.2.2.2
theorem St.fb {c : Int} {K : Nat} {N : Int} {M : mM} (h : St c K N M) : fbOK c K (M 9) (M 113) (bsF c K M) := fewT_fb h.GL h.pk
theorem St.few1 {c : Int} {K : Nat} {N : Int} {M : mM} (h : St c K N M) (h1 : 1 ≤ sg (M 113) K) : 1 ≤ (fwT c K M).1 := by
  have hw := fewT_wt h.GL h.pk
  have hc := h.1.1
  have : ∀ n : Nat, n ≤ K → sg (M 113) n ≤ sg (fun j => M 9 j * M 113 j) n := fun n => by
    induction n with
    | zero => intro _; exact Int.le_refl _
    | succ n ih =>
      intro hn
      have a := ih (by omega)
      have b := h.sz (s := n) (by omega)
      have d := h.mn n (by have := h.1.2.1; omega)
      have e : 1 * M 113 n ≤ M 9 n * M 113 n := Int.mul_le_mul_of_nonneg_right b.2.1 d.1
      show sg (M 113) n + M 113 n ≤ sg (fun j => M 9 j * M 113 j) n + M 9 n * M 113 n
      omega
  have a := this K (Nat.le_refl _)
  have hw' : sg (fun j => M 9 j * M 113 j) K ≤ c * (fwT c K M).1 := hw
  by_cases z : 1 ≤ (fwT c K M).1
  · exact z
  · have b : c * (fwT c K M).1 ≤ c * 0 := Int.mul_le_mul_of_nonneg_left (by omega) (by omega)
    omega
theorem St.fb12 {c : Int} {K : Nat} {N : Int} {M : mM} (h : St c K N M) {s : Nat} (hs : s < 6) : 0 ≤ bsF c K M s ∧ bsF c K M s ≤ 12 := by
  have a := h.fb.1 s hs
  by_cases hk : K ≤ s
  · have := a.2 hk; omega
  · have := h.fb.2.1 s (by omega); have := h.mn s hs; omega
theorem pkL_sub {f g : Int → Int} : pkL (fun s => f s - g s) = pkL f - pkL g := by unfold pkL; simp only []; omega
theorem xa_load {d k : Nat} {c : Int} {K : Nat} {N : Int} {M : mM} {Q : mRes → mM → Prop} (hS : St c K N M) (hN : N ≤ 100000)
    (h1 : okLd K M → ∀ M1, XA M M1 (rLd (M 113) (bsF c K M)) → Q (.inl (some (mI (sg (fun s => M 9 s * bsF c K M s) K)))) M1) (h0 : ¬ okLd K M → Q (.inl (some (mI (-1)))) (rfX M)) : V (d + 60) k qX9_load 0 [mR 17 15 0, mE 0, mE 0] [] M Q := by
  have hL := hS.1
  have hK6 := hL.2.1
  have h13 := hS.b13
  have hrow := hS.row
  have hcl := hS.cl
  have hc := hL.1
  have no : ∀ u v, ¬ okLd K M → V (d + 60) k qX9_load 23 [mR 17 15 0, u, v] [] M Q := fun u v h => B_X9_load_23 (c_X9_refuse hS hN (B_X9_load_27 (h0 h)))
  refine B_X9_load_0 (c_X7_restOfAll (Or.inl rfl) hrow.1.1 (fun t ht => by have := hS.mn t ht; omega) (fun r hr => ?_))
  rw [hS.s6] at hr
  subst hr
  refine B_X9_load_7 ⟨fun z => no _ _ (fun y => by have := y.1; omega), fun z => c_X7_bins (Or.inl rfl) (by show 0 ≤ M 17 13 ∧ M 17 13 ≤ 12; omega) (fun r hr => ?_)⟩
  have er : r = M 113 6 := by rw [hr]; exact h13.1
  subst er
  refine B_X9_load_18 ⟨fun a2 => ?_, fun a2 => no _ _ (fun y => a2 y.2)⟩
  have hok : okLd K M := ⟨by omega, a2⟩
  have hf1 := hS.few1 hok.1
  have hf24 := hS.fok.1
  have f12 := fun s (hs : s < 6) => hS.fb12 hs
  refine c_X9_restNow hS (fun M2 q => B_X9_load_36 (c_X8_few0 hS q (fun M3 q1 q2 => B_X9_load_39 ?_)))
  have k3 : kpX M M3 := q.kp.tr (fun n hn => q1 n (by omega))
  refine c_X8_firstBin (f := bsF c K M) (fun s hs => q2.2.2.2.2.2.2 s (by omega) (by omega)) (fun s hs => by have := f12 s hs; omega) ?_
  have hS3 := hS.kx k3
  have hA := hS3.A
  refine B_X9_load_47 (c_X7_remember (by omega) (fun M4 p1 p2 p3 p4 => ?_))
  have e17 : M4 17 = M 17 := by rw [p1 17 (by decide) (by decide)]; exact k3 17 (by omega)
  have e13 : M4 17 13 = M 113 6 := by rw [e17]; exact h13.1
  have Bk := B_X9_load_55 (d := d + 59) (k := k) (M := M4) (Q := Q) (x1 := pkL (bsF c K M))
  have e12 : M4 17 12 = M 17 12 := by rw [e17]
  rw [e12] at Bk
  have hp := hcl.pk.2
  have hb := pkL_bd (f := bsF c K M) (bnd7_of (fun s hs => by have := f12 s hs; omega))
  have e13' : mUp M4 17 12 (M 17 12 - pkL (bsF c K M)) 17 13 = M 113 6 := by rw [up_fld (by decide)]; exact e13
  refine Bk ⟨by omega, c_X7_addBin (by omega) ?_⟩
  rw [e13']
  generalize hM5 : mUp (mUp (mUp M4 17 12 (M 17 12 - pkL (bsF c K M))) 17 (M 113 6) (pkL (bsF c K M))) 17 13 (M 113 6 + 1) = M5
  have r5 : ∀ n, n ≠ 17 → M5 n = M4 n := fun n hn => by rw [← hM5, up_row hn, up_row hn, up_row hn]
  obtain ⟨n, hn⟩ : ∃ n : Nat, M 113 6 = n := ⟨(M 113 6).toNat, by omega⟩
  have st5 : stk 17 M5 (rLd (M 113) (bsF c K M)) := by
    refine ⟨?_, ?_, fun b hb => ?_⟩
    · rw [← hM5, up_fld (by decide), up_fld (by omega), up_s, hrow.1.1, ← pkL_sub]
      exact pkL_congr (fun s hs => (rLd_lo hs).symm)
    · rw [← hM5, up_s, rLd_6]
    · rw [← hM5, up_fld (by omega)]
      by_cases e : (b : Int) = M 113 6
      · rw [e, up_s, ← e]
        exact pkL_congr (fun s hs => by rw [rLd_bin hn hs, if_pos (by omega)])
      · rw [up_fld e, up_fld (by omega), e17, hrow.1.2.2 b hb]
        exact pkL_congr (fun s hs => by rw [rLd_bin hn hs, if_neg (by omega)])
  have e9 : M5 9 = M 9 := by rw [r5 9 (by decide), p1 9 (by decide) (by decide)]; exact k3 9 (by omega)
  have e8 : M5 8 = M 8 := by rw [r5 8 (by decide), p1 8 (by decide) (by decide)]; exact k3 8 (by omega)
  refine B_X9_load_77 (c_X2_weightOfBin (K := K) (f := bsF c K M) (by rw [e8]; exact hL.2.2.2.2.1) hK6 rfl (fun s hs => by have := f12 s hs; omega) (fun s hs => by rw [e9]; have := hS.sz hs; omega) (fun r hr => B_X9_load_85 ?_))
  rw [e9] at hr
  rw [hr]
  exact h1 hok M5 (XA.kp k3 (XA.of p1 p2 p3 p4 (fun m a _ => r5 m a) st5))
theorem c_X10_few1 {d k : Nat} {c : Int} {K : Nat} {N : Int} {M M0 : mM} {Q : mRes → mM → Prop} (hS : St c K N M) (e6 : M0 112 6 = M 112 6) (e7 : M0 112 7 = M 112 7) (e3 : M0 113 = M 113) (e4 : M0 114 = M 114) (hQ : ∀ M2, kpM M0 M2 → trM M2 (fwT c K M) → Q (.inl (some (mI (fwT c K M).1))) M2) : V (d + 6) k qX10_fewestNow 0 [mR 18 58 112] [] M0 Q := by
  have hL := hS.1
  have hr := hS.row.2
  refine B_X10_fewestNow_0 (c_X10_looks (K := K) (by rw [e7]; exact hL.2.2.2.2.2.1) hL.2.1 (fun s h1 h2 => by rw [e3]; exact (hr.1 s h2).2.2 h1) (fun M1 q1 q2 => B_X10_fewestNow_4 ?_))
  rw [e6, e4, e3] at q2
  have q : lotE K (M1 122) (M1 121) (M1 123) (M 9) (M 113) (orF (M 9) K) := ⟨fun s hs => ⟨by rw [q2.2.2.1 s (by have := hL.2.1; omega)]; exact (hS.sz hs).1, q2.2.1 s (by have := hL.2.1; omega)⟩, fun i hi => by
    have e : M1 123 i = orF (M 9) K i := by rw [q2.2.2.2 i hi, orF_congr (fun s hs => (hS.sz hs).1)]
    have := orF_rg (sz := M 9) K i hi
    rw [e]; exact ⟨rfl, this⟩⟩
  have e7' : M1 112 7 = K := by rw [q1.2 7 (by simp), e7]; exact hS.1.2.2.2.2.2.1
  refine c_X10_proves (by rw [q2.1]; exact hL.2.2.2.1) e7' rfl rfl rfl (q.GL hS.GL) (q.PL hS.GL hS.pk) (fun s hs => by rw [q2.2.1 s hs]; have := hS.mn s hs; omega) (fun M2 u1 u2 => B_X10_fewestNow_8 ?_)
  rw [q.few] at u2 ⊢
  exact hQ M2 (q1.k123.tr u1.kp7) u2
theorem ma_load {d k : Nat} {c : Int} {K : Nat} {N : Int} {M : mM} {Q : mRes → mM → Prop} (hS : St c K N M) (hN : N ≤ 100000) {M1 : mM} (hX : (okLd K M ∧ XA M M1 (rLd (M 113) (bsF c K M))) ∨ (¬ okLd K M ∧ M1 = rfX M))
    (h1 : okLd K M → ∀ M2, St c K N M2 → Q (.inl (some (mI (sg (fun s => M 9 s * bsF c K M s) K)))) M2) (h0 : ¬ okLd K M → ∀ M2, St c K (N + 1) M2 → Q (.inl (some (mI (-1)))) M2) : V (d + 60) k qX10_load 0 [mR 18 58 112, mE 0, mE 0] [] M1 Q := by
  have hL := hS.1
  have hK6 := hL.2.1
  have h13 := hS.b13
  have hc := hL.1
  have hA := hS.A
  have hrow := hS.row
  have he : M1 112 = M 112 ∧ M1 113 = M 113 ∧ M1 114 = M 114 ∧ M1 117 = M 117 := by
    rcases hX with ⟨_, z⟩ | ⟨_, z⟩
    · exact z.e
    · rw [z]; exact rfX.e
  have md := (hS.md he.1 he.2.1 he.2.2.1).up5 (v := 0)
  have kp0 : kpM M1 (mUp M1 112 5 0) := kpM.rf.fl (by simp)
  have Bk := B_X10_load_0 (d := d + 59) (k := k) (M := M1) (Q := Q)
  generalize hM0 : mUp M1 112 5 0 = M0 at *
  have f113 : M0 113 = M 113 := by rw [← hM0, up_row (by decide)]; exact he.2.1
  have f114 : M0 114 = M 114 := by rw [← hM0, up_row (by decide)]; exact he.2.2.1
  have f112 : ∀ i : Int, i ≠ 5 → M0 112 i = M 112 i := fun i hi => by rw [← hM0, up_fld hi, he.1]
  have no : ∀ u v, ¬ okLd K M → V (d + 60) k qX10_load 21 [mR 18 58 112, u, v] [] M0 Q := fun u v hn => by
    have e1 : M1 = rfX M := by
      rcases hX with ⟨z, _⟩ | ⟨_, z⟩
      · exact (hn z).elim
      · exact z
    exact B_X10_load_21 (m_refuse hS hN (by rw [← e1]; exact kp0) (fun M2 h => B_X10_load_26 (h0 hn M2 h)))
  have hs0 := sg_bd (f := M 113) (c := 12) (n := K) (fun j hj => hS.mn j (by omega))
  refine Bk (c_X10_restMany (K := K) (by rw [f112 7 (by decide)]; exact hL.2.2.2.2.2.1) hK6 (fun t ht => by rw [f113]; have := hS.mn t ht; omega) (fun r hr => ?_))
  rw [f113] at hr
  subst hr
  refine B_X10_load_9 ⟨fun z => no _ _ (fun y => by have := y.1; omega), fun z => c_X10_bins (fun r hr => ?_)⟩
  rw [f113] at hr
  subst hr
  refine B_X10_load_16 ⟨fun a2 => ?_, fun a2 => no _ _ (fun y => by have := y.2; omega)⟩
  have hok : okLd K M := ⟨by omega, by omega⟩
  have hXA : XA M M1 (rLd (M 113) (bsF c K M)) := by
    rcases hX with ⟨_, z⟩ | ⟨z, _⟩
    · exact z
    · exact (z hok).elim
  have hf1 := hS.few1 hok.1
  have hfb := hS.fb
  have f12 := fun s (hs : s < 6) => hS.fb12 hs
  have hR' : rowOK c K (M 9) (rLd (M 113) (bsF c K M)) := rLd_ok hK6 hrow.2 (by omega) hfb
  refine c_X10_few1 hS (f112 6 (by decide)) (f112 7 (by decide)) f113 f114 (fun M2 k2 t2 => B_X10_load_31 ?_)
  have g113 : M2 113 = M 113 := by rw [k2.1 113 (by omega) (by omega)]; exact f113
  have g8 : M2 112 8 = M 112 8 := by rw [k2.2 8 (by simp)]; exact f112 8 (by decide)
  have g9 : M2 112 9 = M 112 9 := by rw [k2.2 9 (by simp)]; exact f112 9 (by decide)
  have md2 := md.kp k2
  have g114 : M2 114 = M 114 := by rw [k2.1 114 (by omega) (by omega)]; exact f114
  refine c_X10_keeps (by omega) (by omega) (fun M3 p1 p2 p3 p4 => B_X10_load_36 (c_X10_bins (fun r hr => B_X10_load_40 ?_)))
  rw [g113] at p1
  obtain ⟨n, hn⟩ : ∃ n : Nat, M 113 6 = n := ⟨(M 113 6).toNat, by omega⟩
  have e6 : M3 113 6 = n := (p1.2.2.2.2.1 6 (by omega) (by omega)).trans hn
  rw [e6] at hr
  subst hr
  generalize hf : bsF c K M = f at *
  have e129 : ∀ s : Nat, s < 6 → M3 129 s = f s := fun s hs => by
    rw [p3 129 (by decide) (by decide), ← hf]; exact t2.2.2.2.2.2.2 s (by omega) (by omega)
  have loop : ∀ (r j : Nat) (M6 : mM), j + r = 6 → MA M2 M6 (fun i => if 0 ≤ i ∧ i < j then M 113 i - f i else if 7 + 6 * (n : Int) ≤ i ∧ i < 7 + 6 * (n : Int) + j then f (i - 7 - 6 * n) else M 113 i) → (∀ s : Nat, s < 6 → M6 129 s = f s) → V (d + 60) k qX10_load 43 [mR 18 58 112, mI n, mI j] [] M6 Q := by
    intro r
    induction r with
    | zero =>
      intro j M6 hj v w
      have e : j = 6 := by omega
      subst e
      have e6 : M6 113 6 = n := ((v.2.2.2.2.1 6 (by omega) (by omega)).trans ((if_neg (by omega)).trans (if_neg (by omega)))).trans hn
      have Bk := B_X10_load_43 (d := d + 59) (k := k) (M := M6) (Q := Q) (x1 := n) (x2 := ((6 : Nat) : Int))
      rw [e6] at Bk
      have v' : MA M2 (mUp M6 113 6 ((n : Int) + 1)) (rLd (M 113) f) := (v.up (i := 6) (v := (n : Int) + 1) (by omega)).cg (fun i a b => by
        unfold rLd
        rw [hn]
        by_cases z : i = 6
        · rw [z, fset_s, if_neg (by decide), if_pos rfl]
        · rw [fset_n z]
          by_cases y : 0 ≤ i ∧ i < 6
          · rw [if_pos y, if_pos (by omega)]
          · rw [if_neg y, if_neg z, if_neg (show ¬ (0 ≤ i ∧ i < ((6 : Nat) : Int)) by omega)]
            by_cases x : 7 + 6 * (n : Int) ≤ i ∧ i < 13 + 6 * (n : Int)
            · rw [if_pos x, if_pos (by omega)]
            · rw [if_neg x, if_neg (by omega)])
      have hR4 : rowOK c K (M2 114) (rLd (M 113) f) := by rw [g114]; exact hR'.sz (fun t ht => (hS.sz ht).1)
      have hm4 : mUp M6 113 6 ((n : Int) + 1) 114 = M2 114 := v'.1 114 (by omega) (by omega) (by omega)
      refine Bk ⟨fun _ => ⟨by omega, c_X10_wtM (v'.md md2 hR4) (by omega) (B_X10_load_123 ?_)⟩, fun y => by omega⟩
      have ew : wtR K (M 114) (rLd (M 113) f) n = sg (fun s => M 9 s * f s) K := by
        rw [wtR_sz (sz := M 9) (fun t ht => (hS.sz ht).1)]
        exact sg_congr (fun t ht => by
          show M 9 t * rLd (M 113) f (7 + 6 * (n : Int) + t) = M 9 t * f t
          rw [rLd_bin hn (by omega), if_pos rfl])
      rw [hm4, g114, ew]
      exact h1 hok _ (act_St hS hXA ((v'.kp k2).kp kp0) hR')
    | succ r ih =>
      intro j M6 hj v w
      have e7 : M6 112 7 = K := by rw [v.2.1 7 (by simp), k2.2 7 (by simp), f112 7 (by decide)]; exact hL.2.2.2.2.2.1
      have ej : M6 113 j = M 113 j := (v.2.2.2.2.1 j (by omega) (by omega)).trans ((if_neg (by omega)).trans (if_neg (by omega)))
      have hm := hS.mn j (by omega)
      have hfj := f12 j (by omega)
      refine B_X10_load_43 ⟨fun y => by omega, fun _ => c_X10_binAt (by omega) (fun y hy => ?_)⟩
      subst hy
      have Bk := B_X10_load_57 (d := d + 59) (k := k) (M := M6) (Q := Q) (x1 := n) (x2 := j) (sx0 := 7 + 6 * n)
      rw [e7, w j (by omega)] at Bk
      have stp : ∀ x : Int, x = f j → V (d + 60) k qX10_load 77 [mR 18 58 112, mI n, mI j] [mI x, mI (7 + 6 * (n : Int) + j), mR 0 6800 113] M6 Q := fun x hx => by
        subst hx
        have Bk := B_X10_load_77 (d := d + 59) (k := k) (M := M6) (Q := Q) (x1 := n) (x2 := j) (sx0 := f j) (sx1 := 7 + 6 * (n : Int) + j)
        have eu : mUp M6 113 (7 + 6 * (n : Int) + j) (f j) 113 j = M 113 j := by rw [up_fld (by omega)]; exact ej
        rw [e7, w j (by omega), eu] at Bk
        have v1 := v.up (i := 7 + 6 * (n : Int) + j) (v := f j) (by omega)
        refine Bk ⟨by omega, fun hk => ⟨by omega, ih (j + 1) _ (by omega) (v1.cg (fun i a b => ?_)) (fun s hs => by rw [up_row (by decide)]; exact w s hs)⟩, fun hk => ⟨by omega, by omega, by omega, by omega, by omega, ih (j + 1) _ (by omega) ((v1.up (i := j) (v := M 113 j - f j) (by omega)).cg (fun i a b => ?_)) (fun s hs => by rw [up_row (by decide), up_row (by decide)]; exact w s hs)⟩⟩
        · have f0 : f j = 0 := (hfb.1 j (by omega)).2 (by omega)
          have m0 : M 113 j = 0 := (hrow.2.1 j (by omega)).2.2 (by omega)
          by_cases x : i = 7 + 6 * (n : Int) + j
          · rw [x, fset_s, if_neg (by omega), if_pos (by omega)]; congr 1; omega
          · rw [fset_n x]
            by_cases y : i = j
            · rw [y, if_pos (by omega), if_neg (by omega), if_neg (by omega), f0]; omega
            · by_cases z : 0 ≤ i ∧ i < j
              · rw [if_pos z, if_pos (by omega)]
              · rw [if_neg z, if_neg (show ¬ (0 ≤ i ∧ i < ((j + 1 : Nat) : Int)) by omega)]
                by_cases t : 7 + 6 * (n : Int) ≤ i ∧ i < 7 + 6 * (n : Int) + j
                · rw [if_pos t, if_pos (by omega)]
                · rw [if_neg t, if_neg (by omega)]
        · by_cases y : i = j
          · rw [y, fset_s, if_pos (by omega)]
          · rw [fset_n y]
            by_cases x : i = 7 + 6 * (n : Int) + j
            · rw [x, fset_s, if_neg (by omega), if_pos (by omega)]; congr 1; omega
            · rw [fset_n x]
              by_cases z : 0 ≤ i ∧ i < j
              · rw [if_pos z, if_pos (by omega)]
              · rw [if_neg z, if_neg (show ¬ (0 ≤ i ∧ i < ((j + 1 : Nat) : Int)) by omega)]
                by_cases t : 7 + 6 * (n : Int) ≤ i ∧ i < 7 + 6 * (n : Int) + j
                · rw [if_pos t, if_pos (by omega)]
                · rw [if_neg t, if_neg (by omega)]
      exact Bk ⟨by omega, fun hk => stp 0 ((hfb.1 j (by omega)).2 (by omega)).symm, fun hk => ⟨by omega, stp _ rfl⟩⟩
  exact loop 6 0 M3 (by omega) (p1.cg (fun i _ _ => by rw [if_neg (by omega), if_neg (by omega)])) e129
