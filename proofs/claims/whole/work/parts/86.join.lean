/-! acts: join -/
def rAdd (R : Int → Int) (a b : Int) : Int → Int := fun i => if 7 + 6 * a ≤ i ∧ i < 13 + 6 * a then R i + R (i - 6 * a + 6 * b) else R i
theorem rAdd_n {R : Int → Int} {a b i : Int} (h : ¬ (7 + 6 * a ≤ i ∧ i < 13 + 6 * a)) : rAdd R a b i = R i := by unfold rAdd; rw [if_neg h]
theorem rAdd_s {R : Int → Int} {a b : Int} {s : Nat} (hs : s < 6) : rAdd R a b (7 + 6 * a + s) = R (7 + 6 * a + s) + R (7 + 6 * b + s) := by
  unfold rAdd; rw [if_pos (by omega), show 7 + 6 * a + (s : Int) - 6 * a + 6 * b = 7 + 6 * b + s by omega]
theorem sg_add2 {f g : Int → Int} : ∀ n : Nat, sg (fun j => f j + g j) n = sg f n + sg g n
  | 0 => rfl
  | n + 1 => by
    show sg (fun j => f j + g j) n + (f n + g n) = (sg f n + f n) + (sg g n + g n)
    rw [sg_add2 n]; omega
theorem rAdd_wt {K : Nat} {sz R : Int → Int} {a b : Int} (hK : K ≤ 6) : wtR K sz (rAdd R a b) a = wtR K sz R a + wtR K sz R b := by
  unfold wtR
  rw [← sg_add2]
  exact sg_congr (fun j hj => by
    show sz j * rAdd R a b (7 + 6 * a + j) = sz j * R (7 + 6 * a + j) + sz j * R (7 + 6 * b + j)
    rw [rAdd_s (by omega), Int.mul_add])
theorem pkL_add {f g : Int → Int} : pkL (fun s => f s + g s) = pkL f + pkL g := by unfold pkL; simp only []; omega
theorem rAdd_ok {c : Int} {K : Nat} {sz R : Int → Int} {a b : Nat} (hc : c ≤ 99) (hK : K ≤ 6) (hz : ∀ t : Nat, t < K → 1 ≤ sz t) (h : rowOK c K sz R) (ha : (a : Int) < R 6) (hb : (b : Int) < R 6) (hw : wtR K sz R a + wtR K sz R b ≤ c) : rowOK c K sz (rAdd R a b) := by
  obtain ⟨g1, g2, g3, g4, g5⟩ := h
  have lo : ∀ i : Int, i < 7 → rAdd R a b i = R i := fun i hi => rAdd_n (by omega)
  refine ⟨fun s hs => by rw [lo s (by omega)]; exact g1 s hs, by rw [sg_congr (g := R) (fun j hj => lo j (by omega))]; exact g2, by rw [lo 6 (by omega)]; exact g3, fun b' s hb' hs => ?_, fun b' hb' => ?_⟩
  · rw [lo 6 (by omega)]
    by_cases e : b' = a
    · subst e
      have u1 := g4 b' s hb' hs
      have u2 := g4 b s (by omega) hs
      rw [rAdd_s hs]
      refine ⟨by omega, ?_, fun z => by rw [u1.2.2.1 z, u2.2.2.1 z]; omega, fun z => by omega⟩
      by_cases hk : K ≤ s
      · rw [u1.2.2.1 hk, u2.2.2.1 hk]; omega
      · have nn : ∀ j : Nat, j < K → 0 ≤ sz j * rAdd R b' b (7 + 6 * b' + j) := fun j hj => Int.mul_nonneg (by have := hz j hj; omega) (by rw [rAdd_s (by omega)]; have := g4 b' j hb' (by omega); have := g4 b j (by omega) (by omega); omega)
        have t1 := sg_term (f := fun j => sz j * rAdd R b' b (7 + 6 * b' + j)) (n := K) nn s (by omega)
        have t2 : sz s * rAdd R b' b (7 + 6 * b' + s) ≤ wtR K sz (rAdd R b' b) b' := t1
        rw [rAdd_wt hK, rAdd_s hs] at t2
        have t3 : 1 * (R (7 + 6 * b' + s) + R (7 + 6 * b + s)) ≤ sz s * (R (7 + 6 * b' + s) + R (7 + 6 * b + s)) := Int.mul_le_mul_of_nonneg_right (hz s (by omega)) (by omega)
        omega
    · rw [rAdd_n (by omega)]; exact g4 b' s hb' hs
  · by_cases e : b' = a
    · subst e
      have : wtR K sz (rAdd R b' b) b' ≤ c := by rw [rAdd_wt hK]; exact hw
      exact this
    · rw [sg_congr (f := fun s => sz s * rAdd R a b (7 + 6 * b' + s)) (g := fun s => sz s * R (7 + 6 * b' + s)) (fun j hj => by show sz j * rAdd R a b _ = sz j * R _; rw [rAdd_n (by omega)])]
      exact g5 b' hb'
def okJoin (c : Int) (K : Nat) (M : mM) (a b : Int) : Prop := (0 ≤ a ∧ a < M 113 6) ∧ (0 ≤ b ∧ b < M 113 6) ∧ a ≠ b ∧ wtB K M a + wtB K M b ≤ c
def rJn (M : mM) (a b : Int) : Int → Int := rDrop (rAdd (M 113) a b) b
theorem rJn_add {c : Int} {K : Nat} {N : Int} {M : mM} {a b : Nat} (hS : St c K N M) (h : okJoin c K M a b) : rowOK c K (M 9) (rAdd (M 113) a b) := rAdd_ok hS.1.1.2 hS.1.2.1 (fun t ht => (hS.sz ht).2.1) hS.row.2 h.1.2 h.2.1.2 h.2.2.2
theorem rJn_ok {c : Int} {K : Nat} {N : Int} {M : mM} {a b : Nat} (hS : St c K N M) (h : okJoin c K M a b) : rowOK c K (M 9) (rJn M a b) := rDrop_ok hS.1.1.1 hS.1.2.1 (rJn_add hS h) (by rw [rAdd_n (by omega)]; exact h.2.1.2)
theorem xa_join {d k : Nat} {c : Int} {K : Nat} {N : Int} {M : mM} {Q : mRes → mM → Prop} {a b : Int} (hS : St c K N M) (hN : N ≤ 100000)
    (h1 : okJoin c K M a b → ∀ M1, XA M M1 (rJn M a b) → Q (.inl (some (mI (c - wtB K M a - wtB K M b)))) M1) (h0 : ¬ okJoin c K M a b → Q (.inl (some (mI (-1)))) (rfX M)) : V (d + 60) k qX9_join 0 [mR 17 15 0, mI a, mI b, mE 0] [] M Q := by
  have hL := hS.1
  have hK6 := hL.2.1
  have h13 := hS.b13
  have hrow := hS.row
  have hcl := hS.cl
  have hc := hL.1
  have no : ∀ u, ¬ okJoin c K M a b → V (d + 60) k qX9_join 51 [mR 17 15 0, mI a, mI b, u] [] M Q := fun u h => B_X9_join_51 (c_X9_refuse hS hN (B_X9_join_55 (h0 h)))
  refine B_X9_join_0 (c_X7_isBin (Or.inl rfl) (by show 0 ≤ M 17 13 ∧ M 17 13 ≤ 12; omega) (fun r hr => ?_))
  by_cases a1 : 0 ≤ a ∧ a < M (16 + 1) 13
  · rw [if_pos a1] at hr
    subst hr
    have a1' : 0 ≤ a ∧ a < M 113 6 := by rw [← h13.1]; exact a1
    refine B_X9_join_8 ⟨fun z => by omega, fun _ => c_X7_isBin (Or.inl rfl) (by show 0 ≤ M 17 13 ∧ M 17 13 ≤ 12; omega) (fun r hr => ?_)⟩
    by_cases a2 : 0 ≤ b ∧ b < M (16 + 1) 13
    · rw [if_pos a2] at hr
      subst hr
      have a2' : 0 ≤ b ∧ b < M 113 6 := by rw [← h13.1]; exact a2
      obtain ⟨an, rfl⟩ : ∃ n : Nat, a = n := ⟨a.toNat, by omega⟩
      obtain ⟨bn, rfl⟩ : ∃ n : Nat, b = n := ⟨b.toNat, by omega⟩
      have wa := (hS.bin (b := an) (by omega)).2.2.2
      have wb := (hS.bin (b := bn) (by omega)).2.2.2
      have ewb : wtR K (M 9) (M 113) bn = wtB K M bn := rfl
      refine B_X9_join_19 ⟨fun z => by omega, fun _ => ⟨fun a3 => no _ (fun z => z.2.2.1 a3), fun a3 => c_X9_freeIn hS a1' (B_X9_join_32 ⟨by omega, c_X9_wtR hcl (by omega) ?_⟩)⟩⟩
      rw [ewb]
      refine B_X9_join_48 ⟨fun a4 => ?_, fun a4 => no _ (fun z => by have := z.2.2.2; omega)⟩
      have hok : okJoin c K M an bn := ⟨a1', a2', a3, by omega⟩
      refine c_X9_freeIn hS a1' (B_X9_join_61 ⟨by omega, c_X9_wtR hcl (by omega) ?_⟩)
      rw [ewb]
      have hA := hS.A
      refine B_X9_join_77 ⟨by omega, c_X7_remember (by omega) (fun M1 p1 p2 p3 p4 => ?_)⟩
      have e17 : M1 17 = M 17 := p1 17 (by decide) (by decide)
      have hpk := hcl.pk
      have pa := hpk.1 an (by omega)
      have pb := hpk.1 bn (by omega)
      have Bk := B_X9_join_86 (d := d + 59) (k := k) (M := M1) (Q := Q) (x1 := an) (x2 := bn) (x3 := c - wtB K M an - wtB K M bn)
      rw [e17] at Bk
      have hadd := rJn_add hS hok
      have st2 : stk 17 (mUp M1 17 an (M 17 an + M 17 bn)) (rAdd (M 113) an bn) := by
        refine ⟨?_, ?_, fun b' hb' => ?_⟩
        · rw [up_fld (by omega), e17, hrow.1.1]
          exact pkL_congr (fun s hs => (rAdd_n (by omega)).symm)
        · rw [up_fld (by omega), e17, rAdd_n (by omega)]; exact hrow.1.2.1
        · by_cases e : b' = an
          · subst e
            rw [up_s, hrow.1.2.2 b' hb', hrow.1.2.2 bn (by omega), ← pkL_add]
            exact pkL_congr (fun s hs => (rAdd_s hs).symm)
          · rw [up_fld (by omega), e17, hrow.1.2.2 b' hb']
            exact pkL_congr (fun s hs => (rAdd_n (by omega)).symm)
      have e6 : rAdd (M 113) an bn 6 = M 113 6 := rAdd_n (by omega)
      refine Bk ⟨by omega, by omega, by omega, by omega, c_X7_dropBin st2 hadd.2.2.1 (by omega) (fun M3 u1 u2 => B_X9_join_115 ?_)⟩
      exact h1 hok M3 (XA.of p1 p2 p3 p4 (fun n z _ => by rw [u1 n z, up_row z]) u2)
    · rw [if_neg a2] at hr
      subst hr
      exact B_X9_join_19 ⟨fun _ => no _ (fun z => a2 (by show 0 ≤ b ∧ b < M 17 13; rw [h13.1]; exact z.2.1)), fun z => (z rfl).elim⟩
  · rw [if_neg a1] at hr
    subst hr
    exact B_X9_join_8 ⟨fun _ => no _ (fun z => a1 (by show 0 ≤ a ∧ a < M 17 13; rw [h13.1]; exact z.1)), fun z => (z rfl).elim⟩
theorem ma_join {d k : Nat} {c : Int} {K : Nat} {N : Int} {M : mM} {Q : mRes → mM → Prop} {a b : Int} (hS : St c K N M) (hN : N ≤ 100000) {M1 : mM} (hX : (okJoin c K M a b ∧ XA M M1 (rJn M a b)) ∨ (¬ okJoin c K M a b ∧ M1 = rfX M))
    (h1 : okJoin c K M a b → ∀ M2, St c K N M2 → Q (.inl (some (mI (c - wtB K M a - wtB K M b)))) M2) (h0 : ¬ okJoin c K M a b → ∀ M2, St c K (N + 1) M2 → Q (.inl (some (mI (-1)))) M2) : V (d + 60) k qX10_join 0 [mR 18 58 112, mI a, mI b, mE 0, mE 0] [] M1 Q := by
  have hL := hS.1
  have hK6 := hL.2.1
  have h13 := hS.b13
  have hc := hL.1
  have hA := hS.A
  have he : M1 112 = M 112 ∧ M1 113 = M 113 ∧ M1 114 = M 114 ∧ M1 117 = M 117 := by
    rcases hX with ⟨_, z⟩ | ⟨_, z⟩
    · exact z.e
    · rw [z]; exact rfX.e
  have md := (hS.md he.1 he.2.1 he.2.2.1).up5 (v := 0)
  have kp0 : kpM M1 (mUp M1 112 5 0) := kpM.rf.fl (by simp)
  have Bk := B_X10_join_0 (d := d + 59) (k := k) (M := M1) (Q := Q) (x1 := a) (x2 := b)
  generalize hM0 : mUp M1 112 5 0 = M0 at *
  have f113 : M0 113 = M 113 := by rw [← hM0, up_row (by decide)]; exact he.2.1
  have f114 : M0 114 = M 114 := by rw [← hM0, up_row (by decide)]; exact he.2.2.1
  have f112 : ∀ i : Int, i ≠ 5 → M0 112 i = M 112 i := fun i hi => by rw [← hM0, up_fld hi, he.1]
  have no : ∀ u v, ¬ okJoin c K M a b → V (d + 60) k qX10_join 56 [mR 18 58 112, mI a, mI b, u, v] [] M0 Q := fun u v hn => by
    have e1 : M1 = rfX M := by
      rcases hX with ⟨z, _⟩ | ⟨_, z⟩
      · exact (hn z).elim
      · exact z
    exact B_X10_join_56 (m_refuse hS hN (by rw [← e1]; exact kp0) (fun M2 h => B_X10_join_61 (h0 hn M2 h)))
  refine Bk (c_X10_bins (fun x hx => B_X10_join_11 ⟨by rw [hx, f113]; omega, c_X10_within (fun y hy => ?_)⟩))
  rw [f113] at hx
  subst hx
  by_cases a1 : 0 ≤ a ∧ a ≤ M 113 6 - 1
  · rw [if_pos a1] at hy
    subst hy
    refine B_X10_join_16 ⟨fun z => by omega, fun _ => c_X10_bins (fun x hx => B_X10_join_25 ⟨by rw [hx, f113]; omega, c_X10_within (fun y hy => ?_)⟩)⟩
    rw [f113] at hx
    subst hx
    by_cases a2 : 0 ≤ b ∧ b ≤ M 113 6 - 1
    · rw [if_pos a2] at hy
      subst hy
      obtain ⟨an, rfl⟩ : ∃ n : Nat, a = n := ⟨a.toNat, by omega⟩
      obtain ⟨bn, rfl⟩ : ∃ n : Nat, b = n := ⟨b.toNat, by omega⟩
      have wa := (hS.bin (b := an) (by omega)).2.2.2
      have wb := (hS.bin (b := bn) (by omega)).2.2.2
      have ew : ∀ x : Int, wtR K (M 114) (M 113) x = wtB K M x := fun x => wtR_sz (fun t ht => (hS.sz ht).1)
      refine B_X10_join_30 ⟨fun z => by omega, fun _ => ⟨fun a3 => no _ _ (fun z => z.2.2.1 a3), fun a3 => c_X10_wtM md (by omega) ?_⟩⟩
      rw [f114, ew]
      refine B_X10_join_43 (c_X10_wtM md (by omega) ?_)
      rw [f114, ew]
      have Bk := B_X10_join_48 (d := d + 59) (k := k) (M := M0) (Q := Q) (x1 := an) (x2 := bn) (sx0 := wtB K M bn) (sx1 := wtB K M an) (u3 := mE 0) (u4 := mE 0)
      rw [f112 6 (by decide), hL.2.2.2.1] at Bk
      refine Bk ⟨by omega, fun a4 => ?_, fun a4 => no _ _ (fun z => by have := z.2.2.2; omega)⟩
      have hok : okJoin c K M an bn := ⟨by omega, by omega, a3, a4⟩
      have hXA : XA M M1 (rJn M an bn) := by
        rcases hX with ⟨_, z⟩ | ⟨z, _⟩
        · exact z
        · exact (z hok).elim
      refine c_X10_keeps (by rw [f112 8 (by decide)]; omega) (by rw [f112 9 (by decide)]; omega) (fun M3 p1 p2 p3 p4 => ?_)
      rw [f113] at p1
      have hR4 : rowOK c K (M0 114) (M 113) := by rw [f114]; exact hS.row.2.sz (fun t ht => (hS.sz ht).1)
      have md3 := p1.md md hR4
      have f3 : M3 114 = M 114 := by rw [p3 114 (by decide) (by decide)]; exact f114
      have f36 : M3 112 6 = c := by rw [p4 6 (by decide) (by decide), f112 6 (by decide)]; exact hL.2.2.2.1
      have Bk := B_X10_join_66 (d := d + 59) (k := k) (M := M3) (Q := Q) (x1 := an) (x2 := bn) (u3 := mE 0) (u4 := mE 0)
      rw [f36] at Bk
      refine Bk (c_X10_wtM md3 (by omega) ?_)
      rw [f3, ew]
      refine B_X10_join_75 ⟨by omega, c_X10_wtM md3 (by omega) ?_⟩
      rw [f3, ew]
      refine B_X10_join_81 ⟨by omega, ?_⟩
      have loop : ∀ (r j : Nat) (M4 : mM), j + r = 6 → MA M0 M4 (fun i => if 7 + 6 * (an : Int) ≤ i ∧ i < 7 + 6 * (an : Int) + j then M 113 i + M 113 (i - 6 * an + 6 * bn) else M 113 i) → V (d + 60) k qX10_join 86 [mR 18 58 112, mI an, mI bn, mI (c - wtB K M an - wtB K M bn), mI j] [] M4 Q := by
        intro r
        induction r with
        | zero =>
          intro j M4 hj g1
          have e : j = 6 := by omega
          subst e
          have g2 : MA M0 M4 (rAdd (M 113) an bn) := g1.cg (fun i _ _ => by
            unfold rAdd
            by_cases z : 7 + 6 * (an : Int) ≤ i ∧ i < 13 + 6 * (an : Int)
            · rw [if_pos z, if_pos (by omega)]
            · rw [if_neg z, if_neg (by omega)])
          refine B_X10_join_86 ⟨fun _ => c_X10_dropsBin g2.2.2.2.2.1 (rJn_add hS hok) (by rw [rAdd_n (by omega)]; omega) (fun M5 u1 u2 u3 => B_X10_join_131 ?_), fun z => by omega⟩
          exact h1 hok _ (act_St hS hXA ((g2.row u1 u2 u3).kp kp0) (rJn_ok hS hok))
        | succ r ih =>
          intro j M4 hj g1
          have ha := g1.2.2.2.2.1 (7 + 6 * (an : Int) + j) (by omega) (by omega)
          have hb := g1.2.2.2.2.1 (7 + 6 * (bn : Int) + j) (by omega) (by omega)
          have ha : M4 113 (7 + 6 * (an : Int) + j) = M 113 (7 + 6 * (an : Int) + j) := ha.trans (if_neg (by omega))
          have hb : M4 113 (7 + 6 * (bn : Int) + j) = M 113 (7 + 6 * (bn : Int) + j) := hb.trans (if_neg (by omega))
          have ra := (hS.bin (b := an) (by omega)).2.2.1 j (by omega)
          have rb := (hS.bin (b := bn) (by omega)).2.2.1 j (by omega)
          refine B_X10_join_86 ⟨fun z => by omega, fun _ => c_X10_binAt (by omega) (fun x hx => ?_)⟩
          subst hx
          refine B_X10_join_101 ⟨by omega, by omega, c_X10_binAt (by omega) (fun x hx => ?_)⟩
          subst hx
          rw [ha]
          have Bk := B_X10_join_114 (d := d + 59) (k := k) (M := M4) (Q := Q) (x1 := an) (x2 := bn) (x3 := c - wtB K M an - wtB K M bn) (x4 := j) (sx0 := 7 + 6 * bn) (sx2 := M 113 (7 + 6 * (an : Int) + j)) (sx3 := 7 + 6 * (an : Int) + j)
          rw [hb] at Bk
          refine Bk ⟨by omega, by omega, by omega, by omega, by omega, ih (j + 1) _ (by omega) ?_⟩
          refine (g1.up (i := 7 + 6 * (an : Int) + j) (v := M 113 (7 + 6 * (an : Int) + j) + M 113 (7 + 6 * (bn : Int) + j)) (by omega)).cg (fun i z1 z2 => ?_)
          by_cases e : i = 7 + 6 * (an : Int) + j
          · rw [e, fset_s, if_pos (by omega), show 7 + 6 * (an : Int) + j - 6 * an + 6 * bn = 7 + 6 * (bn : Int) + j by omega]
          · rw [fset_n e]
            by_cases z : 7 + 6 * (an : Int) ≤ i ∧ i < 7 + 6 * (an : Int) + j
            · rw [if_pos z, if_pos (by omega)]
            · rw [if_neg z, if_neg (by omega)]
      exact loop 6 0 M3 (by omega) (p1.cg (fun i _ _ => by rw [if_neg (by omega)]))
    · rw [if_neg a2] at hy
      subst hy
      exact B_X10_join_30 ⟨fun _ => no _ _ (fun z => a2 (by have := z.2.1; omega)), fun z => (z rfl).elim⟩
  · rw [if_neg a1] at hy
    subst hy
    exact B_X10_join_16 ⟨fun _ => no _ _ (fun z => a1 (by have := z.1; omega)), fun z => (z rfl).elim⟩
