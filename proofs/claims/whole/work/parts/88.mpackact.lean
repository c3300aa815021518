/-! acts: pack, the model -/
theorem mdX.kp {c : Int} {K : Nat} {M M' : mM} {R : Int → Int} (h : mdX c K M R) (k : kpM M M') : mdX c K M' R := by
  unfold mdX at *
  rw [k.2 6 (by simp), k.2 7 (by simp), k.1 114 (by omega) (by omega), k.1 113 (by omega) (by omega)]; exact h
theorem frM.k123 {M M' : mM} (h : frM [121, 122, 123] [33] M M') : kpM M M' := kpM.of h (fun n hn => by simp at hn; omega) (fun i hi => by simp at hi ⊢; omega)
theorem c_X10_laysFree {d k : Nat} {c : Int} {K : Nat} {M : mM} {R : Int → Int} {Q : mRes → mM → Prop} {n : Nat} (h : mdX c K M R) (hn : R 6 = n) (hQ : ∀ M', kpM M M' → M' 112 38 = n → (∀ b : Nat, b < n → M' 126 b = c - wtR K (M 114) R b) → Q (.inl none) M') : V (d + 2) k qX10_laysFree 0 [mR 18 58 112, mE 0] [] M Q := by
  have k0 : kpM M (mUp M 112 33 (M 112 6)) := kpM.rf.fl (by simp)
  have h6 := h.2.2.2.2.2.2.2.2.1
  have e6 := h.2.2.2.2.2.1 6 (by omega) (by omega)
  have hc := h.1
  refine B_X10_laysFree_0 (c_X10_bins (fun r hr => B_X10_laysFree_13 ?_))
  rw [up_row (by decide), e6, hn] at hr
  subst hr
  have loop : ∀ (r j : Nat) (M' : mM), j + r = n → kpM M M' → M' 112 38 = n → (∀ b : Nat, b < j → M' 126 b = c - wtR K (M 114) R b) → V (d + 2) k qX10_laysFree 18 [mR 18 58 112, mI j] [] M' Q := by
    intro r
    induction r with
    | zero =>
      intro j M' hj g1 g2 g3
      have Bk := B_X10_laysFree_18 (d := d + 1) (k := k) (M := M') (Q := Q) (x1 := j)
      rw [g2] at Bk
      exact Bk ⟨fun _ => hQ M' g1 g2 (fun b hb => g3 b (by omega)), fun z => by omega⟩
    | succ r ih =>
      intro j M' hj g1 g2 g3
      have md := h.kp g1
      have Bk := B_X10_laysFree_18 (d := d + 1) (k := k) (M := M') (Q := Q) (x1 := j)
      rw [g2, md.2.2.1] at Bk
      have e114 : M' 114 = M 114 := g1.1 114 (by omega) (by omega)
      have hw : wtR K (M 114) R j ≤ c := h.2.2.2.2.2.2.2.2.2.2 j (by omega)
      have hw0 : 0 ≤ wtR K (M 114) R j := by
        have : ∀ m : Nat, m ≤ K → 0 ≤ sg (fun s => M 114 s * R (7 + 6 * j + s)) m := fun m => by
          induction m with
          | zero => intro _; exact Int.le_refl _
          | succ m ihm =>
            intro hm
            have a1 := ihm (by omega)
            have a2 := h.2.2.2.2.1 m (by omega)
            have a3 := h.2.2.2.2.2.2.2.2.2.1 j m (by omega) (by have := h.2.1; omega)
            have a4 := Int.mul_nonneg (show 0 ≤ M 114 m by omega) a3.1
            show 0 ≤ sg (fun s => M 114 s * R (7 + 6 * j + s)) m + M 114 m * R (7 + 6 * j + m)
            omega
        exact this K (Nat.le_refl _)
      refine Bk ⟨fun z => by omega, fun _ => c_X10_wtM md (by omega) ?_⟩
      rw [e114]
      refine B_X10_laysFree_40 ⟨by omega, by omega, by omega, ih (j + 1) _ (by omega) ⟨fun m a b => by rw [up_row (by omega)]; exact g1.1 m a b, fun i hi => by rw [up_row (by decide)]; exact g1.2 i hi⟩ (by rw [up_row (by decide)]; exact g2) (fun b hb => ?_)⟩
      by_cases e : b = j
      · subst e; rw [up_s]
      · rw [up_fld (by omega)]; exact g3 b (by omega)
  exact loop n 0 _ (by omega) (k0.fl (by simp)) up_s (fun b hb => by omega)
theorem ma_pack {d k : Nat} {c : Int} {K : Nat} {N : Int} {M : mM} {Q : mRes → mM → Prop} {s w : Int} (hS : St c K N M) (hN : N ≤ 100000) {M1 : mM} (hX : (okPk c K M s w ∧ XA M M1 (rPk c K M s w)) ∨ (¬ okPk c K M s w ∧ ∃ Ma, kpX M Ma ∧ M1 = rfX Ma))
    (h1 : okPk c K M s w → ∀ M2, St c K N M2 → Q (.inl (some (mI (pkBn c K M s w)))) M2) (h0 : ¬ okPk c K M s w → ∀ M2, St c K (N + 1) M2 → Q (.inl (some (mI (-1)))) M2) : V (d + 60) k qX10_pack 0 [mR 18 58 112, mI s, mI w, mE 0, mE 0] [] M1 Q := by
  have hL := hS.1
  have hK6 := hL.2.1
  have h13 := hS.b13
  have hc := hL.1
  have hA := hS.A
  have hrow := hS.row
  have he : M1 112 = M 112 ∧ M1 113 = M 113 ∧ M1 114 = M 114 ∧ M1 117 = M 117 := by
    rcases hX with ⟨_, z⟩ | ⟨_, Ma, y, z⟩
    · exact z.e
    · rw [z]
      have := rfX.e (M := Ma)
      rw [y 112 (by omega), y 113 (by omega), y 114 (by omega), y 117 (by omega)] at this
      exact this
  have md := (hS.md he.1 he.2.1 he.2.2.1).up5 (v := 0)
  have kp0 : kpM M1 (mUp M1 112 5 0) := kpM.rf.fl (by simp)
  have Bk := B_X10_pack_0 (d := d + 59) (k := k) (M := M1) (Q := Q) (x1 := s) (x2 := w)
  rw [he.1, hL.2.2.2.2.2.1] at Bk
  generalize hM0 : mUp M1 112 5 0 = M0 at *
  have f113 : M0 113 = M 113 := by rw [← hM0, up_row (by decide)]; exact he.2.1
  have f114 : M0 114 = M 114 := by rw [← hM0, up_row (by decide)]; exact he.2.2.1
  have f112 : ∀ i : Int, i ≠ 5 → M0 112 i = M 112 i := fun i hi => by rw [← hM0, up_fld hi, he.1]
  have ref : ¬ okPk c K M s w → ∀ (M5 : mM) (P : mRes → mM → Prop), kpM M0 M5 → (∀ M2, St c K (N + 1) M2 → P (.inl (some (mI (-1)))) M2) → V (d + 59) 0 qX10_refuses 0 [mR 18 58 112, mI 1] [] M5 P := fun hn M5 P k5 hP => by
    rcases hX with ⟨z, _⟩ | ⟨_, Ma, y, z⟩
    · exact (hn z).elim
    · rw [z] at kp0
      exact m_refuse (hS.kx y) hN (kp0.tr k5) hP
  have no : ∀ u v, ¬ okPk c K M s w → V (d + 60) k qX10_pack 37 [mR 18 58 112, mI s, mI w, u, v] [] M0 Q := fun u v hn => B_X10_pack_37 (ref hn M0 _ kpM.rf (fun M2 h => B_X10_pack_42 (h0 hn M2 h)))
  refine Bk ⟨by omega, c_X10_within (fun x hx => ?_)⟩
  by_cases a1 : 0 ≤ s ∧ s ≤ (K : Int) - 1
  · rw [if_pos a1] at hx
    subst hx
    refine B_X10_pack_16 ⟨fun z => by omega, fun _ => c_X10_within (fun y hy => ?_)⟩
    by_cases a2 : 0 ≤ w ∧ w ≤ 3
    · rw [if_pos a2] at hy
      subst hy
      obtain ⟨sn, rfl⟩ : ∃ n : Nat, s = n := ⟨s.toNat, by omega⟩
      obtain ⟨n, hn⟩ : ∃ n : Nat, M 113 6 = n := ⟨(M 113 6).toNat, by omega⟩
      have hm := hS.mn sn (by omega)
      have hz := hS.sz (s := sn) (by omega)
      have Bk := B_X10_pack_25 (d := d + 59) (k := k) (M := M0) (Q := Q) (x1 := sn) (x2 := w) (sx0 := 1) (u3 := mE 0) (u4 := mE 0)
      rw [f113] at Bk
      refine Bk ⟨fun z => by omega, fun _ => ⟨by omega, fun a3 => ?_, fun a3 => no _ _ (fun z => by have := z.2.2.1; omega)⟩⟩
      refine c_X10_looks (K := K) (by rw [f112 7 (by decide)]; exact hL.2.2.2.2.2.1) hK6 (fun t h1 h2 => by rw [f113]; exact (hrow.2.1 t h2).2.2 h1) (fun M3 q1 _ => B_X10_pack_47 (c_X10_laysFree (md.kp q1.k123) hn (fun M4 q2 q3 q4 => ?_)))
      have k4 : kpM M0 M4 := q1.k123.tr q2
      have md4 := md.kp k4
      have g113 : M4 113 = M 113 := by rw [k4.1 113 (by omega) (by omega)]; exact f113
      have g114 : M4 114 = M 114 := by rw [k4.1 114 (by omega) (by omega)]; exact f114
      have e3 : M3 114 = M 114 := by rw [q1.k123.1 114 (by omega) (by omega)]; exact f114
      have Bk := B_X10_pack_51 (d := d + 59) (k := k) (M := M4) (Q := Q) (x1 := sn) (x2 := w) (u3 := mE 0) (u4 := mE 0)
      rw [g114, hz.1] at Bk
      refine Bk ⟨by omega, c_X10_fitting (c := c) (n := n) (f := wtB K M) q3 (by omega) (fun b hb => by rw [q4 b hb, e3]; have : wtR K (M 114) (M 113) b = wtB K M b := wtR_sz (fun t ht => (hS.sz ht).1); omega) a2 (fun r hr => ?_)⟩
      have er : r = pkCh c K M sn w := by rw [hr]; unfold pkCh; rw [hn, show ((n : Int)).toNat = n by omega]
      subst er
      clear hr
      have hbd := chF_bd (f := wtB K M) (most := c - M 9 sn) (way := w) (n := (M 113 6).toNat)
      have en : chF (wtB K M) (c - M 9 sn) w (M 113 6).toNat = pkCh c K M sn w := rfl
      rw [en] at hbd
      have go : okPk c K M sn w → ∀ u4, V (d + 60) k qX10_pack 83 [mR 18 58 112, mI sn, mI w, mI (pkCh c K M sn w), u4] [] M4 Q := fun hok u4 => by
        have hXA : XA M M1 (rPk c K M sn w) := by
          rcases hX with ⟨_, z⟩ | ⟨z, _⟩
          · exact z
          · exact (z hok).elim
        obtain ⟨o1, o2, o3⟩ := pk_all hS hok
        have g8 : M4 112 8 = M 112 8 := by rw [k4.2 8 (by simp)]; exact f112 8 (by decide)
        have g9 : M4 112 9 = M 112 9 := by rw [k4.2 9 (by simp)]; exact f112 9 (by decide)
        refine B_X10_pack_83 (c_X10_keeps (by omega) (by omega) (fun M5 p1 p2 p3 p4 => ?_))
        rw [g113] at p1
        have fin : ∀ (M6 : mM) u, MA M4 M6 (pkR0 c K M sn w) → V (d + 60) k qX10_pack 137 [mR 18 58 112, mI sn, mI w, mI (pkBn c K M sn w), u] [] M6 Q := fun M6 u v => by
          obtain ⟨b, hb⟩ : ∃ b : Nat, pkBn c K M sn w = b := ⟨(pkBn c K M sn w).toNat, by omega⟩
          have h1' := h1 hok
          have er : rPk c K M sn w = rMv (pkR0 c K M sn w) sn (pkBn c K M sn w) 1 := rfl
          rw [hb] at o2 h1' er ⊢
          generalize hR0 : pkR0 c K M sn w = R0 at *
          have g : ∀ i : Int, 0 ≤ i → i < 79 → M6 113 i = R0 i := v.2.2.2.2.1
          refine B_X10_pack_137 (c_X10_binAt (by omega) (fun r hr => ?_))
          subst hr
          have e1 := g (7 + 6 * (b : Int) + sn) (by omega) (by omega)
          have e2 : mUp M6 113 (7 + 6 * (b : Int) + sn) (R0 (7 + 6 * (b : Int) + sn) + 1) 113 sn = R0 sn := by rw [up_fld (by omega)]; exact g sn (by omega) (by omega)
          have b1 := o1.2.2.2.1 b sn (by omega) (by omega)
          have b2 := o1.1 sn (by omega)
          have Bk := B_X10_pack_145 (d := d + 59) (k := k) (M := M6) (Q := Q) (x1 := sn) (x2 := w) (x3 := b) (u4 := u) (sx0 := 7 + 6 * b)
          rw [e1, e2] at Bk
          have hma : MA M4 (mUp (mUp M6 113 (7 + 6 * (b : Int) + sn) (R0 (7 + 6 * (b : Int) + sn) + 1)) 113 sn (R0 sn - 1)) (rMv R0 sn b 1) := (v.up (i := 7 + 6 * (b : Int) + sn) (v := R0 (7 + 6 * (b : Int) + sn) + 1) (by omega)).up (i := sn) (v := R0 sn - 1) (by omega)
          rw [er] at hXA o3
          exact Bk ⟨by omega, by omega, by omega, by omega, by omega, by omega, by omega, h1' _ (act_St hS hXA ((hma.kp k4).kp kp0) o3)⟩
        refine B_X10_pack_87 ⟨fun z => ?_, fun z => c_X10_bins (fun r hr => B_X10_pack_96 ?_)⟩
        · have f := fin M5 u4 (by unfold pkR0; rw [if_neg z]; exact p1)
          have eb : pkBn c K M sn w = pkCh c K M sn w := if_neg z
          rw [eb] at f; exact f
        · have e6 : M5 113 6 = n := (p1.2.2.2.2.1 6 (by omega) (by omega)).trans hn
          rw [e6] at hr
          subst hr
          have eb : pkBn c K M sn w = n := (if_pos z).trans hn
          have h12 : M 113 6 < 12 := by
            have := hok.2.2.2
            have : ¬ M 113 6 = 12 := fun y => this ⟨z, y⟩
            omega
          have loop : ∀ (r j : Nat) (M6 : mM), j + r = 6 → MA M4 M6 (M 113) → V (d + 60) k qX10_pack 100 [mR 18 58 112, mI sn, mI w, mI n, mI j] [] M6 Q := by
            intro r
            induction r with
            | zero =>
              intro j M6 hj v
              have e6 : M6 113 6 = n := (v.2.2.2.2.1 6 (by omega) (by omega)).trans hn
              have Bk := B_X10_pack_100 (d := d + 59) (k := k) (M := M6) (Q := Q) (x1 := sn) (x2 := w) (x3 := n) (x4 := j)
              rw [e6] at Bk
              refine Bk ⟨fun _ => ⟨by omega, ?_⟩, fun y => by omega⟩
              have f := fin (mUp M6 113 6 ((n : Int) + 1)) (mI j) (by
                unfold pkR0; rw [if_pos z, hn]
                exact v.up (i := 6) (v := (n : Int) + 1) (by omega))
              rw [eb] at f; exact f
            | succ r ih =>
              intro j M6 hj v
              refine B_X10_pack_100 ⟨fun y => by omega, fun _ => c_X10_binAt (by omega) (fun y hy => ?_)⟩
              subst hy
              refine B_X10_pack_115 ⟨by omega, by omega, by omega, ih (j + 1) _ (by omega) ((v.up (i := 7 + 6 * (n : Int) + j) (v := 0) (by omega)).cg (fun i _ _ => ?_))⟩
              by_cases e : i = 7 + 6 * (n : Int) + j
              · rw [e, fset_s]; exact (hrow.2.2.2.2.1 n j (by omega) (by omega)).2.2.2 (by omega)
              · rw [fset_n e]
          exact loop 6 0 M5 (by omega) p1
      refine B_X10_pack_62 ⟨fun z => go ⟨by omega, a2, by omega, fun y => z y.1⟩ _, fun z => c_X10_bins (fun r hr => ?_)⟩
      rw [g113] at hr
      subst hr
      refine B_X10_pack_72 ⟨fun y => go ⟨by omega, a2, by omega, fun x => y x.2⟩ _, fun y => ?_⟩
      have hno : ¬ okPk c K M sn w := fun x => x.2.2.2 ⟨z, y⟩
      exact ref hno M4 _ k4 (fun M2 h => B_X10_pack_82 (h0 hno M2 h))
    · rw [if_neg a2] at hy
      subst hy
      exact B_X10_pack_25 ⟨fun _ => no _ _ (fun z => a2 z.2.1), fun z => (z rfl).elim⟩
  · rw [if_neg a1] at hx
    subst hx
    exact B_X10_pack_16 ⟨fun _ => no _ _ (fun z => a1 (by have := z.1; omega)), fun z => (z rfl).elim⟩
