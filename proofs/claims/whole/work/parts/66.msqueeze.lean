/-! the model's net: squeezed paths -/
set_option maxHeartbeats 2000000 in
theorem c_X10_squeezedPaths {d k : Nat} {M : mM} {Q : mRes → mM → Prop} {c : Int} {K : Nat} {sz mn od : Int → Int} (hc0 : M 112 33 = c) (h122 : M 122 = sz) (h121 : M 121 = mn) (hG : GLok c K sz mn od) (hc1 : 1 ≤ c) (hN : netM c (lyL od mn K 0) (nzL sz mn (lyL od mn K 0)) M)
    (hQ : ∀ M', frN [134] M M' → Q (.inl (some (mI (cn (nzL sz mn (lyL od mn K 0)) c)))) M') : V (d + 2) k qX10_squeezedPaths 0 [mR 18 58 112, mE 0, mE 0, mE 0, mE 0] [] M Q := by
  have hK6 := hG.2.1
  have hc := hG.1
  have hL := lyL_len (od := od) (mn := mn) (r := K) (i := 0)
  have hz := nz_ok hG hc1
  have hnl := nz_len (sz := sz) (mn := mn) (L := lyL od mn K 0)
  have hat := fun l (hl : l < (lyL od mn K 0).length) => ly_at (sz := sz) hG hc1 hl
  have hcn : cn (nzL sz mn (lyL od mn K 0)) c < 100000 := by
    have e := (ly_cn (sz := sz) (mn := mn) (od := od) (r := K) (i := 0) (f := c) (fun j _ h2 => ⟨hG.m (by omega), (hG.z (by omega)).1⟩) (by omega)).1
    rw [e]
    have := hG.plen
    have e2 : cn (lst (zmF (fun j => sz (od j)) (fun j => mn (od j))) K 0) c = ((pats (zl K sz mn od) c).length : Int) := rfl
    omega
  generalize hNZ : nzL sz mn (lyL od mn K 0) = NZ at *
  generalize hLS : lyL od mn K 0 = LS at *
  have keep : ∀ {M' : mM}, frN [134] M M' → netM c LS NZ M' ∧ M' 112 33 = c ∧ M' 122 = sz ∧ M' 121 = mn := fun g => by
    have a := g 112 (by simp)
    have b := g 131 (by simp)
    have e := g 132 (by simp)
    have f := g 133 (by simp)
    exact ⟨⟨by rw [a]; exact hN.1, by rw [b]; exact hN.2.1, by rw [e]; exact hN.2.2.1, by rw [f]; exact hN.2.2.2⟩, by rw [a]; exact hc0, by rw [g 122 (by simp)]; exact h122, by rw [g 121 (by simp)]; exact h121⟩
  have hiB : ∀ (l p : Nat), (p : Int) ≤ c → (p : Int) ≤ hiF c NZ l p ∧ hiF c NZ l p ≤ c := fun l p hp => hiF_bd hz (by omega) hp
  have hs := sq_paths (c := c) (N := c.toNat + 1) hz hc.1 (by omega)
  rw [hnl] at hs
  have sum : ∀ (r p : Nat) (u3 u4 : mV) (M' : mM), p + r = c.toNat + 1 → frN [134] M M' → (∀ q : Nat, q < 100 → M' 134 (100 * (LS.length : Int) + q) = sqL c NZ LS.length q) → V (d + 2) k qX10_squeezedPaths 205 [mR 18 58 112, mI (sg (sqL c NZ LS.length) p), mI p, u3, u4] [] M' Q := by
    intro r
    induction r with
    | zero =>
      intro p u3 u4 M' hp g1 g2
      obtain ⟨kN, k33, _⟩ := keep g1
      have Bk := B_X10_squeezedPaths_205 (d := d + 1) (k := k) (M := M') (Q := Q) (x1 := sg (sqL c NZ LS.length) p) (x2 := p) (u3 := u3) (u4 := u4)
      rw [k33] at Bk
      refine Bk ⟨fun _ => ?_, fun z => by omega⟩
      rw [show p = c.toNat + 1 by omega, hs]; exact hQ M' g1
    | succ r ih =>
      intro p u3 u4 M' hp g1 g2
      obtain ⟨kN, k33, _⟩ := keep g1
      have h1 := sg_le (f := sqL c NZ LS.length) (n := p) (m := c.toNat + 1) (by omega) (fun j _ => sqL_nn _ _)
      have h2 := sg_le (f := sqL c NZ LS.length) (n := p + 1) (m := c.toNat + 1) (by omega) (fun j _ => sqL_nn _ _)
      have h3 := sg_le (f := sqL c NZ LS.length) (n := 0) (m := p) (by omega) (fun j _ => sqL_nn _ _)
      have e3 : sg (sqL c NZ LS.length) (p + 1) = sg (sqL c NZ LS.length) p + sqL c NZ LS.length p := rfl
      have e4 : sg (sqL c NZ LS.length) 0 = 0 := rfl
      have h5 := sqL_nn (c := c) (NZ := NZ) LS.length p
      have Bk := B_X10_squeezedPaths_205 (d := d + 1) (k := k) (M := M') (Q := Q) (x1 := sg (sqL c NZ LS.length) p) (x2 := p) (u3 := u3) (u4 := u4)
      rw [k33, kN.1, g2 p (by omega)] at Bk
      exact Bk ⟨fun z => by omega, fun _ => ⟨by omega, by omega, by omega, by omega, by omega, ih (p + 1) u3 u4 M' (by omega) g1 g2⟩⟩
  have layer : ∀ (r p l : Nat) (u3 u4 : mV) (M' : mM), p + r = c.toNat + 1 → l < LS.length → frN [134] M M' → (∀ q : Nat, q < 100 → M' 134 (100 * (l : Int) + q) = sqL c NZ l q) → (∀ l' q : Nat, l + 1 < l' → l' ≤ LS.length → q < 100 → M' 134 (100 * (l' : Int) + q) = 0) → (∀ q : Nat, q < 100 → M' 134 (100 * ((l + 1 : Nat) : Int) + q) = sqP (sqL c NZ l) (wyF c NZ l) (hiF c NZ l) (hiF c NZ (l + 1)) (sz (LS.getD l 0)) (mn (LS.getD l 0)) c p q) →
      (∀ M'' u2 u3 u4, frN [134] M M'' → (∀ q : Nat, q < 100 → M'' 134 (100 * ((l + 1 : Nat) : Int) + q) = sqL c NZ (l + 1) q) → (∀ l' q : Nat, l + 1 < l' → l' ≤ LS.length → q < 100 → M'' 134 (100 * (l' : Int) + q) = 0) → V (d + 2) k qX10_squeezedPaths 36 [mR 18 58 112, mI ((l : Int) + 1), u2, u3, u4] [] M'' Q) →
      V (d + 2) k qX10_squeezedPaths 46 [mR 18 58 112, mI l, mI p, u3, u4] [] M' Q := by
    intro r
    induction r with
    | zero =>
      intro p l u3 u4 M' hp hl g1 g2 g3 g4 hk
      obtain ⟨kN, k33, _⟩ := keep g1
      have Bk := B_X10_squeezedPaths_46 (d := d + 1) (k := k) (M := M') (Q := Q) (x1 := l) (x2 := p) (u3 := u3) (u4 := u4)
      rw [k33] at Bk
      refine Bk ⟨fun _ => ⟨by omega, hk M' _ _ _ g1 (fun q hq => ?_) g3⟩, fun z => by omega⟩
      rw [g4 q hq, show p = c.toNat + 1 by omega]
      show _ = sqP (sqL c NZ l) (wyF c NZ l) (hiF c NZ l) (hiF c NZ (l + 1)) (NZ.getD l (1, 0)).1 (NZ.getD l (1, 0)).2 c (c.toNat + 1) q
      rw [(hat l hl).2.2.2]
    | succ r ih =>
      intro p l u3 u4 M' hp hl g1 g2 g3 g4 hk
      obtain ⟨kN, k33, k122, k121⟩ := keep g1
      have ha := hat l hl
      have skip : ¬ (0 < wyF c NZ l p ∧ ¬ hiF c NZ l p = bfF (wyF c NZ l) (hiF c NZ l) p) → V (d + 2) k qX10_squeezedPaths 46 [mR 18 58 112, mI l, mI ((p : Int) + 1), u3, u4] [] M' Q := fun hn => by
        refine ih (p + 1) l u3 u4 M' (by omega) hl g1 g2 g3 (fun q hq => ?_) hk
        rw [g4 q hq]
        show _ = (if 0 < wyF c NZ l p ∧ ¬ hiF c NZ l p = bfF (wyF c NZ l) (hiF c NZ l) p then _ else _ : Int → Int) q
        rw [if_neg hn]
      have Bk := B_X10_squeezedPaths_46 (d := d + 1) (k := k) (M := M') (Q := Q) (x1 := l) (x2 := p) (u3 := u3) (u4 := u4)
      rw [k33] at Bk
      refine Bk ⟨fun z => by omega, fun _ => c_X10_isPoint kN (by omega) (by omega) (by omega) (fun hw => B_X10_squeezedPaths_60 ⟨fun z => by omega, fun _ => ?_⟩) (fun hw => B_X10_squeezedPaths_60 ⟨fun _ => ⟨by omega, skip (fun z => hw z.1)⟩, fun z => (z rfl).elim⟩)⟩
      refine c_X10_isFirstHigh kN hz (by omega) hc (by omega) (by omega) (fun hf => ?_) (fun hf => B_X10_squeezedPaths_69 ⟨fun z => (z rfl).elim, fun _ => ⟨by omega, skip (fun z => z.2 hf)⟩⟩)
      have hb := hiB l p (by omega)
      have hbd := fun (n : Nat) hn => sqN_bd hz (c := c) hc.1 (l := l) (by omega) (p := p) (n := n) (by omega) ⟨hw, hf⟩ hn
      rw [ha.2.2.2] at hbd
      dsimp only at hbd
      have hsb := sqL_bd (c := c) hz hc.1 (l := l) (by omega) (hiF c NZ l p)
      have Bk := B_X10_squeezedPaths_69 (d := d + 1) (k := k) (M := M') (Q := Q) (x1 := l) (x2 := p) (u3 := u3) (u4 := u4) (sx0 := 1)
      have e134 : M' 134 (100 * (l : Int) + hiF c NZ l p) = sqL c NZ l (hiF c NZ l p) := by
        have := g2 (hiF c NZ l p).toNat (by omega)
        rwa [Int.toNat_of_nonneg (by omega)] at this
      rw [kN.2.2.2 l p (by omega) (by omega), e134] at Bk
      refine Bk ⟨fun _ => ⟨by omega, by omega, by omega, by omega, by omega, by omega, ?_⟩, fun z => by omega⟩
      have walk : ∀ (rr n : Nat) (M2 : mM), n + rr = arN (sz (LS.getD l 0)) (mn (LS.getD l 0)) (c - p) → frN [134] M M2 → (∀ q : Nat, q < 100 → M2 134 (100 * (l : Int) + q) = sqL c NZ l q) → (∀ l' q : Nat, l + 1 < l' → l' ≤ LS.length → q < 100 → M2 134 (100 * (l' : Int) + q) = 0) → (∀ q : Nat, q < 100 → M2 134 (100 * ((l + 1 : Nat) : Int) + q) = sqN (sqL c NZ l (hiF c NZ l p)) (sz (LS.getD l 0)) p (hiF c NZ (l + 1)) (sqP (sqL c NZ l) (wyF c NZ l) (hiF c NZ l) (hiF c NZ (l + 1)) (sz (LS.getD l 0)) (mn (LS.getD l 0)) c p) n q) → V (d + 2) k qX10_squeezedPaths 100 [mR 18 58 112, mI l, mI p, mI (sqL c NZ l (hiF c NZ l p)), mI n] [] M2 Q := by
        intro rr
        induction rr with
        | zero =>
          intro n M2 hn f1 f2 f3 f4
          obtain ⟨jN, j33, j122, j121⟩ := keep f1
          have fin : V (d + 2) k qX10_squeezedPaths 46 [mR 18 58 112, mI l, mI ((p : Int) + 1), mI (sqL c NZ l (hiF c NZ l p)), mI n] [] M2 Q := by
            refine ih (p + 1) l _ _ M2 (by omega) hl f1 f2 f3 (fun q hq => ?_) hk
            rw [f4 q hq, show n = arN (sz (LS.getD l 0)) (mn (LS.getD l 0)) (c - p) by omega]
            show _ = (if 0 < wyF c NZ l p ∧ ¬ hiF c NZ l p = bfF (wyF c NZ l) (hiF c NZ l) p then _ else _ : Int → Int) q
            rw [if_pos ⟨hw, hf⟩]
          have h131 := jN.2.1 l hl
          generalize LS.getD l 0 = s at *
          have hi := arN_iff (z := sz s) (m := mn s) (f := c - p) ha.2.1.1 (by omega) (by omega) (n := n)
          have hle := arN_le (z := sz s) (m := mn s) (f := c - p) (by omega)
          have hpr := mulp (x := n) (y := sz s) (a := 25) (b := 99) (by omega) (by omega)
          have Bk := B_X10_squeezedPaths_100 (d := d + 1) (k := k) (M := M2) (Q := Q) (x1 := l) (x2 := p) (x3 := sqL c NZ l (hiF c NZ l p)) (x4 := n)
          rw [j33, h131, j122, j121] at Bk
          exact Bk ⟨by omega, by omega, fun _ => ⟨by omega, fin⟩, fun c1 => ⟨by omega, by omega, by omega, by omega, fun _ => ⟨by omega, fin⟩, fun c2 => by omega⟩⟩
        | succ rr ihr =>
          intro n M2 hn f1 f2 f3 f4
          obtain ⟨jN, j33, j122, j121⟩ := keep f1
          have h131 := jN.2.1 l hl
          have hi := (arN_iff (z := sz (LS.getD l 0)) (m := mn (LS.getD l 0)) (f := c - p) ha.2.1.1 (by omega) (by omega) (n := n)).mp (by omega)
          have hpr := mulp (x := n) (y := sz (LS.getD l 0)) (a := 25) (b := 99) (by omega) (by omega)
          obtain ⟨q0, hq0⟩ : ∃ q : Nat, (p : Int) + n * sz (LS.getD l 0) = q := ⟨((p : Int) + n * sz (LS.getD l 0)).toNat, by omega⟩
          have e1 : 100 * ((l : Int) + 1) + p + n * sz (LS.getD l 0) = 100 * ((l + 1 : Nat) : Int) + q0 := by omega
          have hb2 := hiB (l + 1) q0 (by omega)
          obtain ⟨x0, hx0⟩ : ∃ x : Nat, hiF c NZ (l + 1) q0 = x := ⟨(hiF c NZ (l + 1) q0).toNat, by omega⟩
          have b1 := hbd n (by omega) x0
          have e2 : 100 * ((l : Int) + 1) + (x0 : Int) = 100 * ((l + 1 : Nat) : Int) + x0 := by omega
          have Bk := B_X10_squeezedPaths_100 (d := d + 1) (k := k) (M := M2) (Q := Q) (x1 := l) (x2 := p) (x3 := sqL c NZ l (hiF c NZ l p)) (x4 := n)
          rw [j33, h131, j122, j121, e1, jN.2.2.2 (l + 1) q0 (by omega) (by omega), hx0, e2, f4 x0 (by omega)] at Bk
          refine Bk ⟨by omega, by omega, fun z => by omega, fun _ => ⟨by omega, by omega, by omega, by omega, fun z => by omega, fun _ => ⟨by omega, by omega, by omega, by omega, by omega, by omega, by omega, by omega, by omega, by omega, by omega, by omega, by omega, by omega, by omega, ihr (n + 1) _ (by omega) (f1.up (by simp)) (fun q hq => by rw [up_fld (by omega)]; exact f2 q hq) (fun l' q h1 h2 h3 => by rw [up_fld (by omega)]; exact f3 l' q h1 h2 h3) (fun q hq => ?_)⟩⟩⟩
          show _ = fset (sqN (sqL c NZ l (hiF c NZ l p)) (sz (LS.getD l 0)) p (hiF c NZ (l + 1)) (sqP (sqL c NZ l) (wyF c NZ l) (hiF c NZ l) (hiF c NZ (l + 1)) (sz (LS.getD l 0)) (mn (LS.getD l 0)) c p) n) (hiF c NZ (l + 1) (p + n * sz (LS.getD l 0))) (sqN (sqL c NZ l (hiF c NZ l p)) (sz (LS.getD l 0)) p (hiF c NZ (l + 1)) (sqP (sqL c NZ l) (wyF c NZ l) (hiF c NZ l) (hiF c NZ (l + 1)) (sz (LS.getD l 0)) (mn (LS.getD l 0)) c p) n (hiF c NZ (l + 1) (p + n * sz (LS.getD l 0))) + sqL c NZ l (hiF c NZ l p)) q
          rw [hq0, hx0]
          by_cases e : (q : Int) = x0
          · rw [e, up_s, fset_s]
          · rw [up_fld (by omega), fset_n e]; exact f4 q hq
      exact walk (arN (sz (LS.getD l 0)) (mn (LS.getD l 0)) (c - p)) 0 M' (by omega) g1 g2 g3 g4
  have layers : ∀ (r l : Nat) (u2 u3 u4 : mV) (M' : mM), l + r = LS.length → frN [134] M M' → (∀ q : Nat, q < 100 → M' 134 (100 * (l : Int) + q) = sqL c NZ l q) → (∀ l' q : Nat, l < l' → l' ≤ LS.length → q < 100 → M' 134 (100 * (l' : Int) + q) = 0) → V (d + 2) k qX10_squeezedPaths 36 [mR 18 58 112, mI l, u2, u3, u4] [] M' Q := by
    intro r
    induction r with
    | zero =>
      intro l u2 u3 u4 M' hl g1 g2 g3
      obtain ⟨kN, k33, _⟩ := keep g1
      have Bk := B_X10_squeezedPaths_36 (d := d + 1) (k := k) (M := M') (Q := Q) (x1 := l) (u2 := u2) (u3 := u3) (u4 := u4)
      rw [kN.1] at Bk
      exact Bk ⟨fun _ => sum (c.toNat + 1) 0 _ _ M' (by omega) g1 (by rw [show l = LS.length by omega] at g2; exact g2), fun z => by omega⟩
    | succ r ih =>
      intro l u2 u3 u4 M' hl g1 g2 g3
      obtain ⟨kN, k33, _⟩ := keep g1
      have Bk := B_X10_squeezedPaths_36 (d := d + 1) (k := k) (M := M') (Q := Q) (x1 := l) (u2 := u2) (u3 := u3) (u4 := u4)
      rw [kN.1] at Bk
      exact Bk ⟨fun z => by omega, fun _ => layer (c.toNat + 1) 0 l _ _ M' (by omega) (by omega) g1 g2 (fun l' q h1 h2 h3 => g3 l' q (by omega) h2 h3) (fun q hq => g3 (l + 1) q (by omega) (by omega) hq) (fun M'' u2 u3 u4 a1 a2 a3 => ih (l + 1) u2 u3 u4 M'' (by omega) a1 a2 a3)⟩
  have zero : ∀ (r j : Nat) (u2 u3 u4 : mV) (M' : mM), j + r = 700 → frN [134] M M' → (∀ i : Nat, i < j → M' 134 i = 0) → V (d + 2) k qX10_squeezedPaths 2 [mR 18 58 112, mI j, u2, u3, u4] [] M' Q := by
    intro r
    induction r with
    | zero =>
      intro j u2 u3 u4 M' hj g1 g2
      obtain ⟨kN, k33, _⟩ := keep g1
      have h0 := kN.2.2.2 0 0 (by omega) (by omega)
      have hb := hiB 0 0 (by omega)
      have e133 : M' 133 0 = hiF c NZ 0 0 := h0
      have hb' : 0 ≤ hiF c NZ 0 0 ∧ hiF c NZ 0 0 ≤ c := hb
      have Bk := B_X10_squeezedPaths_2 (d := d + 1) (k := k) (M := M') (Q := Q) (x1 := j) (u2 := u2) (u3 := u3) (u4 := u4)
      rw [e133] at Bk
      refine Bk ⟨fun _ => ⟨by omega, layers LS.length 0 u2 u3 u4 _ (by omega) (g1.up (by simp)) (fun q hq => ?_) (fun l' q h1 h2 h3 => ?_)⟩, fun z => by omega⟩
      · show mUp M' 134 (hiF c NZ 0 0) 1 134 (100 * ((0 : Nat) : Int) + q) = fset (fun _ => 0) (hiF c NZ 0 0) 1 q
        rw [show 100 * ((0 : Nat) : Int) + (q : Int) = q by omega]
        by_cases e : (q : Int) = hiF c NZ 0 0
        · rw [e]; exact up_s.trans fset_s.symm
        · rw [up_fld e, fset_n e]; exact g2 q (by omega)
      · rw [up_fld (by omega)]
        have := g2 (100 * l' + q) (by omega)
        rwa [show ((100 * l' + q : Nat) : Int) = 100 * (l' : Int) + q by omega] at this
    | succ r ih =>
      intro j u2 u3 u4 M' hj g1 g2
      refine B_X10_squeezedPaths_2 ⟨fun z => by omega, fun _ => ⟨by omega, by omega, ih (j + 1) u2 u3 u4 _ (by omega) (g1.up (by simp)) (fun i hi => ?_)⟩⟩
      by_cases e : i = j
      · subst e; rw [up_s]
      · rw [up_fld (by omega)]; exact g2 i (by omega)
  exact B_X10_squeezedPaths_0 (zero 700 0 _ _ _ M (by omega) frN.rf (fun i hi => by omega))
