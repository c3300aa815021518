/-! the model's net: points, arcs, paths, squeezed paths -/
theorem c_X10_isPoint {d k : Nat} {M : mM} {Q : mRes → mM → Prop} {c : Int} {l p : Nat} {LS : List Int} {NZ : zL} (hN : netM c LS NZ M) (hl6 : LS.length ≤ 6) (hl : l ≤ LS.length) (hp : p < 100) (h1 : 0 < wyF c NZ l p → Q (.inl (some (mI 1))) M) (h0 : ¬ 0 < wyF c NZ l p → Q (.inl (some (mI 0))) M) : V d k qX10_isPoint 0 [mR 18 58 112, mI l, mI p] [] M Q := by
  have Bk := B_X10_isPoint_0 (d := d) (k := k) (M := M) (Q := Q) (x1 := l) (x2 := p)
  rw [hN.2.2.1 l p hl hp] at Bk
  exact Bk ⟨by omega, by omega, by omega, fun z => h0 (by omega), fun z => h1 (by omega)⟩
theorem c_X10_isFirstHigh {d k : Nat} {M : mM} {Q : mRes → mM → Prop} {c : Int} {l p : Nat} {LS : List Int} {NZ : zL} (hN : netM c LS NZ M) (hz : zOK NZ) (hl6 : LS.length ≤ 6) (hc : 0 ≤ c ∧ c ≤ 99) (hl : l ≤ LS.length) (hp : (p : Int) ≤ c) (h1 : ¬ hiF c NZ l p = bfF (wyF c NZ l) (hiF c NZ l) p → Q (.inl (some (mI 1))) M) (h0 : hiF c NZ l p = bfF (wyF c NZ l) (hiF c NZ l) p → Q (.inl (some (mI 0))) M) : V (d + 1) k qX10_isFirstHigh 0 [mR 18 58 112, mI l, mI p, mE 0] [] M Q := by
  have hb := bf_iff (w := wyF c NZ l) (h := hiF c NZ l) (p := p) (fun i j a b => hiF_mono hz (by omega) (by omega)) (by have := hiF_bd (c := c) hz (l := l) (p := p) (by omega) hp; omega)
  have loop : ∀ r q : Nat, q + r = p → (¬ ∃ q' : Nat, q' < q ∧ 0 < wyF c NZ l q' ∧ hiF c NZ l q' = hiF c NZ l p) → V (d + 1) k qX10_isFirstHigh 2 [mR 18 58 112, mI l, mI p, mI q] [] M Q := by
    intro r
    induction r with
    | zero =>
      intro q hq hn
      exact B_X10_isFirstHigh_2 ⟨fun _ => h1 (fun z => hn (by rw [show q = p by omega]; exact hb.mp z)), fun z => by omega⟩
    | succ r ih =>
      intro q hq hn
      have nxt : (¬ (0 < wyF c NZ l q ∧ hiF c NZ l q = hiF c NZ l p)) → V (d + 1) k qX10_isFirstHigh 2 [mR 18 58 112, mI l, mI p, mI ((q : Int) + 1)] [] M Q := fun hne => ih (q + 1) (by omega) (fun ⟨q', a1, a2, a3⟩ => by
        by_cases e : q' = q
        · subst e; exact hne ⟨a2, a3⟩
        · exact hn ⟨q', by omega, a2, a3⟩)
      refine B_X10_isFirstHigh_2 ⟨fun z => by omega, fun _ => c_X10_isPoint hN hl6 hl (by omega) (fun hw => ?_) (fun hw => ?_)⟩
      · have Bk := B_X10_isFirstHigh_13 (d := d) (k := k) (M := M) (Q := Q) (x1 := l) (x2 := p) (x3 := q) (sx0 := 1)
        rw [hN.2.2.2 l q hl (by omega), hN.2.2.2 l p hl hp] at Bk
        exact Bk ⟨fun z => by omega, fun _ => ⟨by omega, by omega, by omega, by omega, by omega, by omega, fun e => ⟨by omega, nxt (fun z => e z.2)⟩, fun e => h0 (hb.mpr ⟨q, by omega, hw, e⟩)⟩⟩
      · exact B_X10_isFirstHigh_13 ⟨fun _ => ⟨by omega, nxt (fun z => hw z.1)⟩, fun z => (z rfl).elim⟩
  exact B_X10_isFirstHigh_0 (loop p 0 (by omega) (fun ⟨q', h, _⟩ => by omega))
set_option maxHeartbeats 1000000 in
theorem c_X10_points {d k : Nat} {M : mM} {Q : mRes → mM → Prop} {c sq : Int} {LS : List Int} {NZ : zL} (hc0 : M 112 33 = c) (hN : netM c LS NZ M) (hz : zOK NZ) (hl6 : LS.length ≤ 6) (hc : 0 ≤ c ∧ c ≤ 99) (hQ : Q (.inl (some (mI (lyS sq c NZ (fun _ _ => 1) (LS.length + 1))))) M) : V (d + 2) k qX10_points 0 [mR 18 58 112, mI sq, mE 0, mE 0, mE 0] [] M Q := by
  have outer : ∀ (r l : Nat) (u4 : mV), l + r = LS.length + 1 → V (d + 2) k qX10_points 4 [mR 18 58 112, mI sq, mI (lyS sq c NZ (fun _ _ => 1) l), mI l, u4] [] M Q := by
    intro r
    induction r with
    | zero =>
      intro l u4 hl
      have Bk := B_X10_points_4 (d := d + 1) (k := k) (M := M) (Q := Q) (x1 := sq) (x2 := lyS sq c NZ (fun _ _ => 1) l) (x3 := l) (u4 := u4)
      rw [hN.1] at Bk
      exact Bk ⟨fun _ => by rw [show l = LS.length + 1 by omega]; exact hQ, fun z => by omega⟩
    | succ r ih =>
      intro l u4 hl
      have Bk := B_X10_points_4 (d := d + 1) (k := k) (M := M) (Q := Q) (x1 := sq) (x2 := lyS sq c NZ (fun _ _ => 1) l) (x3 := l) (u4 := u4)
      rw [hN.1] at Bk
      refine Bk ⟨fun z => by omega, fun _ => ?_⟩
      have hb0 := lyS_bd (sq := sq) (NZ := NZ) (a := fun _ _ => 1) (B := 1) hc (by omega) (l := l) (fun _ _ _ _ => by omega)
      have inner : ∀ (rp p : Nat), p + rp = c.toNat + 1 → V (d + 2) k qX10_points 15 [mR 18 58 112, mI sq, mI (lyS sq c NZ (fun _ _ => 1) l + ctF sq (wyF c NZ l) (hiF c NZ l) (fun _ => 1) p), mI l, mI p] [] M Q := by
        intro rp
        induction rp with
        | zero =>
          intro p hp
          have Bk := B_X10_points_15 (d := d + 1) (k := k) (M := M) (Q := Q) (x1 := sq) (x2 := lyS sq c NZ (fun _ _ => 1) l + ctF sq (wyF c NZ l) (hiF c NZ l) (fun _ => 1) p) (x3 := l) (x4 := p)
          rw [hc0] at Bk
          refine Bk ⟨fun _ => ⟨by omega, ?_⟩, fun z => by omega⟩
          rw [show p = c.toNat + 1 by omega]
          exact ih (l + 1) _ (by omega)
        | succ rp ihp =>
          intro p hp
          have hb1 := ctF_bd (sq := sq) (w := wyF c NZ l) (h := hiF c NZ l) (a := fun _ => 1) (B := 1) (n := p) (fun _ _ => by omega) (by omega)
          have Bk := B_X10_points_15 (d := d + 1) (k := k) (M := M) (Q := Q) (x1 := sq) (x2 := lyS sq c NZ (fun _ _ => 1) l + ctF sq (wyF c NZ l) (hiF c NZ l) (fun _ => 1) p) (x3 := l) (x4 := p)
          rw [hc0] at Bk
          have nxt := ihp (p + 1) (by omega)
          rw [ct_s] at nxt
          refine Bk ⟨fun z => by omega, fun _ => c_X10_isPoint hN hl6 (by omega) (by omega) (fun hw => ?_) (fun hw => ?_)⟩
          · refine B_X10_points_31 ⟨fun z => by omega, fun _ => ⟨fun e1 => ⟨by omega, by omega, ?_⟩, fun e1 => c_X10_isFirstHigh hN hz hl6 hc (by omega) (by omega) (fun e2 => B_X10_points_45 ⟨fun z => by omega, fun _ => ⟨by omega, by omega, ?_⟩⟩) (fun e2 => B_X10_points_45 ⟨fun _ => ⟨by omega, ?_⟩, fun z => (z rfl).elim⟩)⟩⟩
            · rw [if_pos ⟨hw, Or.inl e1⟩, ← Int.add_assoc] at nxt; exact nxt
            · rw [if_pos ⟨hw, Or.inr e2⟩, ← Int.add_assoc] at nxt; exact nxt
            · rw [if_neg (fun z => z.2.elim e1 (fun y => y e2)), Int.add_zero] at nxt; exact nxt
          · rw [if_neg (fun z => hw z.1), Int.add_zero] at nxt
            exact B_X10_points_31 ⟨fun _ => ⟨by omega, nxt⟩, fun z => (z rfl).elim⟩
      have := inner (c.toNat + 1) 0 (by omega)
      rw [show ctF sq (wyF c NZ l) (hiF c NZ l) (fun _ => 1) 0 = 0 from rfl, Int.add_zero] at this
      exact this
  exact B_X10_points_0 (outer (LS.length + 1) 0 _ (by omega))
set_option maxHeartbeats 1000000 in
theorem c_X10_arcs {d k : Nat} {M : mM} {Q : mRes → mM → Prop} {c sq : Int} {K : Nat} {sz mn od : Int → Int} (hc0 : M 112 33 = c) (h122 : M 122 = sz) (h121 : M 121 = mn) (hG : GLok c K sz mn od) (hc1 : 1 ≤ c) (hN : netM c (lyL od mn K 0) (nzL sz mn (lyL od mn K 0)) M)
    (hQ : Q (.inl (some (mI (lyS sq c (nzL sz mn (lyL od mn K 0)) (arL c (nzL sz mn (lyL od mn K 0))) (lyL od mn K 0).length)))) M) : V (d + 2) k qX10_arcs 0 [mR 18 58 112, mI sq, mE 0, mE 0, mE 0, mE 0] [] M Q := by
  have hK6 := hG.2.1
  have hc := hG.1
  have hL := lyL_len (od := od) (mn := mn) (r := K) (i := 0)
  have hz := nz_ok hG hc1
  have hnl := nz_len (sz := sz) (mn := mn) (L := lyL od mn K 0)
  have hat := fun l (hl : l < (lyL od mn K 0).length) => ly_at (sz := sz) hG hc1 hl
  have hae : ∀ l : Nat, l < (lyL od mn K 0).length → ∀ p : Int, arL c (nzL sz mn (lyL od mn K 0)) l p = arN (sz ((lyL od mn K 0).getD l 0)) (mn ((lyL od mn K 0).getD l 0)) (c - p) := fun l hl p => by
    unfold arL; rw [(hat l hl).2.2.2]
  have hab : ∀ l : Nat, l < (lyL od mn K 0).length → ∀ p : Int, 0 ≤ arL c (nzL sz mn (lyL od mn K 0)) l p ∧ arL c (nzL sz mn (lyL od mn K 0)) l p ≤ 25 := fun l hl p => by
    have h1 := hat l hl
    have h2 := arN_le (z := sz ((lyL od mn K 0).getD l 0)) (m := mn ((lyL od mn K 0).getD l 0)) (f := c - p) (by omega)
    rw [hae l hl]
    omega
  generalize hNZ : nzL sz mn (lyL od mn K 0) = NZ at *
  generalize hLS : lyL od mn K 0 = LS at *
  have outer : ∀ (r l : Nat) (u4 u5 : mV), l + r = LS.length → V (d + 2) k qX10_arcs 4 [mR 18 58 112, mI sq, mI (lyS sq c NZ (arL c NZ) l), mI l, u4, u5] [] M Q := by
    intro r
    induction r with
    | zero =>
      intro l u4 u5 hl
      have Bk := B_X10_arcs_4 (d := d + 1) (k := k) (M := M) (Q := Q) (x1 := sq) (x2 := lyS sq c NZ (arL c NZ) l) (x3 := l) (u4 := u4) (u5 := u5)
      rw [hN.1] at Bk
      exact Bk ⟨fun _ => by rw [show l = LS.length by omega]; exact hQ, fun z => by omega⟩
    | succ r ih =>
      intro l u4 u5 hl
      have Bk := B_X10_arcs_4 (d := d + 1) (k := k) (M := M) (Q := Q) (x1 := sq) (x2 := lyS sq c NZ (arL c NZ) l) (x3 := l) (u4 := u4) (u5 := u5)
      rw [hN.1] at Bk
      refine Bk ⟨fun z => by omega, fun _ => ?_⟩
      have hb0 := lyS_bd (sq := sq) (NZ := NZ) (a := arL c NZ) (B := 25) hc (by omega) (l := l) (fun l' h1 p _ => hab l' (by omega) p)
      have ha := hat l (by omega)
      have h131 := hN.2.1 l (by omega)
      have inner : ∀ (rp p : Nat) (u5 : mV), p + rp = c.toNat + 1 → V (d + 2) k qX10_arcs 15 [mR 18 58 112, mI sq, mI (lyS sq c NZ (arL c NZ) l + ctF sq (wyF c NZ l) (hiF c NZ l) (arL c NZ l) p), mI l, mI p, u5] [] M Q := by
        intro rp
        induction rp with
        | zero =>
          intro p u5 hp
          have Bk := B_X10_arcs_15 (d := d + 1) (k := k) (M := M) (Q := Q) (x1 := sq) (x2 := lyS sq c NZ (arL c NZ) l + ctF sq (wyF c NZ l) (hiF c NZ l) (arL c NZ l) p) (x3 := l) (x4 := p) (u5 := u5)
          rw [hc0] at Bk
          refine Bk ⟨fun _ => ⟨by omega, ?_⟩, fun z => by omega⟩
          rw [show p = c.toNat + 1 by omega]
          exact ih (l + 1) _ _ (by omega)
        | succ rp ihp =>
          intro p u5 hp
          have hb1 := ctF_bd (sq := sq) (w := wyF c NZ l) (h := hiF c NZ l) (a := arL c NZ l) (B := 25) (n := p) (fun q _ => hab l (by omega) q) (by omega)
          have nxt := fun u5 => ihp (p + 1) u5 (by omega)
          rw [ct_s, hae l (by omega)] at nxt
          have hal := arN_le (z := sz (LS.getD l 0)) (m := mn (LS.getD l 0)) (f := c - p) (by omega)
          have hiff := fun n : Nat => arN_iff (z := sz (LS.getD l 0)) (m := mn (LS.getD l 0)) (f := c - p) ha.2.1.1 (by omega) (by omega) (n := n)
          generalize LS.getD l 0 = s at *
          have walk : (sq = 0 ∨ ¬ hiF c NZ l p = bfF (wyF c NZ l) (hiF c NZ l) p) → 0 < wyF c NZ l p → ∀ (rr n : Nat), n + rr = arN (sz s) (mn s) (c - p) → V (d + 2) k qX10_arcs 54 [mR 18 58 112, mI sq, mI (lyS sq c NZ (arL c NZ) l + ctF sq (wyF c NZ l) (hiF c NZ l) (arL c NZ l) p + n), mI l, mI p, mI n] [] M Q := by
            intro hh hw rr
            induction rr with
            | zero =>
              intro n hn
              have hi := hiff n
              have hpr := mulp (x := n) (y := sz s) (a := 25) (b := 99) (by omega) (by omega)
              have fin : V (d + 2) k qX10_arcs 15 [mR 18 58 112, mI sq, mI (lyS sq c NZ (arL c NZ) l + ctF sq (wyF c NZ l) (hiF c NZ l) (arL c NZ l) p + n), mI l, mI ((p : Int) + 1), mI n] [] M Q := by
                have := nxt (mI n)
                rw [if_pos ⟨hw, hh⟩, ← Int.add_assoc, show (arN (sz s) (mn s) (c - p) : Int) = n by omega] at this
                exact this
              have Bk := B_X10_arcs_54 (d := d + 1) (k := k) (M := M) (Q := Q) (x1 := sq) (x2 := lyS sq c NZ (arL c NZ) l + ctF sq (wyF c NZ l) (hiF c NZ l) (arL c NZ l) p + n) (x3 := l) (x4 := p) (x5 := n)
              rw [hc0, h131, h122, h121] at Bk
              exact Bk ⟨by omega, by omega, fun _ => ⟨by omega, fin⟩, fun c1 => ⟨by omega, by omega, by omega, by omega, fun _ => ⟨by omega, fin⟩, fun c2 => by omega⟩⟩
            | succ rr ihr =>
              intro n hn
              have hi := (hiff n).mp (by omega)
              have hpr := mulp (x := n) (y := sz s) (a := 25) (b := 99) (by omega) (by omega)
              have Bk := B_X10_arcs_54 (d := d + 1) (k := k) (M := M) (Q := Q) (x1 := sq) (x2 := lyS sq c NZ (arL c NZ) l + ctF sq (wyF c NZ l) (hiF c NZ l) (arL c NZ l) p + n) (x3 := l) (x4 := p) (x5 := n)
              rw [hc0, h131, h122, h121] at Bk
              refine Bk ⟨by omega, by omega, fun z => by omega, fun _ => ⟨by omega, by omega, by omega, by omega, fun z => by omega, fun _ => ⟨by omega, by omega, ?_⟩⟩⟩
              have := ihr (n + 1) (by omega)
              rw [show ((n + 1 : Nat) : Int) = (n : Int) + 1 from rfl, ← Int.add_assoc] at this
              exact this
          have walk0 : (sq = 0 ∨ ¬ hiF c NZ l p = bfF (wyF c NZ l) (hiF c NZ l) p) → 0 < wyF c NZ l p → V (d + 2) k qX10_arcs 54 [mR 18 58 112, mI sq, mI (lyS sq c NZ (arL c NZ) l + ctF sq (wyF c NZ l) (hiF c NZ l) (arL c NZ l) p), mI l, mI p, mI 0] [] M Q := fun hh hw => by
            have := walk hh hw (arN (sz s) (mn s) (c - p)) 0 (by omega)
            rw [show ((0 : Nat) : Int) = 0 from rfl, Int.add_zero] at this
            exact this
          have Bk := B_X10_arcs_15 (d := d + 1) (k := k) (M := M) (Q := Q) (x1 := sq) (x2 := lyS sq c NZ (arL c NZ) l + ctF sq (wyF c NZ l) (hiF c NZ l) (arL c NZ l) p) (x3 := l) (x4 := p) (u5 := u5)
          rw [hc0] at Bk
          refine Bk ⟨fun z => by omega, fun _ => c_X10_isPoint hN (by omega) (by omega) (by omega) (fun hw => ?_) (fun hw => ?_)⟩
          · refine B_X10_arcs_31 ⟨fun z => by omega, fun _ => ⟨fun e1 => walk0 (Or.inl e1) hw, fun e1 => c_X10_isFirstHigh hN hz (by omega) hc (by omega) (by omega) (fun e2 => B_X10_arcs_45 ⟨fun _ => walk0 (Or.inr e2) hw, fun z => by omega⟩) (fun e2 => B_X10_arcs_45 ⟨fun z => (z rfl).elim, fun _ => ⟨by omega, ?_⟩⟩)⟩⟩
            have := nxt u5
            rw [if_neg (fun z => z.2.elim e1 (fun y => y e2)), Int.add_zero] at this
            exact this
          · have := nxt u5
            rw [if_neg (fun z => hw z.1), Int.add_zero] at this
            exact B_X10_arcs_31 ⟨fun _ => ⟨by omega, this⟩, fun z => (z rfl).elim⟩
      have := inner (c.toNat + 1) 0 u5 (by omega)
      rw [show ctF sq (wyF c NZ l) (hiF c NZ l) (arL c NZ l) 0 = 0 from rfl, Int.add_zero] at this
      exact this
  exact B_X10_arcs_0 (outer LS.length 0 _ _ (by omega))
theorem c_X10_paths {d k : Nat} {M : mM} {Q : mRes → mM → Prop} {c : Int} {LS : List Int} {NZ : zL} (hc0 : M 112 33 = c) (hN : netM c LS NZ M) (hz : zOK NZ) (hnl : NZ.length = LS.length) (hl6 : LS.length ≤ 6) (hc : 0 ≤ c ∧ c ≤ 99) (hcn : cn NZ c < 100000) (hQ : Q (.inl (some (mI (cn NZ c)))) M) : V d k qX10_paths 0 [mR 18 58 112, mE 0, mE 0] [] M Q := by
  have hs := cn_paths (c := c) hz hc
  rw [hnl] at hs
  have hext := sg_ext (f := wyF c NZ LS.length) (n := c.toNat + 1) (m := 100) (by omega) (fun j h2 h3 => wyF_out hz hc.1 (by omega) (by omega))
  have loop : ∀ r p : Nat, p + r = c.toNat + 1 → V d k qX10_paths 4 [mR 18 58 112, mI (sg (wyF c NZ LS.length) p), mI p] [] M Q := by
    intro r
    induction r with
    | zero =>
      intro p hp
      have Bk := B_X10_paths_4 (d := d) (k := k) (M := M) (Q := Q) (x1 := sg (wyF c NZ LS.length) p) (x2 := p)
      rw [hc0] at Bk
      refine Bk ⟨fun _ => ?_, fun z => by omega⟩
      rw [show p = c.toNat + 1 by omega, ← hext, hs]; exact hQ
    | succ r ih =>
      intro p hp
      have h1 := sg_le (f := wyF c NZ LS.length) (n := p) (m := 100) (by omega) (fun j _ => wyF_nn _ _)
      have h2 := sg_le (f := wyF c NZ LS.length) (n := p + 1) (m := 100) (by omega) (fun j _ => wyF_nn _ _)
      have h3 := sg_le (f := wyF c NZ LS.length) (n := 0) (m := p) (by omega) (fun j _ => wyF_nn _ _)
      have e3 : sg (wyF c NZ LS.length) (p + 1) = sg (wyF c NZ LS.length) p + wyF c NZ LS.length p := rfl
      have e4 : sg (wyF c NZ LS.length) 0 = 0 := rfl
      have h5 := wyF_nn (c := c) (L := NZ) LS.length p
      have Bk := B_X10_paths_4 (d := d) (k := k) (M := M) (Q := Q) (x1 := sg (wyF c NZ LS.length) p) (x2 := p)
      rw [hc0, hN.1, hN.2.2.1 LS.length p (Nat.le_refl _) (by omega)] at Bk
      exact Bk ⟨fun z => by omega, fun _ => ⟨by omega, by omega, by omega, by omega, by omega, ih (p + 1) (by omega)⟩⟩
  exact B_X10_paths_0 (loop (c.toNat + 1) 0 (by omega))
