/-! the class's net: points and arcs counted -/
def hiF (c : Int) (NZ : zL) (l : Nat) (p : Int) : Int := c - rc (NZ.drop l) (c - p)
def bfF (w h : Int → Int) : Nat → Int
  | 0 => -1
  | p + 1 => if 0 < w p then h p else bfF w h p
def ctF (sq : Int) (w h a : Int → Int) : Nat → Int
  | 0 => 0
  | p + 1 => ctF sq w h a p + if 0 < w p ∧ (sq = 0 ∨ ¬ h p = bfF w h p) then a p else 0
theorem ctF_bd {sq B : Int} {w h a : Int → Int} : ∀ {n : Nat}, (∀ p : Nat, p < n → 0 ≤ a p ∧ a p ≤ B) → 0 ≤ B → 0 ≤ ctF sq w h a n ∧ ctF sq w h a n ≤ B * n
  | 0, _, _ => ⟨Int.le_refl _, by simp [ctF]⟩
  | n + 1, ha, hB => by
    have ih := ctF_bd (sq := sq) (w := w) (h := h) (n := n) (fun p hp => ha p (by omega)) hB
    have h1 := ha n (by omega)
    have e : B * ((n + 1 : Nat) : Int) = B * n + B := by rw [show ((n + 1 : Nat) : Int) = (n : Int) + 1 from rfl, Int.mul_add, Int.mul_one]
    unfold ctF
    rw [e]
    split <;> omega
def lyS (sq c : Int) (NZ : zL) (a : Nat → Int → Int) : Nat → Int
  | 0 => 0
  | l + 1 => lyS sq c NZ a l + ctF sq (wyF c NZ l) (hiF c NZ l) (a l) (c.toNat + 1)
theorem lyS_bd {sq c B : Int} {NZ : zL} {a : Nat → Int → Int} (hc : 0 ≤ c ∧ c ≤ 99) (hB : 0 ≤ B) : ∀ {l : Nat}, (∀ l' : Nat, l' < l → ∀ p : Nat, (p : Int) ≤ c → 0 ≤ a l' p ∧ a l' p ≤ B) → 0 ≤ lyS sq c NZ a l ∧ lyS sq c NZ a l ≤ B * 100 * l
  | 0, _ => ⟨Int.le_refl _, by simp [lyS]⟩
  | l + 1, h => by
    have ih := lyS_bd (sq := sq) (NZ := NZ) hc hB (l := l) (fun l' h1 => h l' (by omega))
    have h1 := ctF_bd (sq := sq) (w := wyF c NZ l) (h := hiF c NZ l) (a := a l) (B := B) (n := c.toNat + 1) (fun p hp => h l (by omega) p (by omega)) hB
    have h2 : B * ((c.toNat + 1 : Nat) : Int) ≤ B * 100 := Int.mul_le_mul_of_nonneg_left (by omega) hB
    have e : B * 100 * ((l + 1 : Nat) : Int) = B * 100 * l + B * 100 := by rw [show ((l + 1 : Nat) : Int) = (l : Int) + 1 from rfl, Int.mul_add, Int.mul_one]
    show 0 ≤ lyS sq c NZ a l + _ ∧ lyS sq c NZ a l + _ ≤ _
    rw [e]
    omega
theorem c_X3_isPoint {d k : Nat} {M : mM} {Q : mRes → mM → Prop} {c x y : Int} {LS : List Int} {NZ : zL} (hN : netC c LS NZ M) (hl6 : LS.length ≤ 6) (hc : 0 ≤ c ∧ c ≤ 99) (h1 : 0 ≤ x ∧ x ≤ LS.length ∧ 0 ≤ y ∧ y ≤ c ∧ 0 < wyF c NZ x.toNat y → Q (.inl (some (mI 1))) M) (h0 : ¬ (0 ≤ x ∧ x ≤ LS.length ∧ 0 ≤ y ∧ y ≤ c ∧ 0 < wyF c NZ x.toNat y) → Q (.inl (some (mI 0))) M) : V d k qX3_isPoint 0 [mR 12 4 90, mI x, mI y, mI c] [] M Q := by
  have Bk := B_X3_isPoint_0 (d := d) (k := k) (M := M) (Q := Q) (x1 := x) (x2 := y) (x3 := c)
  rw [hN.1.1] at Bk
  have hw : 0 ≤ x → x ≤ LS.length → 0 ≤ y → y ≤ c → M (92 + x) y = wyF c NZ x.toNat y := fun a1 a2 a3 a4 => by
    have := hN.2.2 x.toNat (by omega) y.toNat (by omega)
    rw [Int.toNat_of_nonneg a1, Int.toNat_of_nonneg a3] at this
    exact this
  refine Bk ⟨fun _ => h0 (by omega), fun _ => ⟨fun _ => h0 (by omega), fun _ => ⟨fun _ => h0 (by omega), fun _ => ⟨fun _ => h0 (by omega), fun _ => ⟨fun _ => by omega, fun _ => ⟨by omega, by omega, fun c1 => ?_, fun c1 => ?_⟩⟩⟩⟩⟩⟩
  · rw [hw (by omega) (by omega) (by omega) (by omega)] at c1
    exact h0 (by omega)
  · rw [hw (by omega) (by omega) (by omega) (by omega)] at c1
    exact h1 (by omega)
theorem c_X3_highOf {d k : Nat} {M : mM} {Q : mRes → mM → Prop} {c : Int} {l p : Nat} {LS : List Int} {NZ : zL} (hN : netC c LS NZ M) (hnl : NZ.length = LS.length) (hz : zOK NZ) (hl6 : LS.length ≤ 6) (hc : 0 ≤ c ∧ c ≤ 99) (hl : l ≤ LS.length) (hp : (p : Int) ≤ c) (hQ : Q (.inl (some (mI (hiF c NZ l p)))) M) : V d k qX3_highOf 0 [mR 12 4 90, mI l, mI p, mI c, mE 0] [] M Q := by
  have hr := hN.2.1 l (by omega) (by omega) (c - p).toNat (by omega)
  rw [Int.toNat_of_nonneg (by omega)] at hr
  have hb := rc_bd (l := NZ.drop l) (f := c - p) hz.d (by omega)
  have Bk := B_X3_highOf_0 (d := d) (k := k) (M := M) (Q := Q) (x1 := l) (x2 := p) (x3 := c)
  rw [hr] at Bk
  exact Bk ⟨by omega, fun z => by omega, fun _ => ⟨fun _ => ⟨by omega, by omega, by omega, hQ⟩, fun z => by omega⟩⟩
theorem ct_s {sq : Int} {w h a : Int → Int} {p : Nat} : ctF sq w h a (p + 1) = ctF sq w h a p + if 0 < w p ∧ (sq = 0 ∨ ¬ h p = bfF w h p) then a p else 0 := rfl
theorem bf_s {w h : Int → Int} {p : Nat} : bfF w h (p + 1) = if 0 < w p then h p else bfF w h p := rfl
set_option maxHeartbeats 1000000 in
theorem c_X3_countPoints {d k : Nat} {M : mM} {Q : mRes → mM → Prop} {c sq : Int} {LS : List Int} {NZ : zL} (hc0 : M 12 0 = c) (hN : netC c LS NZ M) (hnl : NZ.length = LS.length) (hz : zOK NZ) (hl6 : LS.length ≤ 6) (hc : 0 ≤ c ∧ c ≤ 99) (hQ : Q (.inl (some (mI (lyS sq c NZ (fun _ _ => 1) (LS.length + 1))))) M) : V (d + 1) k qX3_countPoints 0 [mR 12 4 90, mR 11 5 12, mI sq, mE 0, mE 0, mE 0, mE 0, mE 0] [] M Q := by
  have outer : ∀ (r l : Nat) (u5 u6 u7 : mV), l + r = LS.length + 1 → V (d + 1) k qX3_countPoints 5 [mR 12 4 90, mR 11 5 12, mI sq, mI (lyS sq c NZ (fun _ _ => 1) l), mI l, u5, u6, u7] [] M Q := by
    intro r
    induction r with
    | zero =>
      intro l u5 u6 u7 hl
      have Bk := B_X3_countPoints_5 (d := d) (k := k) (M := M) (Q := Q) (x2 := sq) (x3 := lyS sq c NZ (fun _ _ => 1) l) (x4 := l) (u5 := u5) (u6 := u6) (u7 := u7)
      rw [hN.1.1] at Bk
      exact Bk ⟨fun _ => by rw [show l = LS.length + 1 by omega]; exact hQ, fun z => by omega⟩
    | succ r ih =>
      intro l u5 u6 u7 hl
      have Bk := B_X3_countPoints_5 (d := d) (k := k) (M := M) (Q := Q) (x2 := sq) (x3 := lyS sq c NZ (fun _ _ => 1) l) (x4 := l) (u5 := u5) (u6 := u6) (u7 := u7)
      rw [hN.1.1] at Bk
      refine Bk ⟨fun z => by omega, fun _ => ?_⟩
      have hb0 := lyS_bd (sq := sq) (NZ := NZ) (a := fun _ _ => 1) (B := 1) hc (by omega) (l := l) (fun _ _ _ _ => by omega)
      have inner : ∀ (rp p : Nat) (u7 : mV), p + rp = c.toNat + 1 → V (d + 1) k qX3_countPoints 20 [mR 12 4 90, mR 11 5 12, mI sq, mI (lyS sq c NZ (fun _ _ => 1) l + ctF sq (wyF c NZ l) (hiF c NZ l) (fun _ => 1) p), mI l, mI (bfF (wyF c NZ l) (hiF c NZ l) p), mI p, u7] [] M Q := by
        intro rp
        induction rp with
        | zero =>
          intro p u7 hp
          have Bk := B_X3_countPoints_20 (d := d) (k := k) (M := M) (Q := Q) (x2 := sq) (x3 := lyS sq c NZ (fun _ _ => 1) l + ctF sq (wyF c NZ l) (hiF c NZ l) (fun _ => 1) p) (x4 := l) (x5 := bfF (wyF c NZ l) (hiF c NZ l) p) (x6 := p) (u7 := u7)
          rw [hc0] at Bk
          refine Bk ⟨fun _ => ⟨by omega, ?_⟩, fun z => by omega⟩
          rw [show p = c.toNat + 1 by omega]
          exact ih (l + 1) _ _ _ (by omega)
        | succ rp ihp =>
          intro p u7 hp
          have hb1 := ctF_bd (sq := sq) (w := wyF c NZ l) (h := hiF c NZ l) (a := fun _ => 1) (B := 1) (n := p) (fun _ _ => by omega) (by omega)
          have Bk := B_X3_countPoints_20 (d := d) (k := k) (M := M) (Q := Q) (x2 := sq) (x3 := lyS sq c NZ (fun _ _ => 1) l + ctF sq (wyF c NZ l) (hiF c NZ l) (fun _ => 1) p) (x4 := l) (x5 := bfF (wyF c NZ l) (hiF c NZ l) p) (x6 := p) (u7 := u7)
          rw [hc0] at Bk
          refine Bk ⟨fun z => by omega, fun _ => c_X3_isPoint hN hl6 hc (fun hp1 => ?_) (fun hp0 => ?_)⟩
          · have hw : 0 < wyF c NZ l p := by have := hp1.2.2.2.2; rwa [show (l : Int).toNat = l by omega] at this
            have Bk := B_X3_countPoints_41 (d := d) (k := k) (M := M) (Q := Q) (x2 := sq) (x3 := lyS sq c NZ (fun _ _ => 1) l + ctF sq (wyF c NZ l) (hiF c NZ l) (fun _ => 1) p) (x4 := l) (x5 := bfF (wyF c NZ l) (hiF c NZ l) p) (x6 := p) (u7 := u7) (sx0 := 1)
            rw [hc0] at Bk
            refine Bk ⟨fun z => by omega, fun _ => c_X3_highOf hN hnl hz hl6 hc (by omega) (by omega) ?_⟩
            have nxt := ihp (p + 1) (mI (hiF c NZ l p)) (by omega)
            rw [bf_s, if_pos hw, ct_s] at nxt
            refine B_X3_countPoints_56 ⟨fun e1 => ⟨by omega, by omega, ?_⟩, fun e1 => ⟨fun e2 => ⟨by omega, by omega, ?_⟩, fun e2 => ⟨by omega, by omega, ?_⟩⟩⟩
            · rw [if_pos ⟨hw, Or.inl e1⟩, ← Int.add_assoc] at nxt; exact nxt
            · rw [if_pos ⟨hw, Or.inr e2⟩, ← Int.add_assoc] at nxt; exact nxt
            · rw [if_neg (fun z => z.2.elim e1 (fun y => y e2)), ← Int.add_assoc] at nxt; exact nxt
          · have hw : ¬ 0 < wyF c NZ l p := fun z => hp0 ⟨by omega, by omega, by omega, by omega, by rwa [show (l : Int).toNat = l by omega]⟩
            have nxt := ihp (p + 1) u7 (by omega)
            rw [bf_s, if_neg hw, ct_s, if_neg (fun z => hw z.1), Int.add_zero] at nxt
            exact B_X3_countPoints_41 ⟨fun _ => ⟨by omega, nxt⟩, fun z => (z rfl).elim⟩
      have := inner (c.toNat + 1) 0 u7 (by omega)
      rw [show ctF sq (wyF c NZ l) (hiF c NZ l) (fun _ => 1) 0 = 0 from rfl, Int.add_zero] at this
      exact this
  exact B_X3_countPoints_0 (outer (LS.length + 1) 0 _ _ _ (by omega))
/-- the arcs of a place of a layer -/
def arL (c : Int) (NZ : zL) (l : Nat) (p : Int) : Int := arN (NZ.getD l (1, 0)).1 (NZ.getD l (1, 0)).2 (c - p)
set_option maxHeartbeats 1000000 in
theorem c_X3_countArcs {d k : Nat} {M : mM} {Q : mRes → mM → Prop} {c sq : Int} {K : Nat} {sz mn od : Int → Int} (hc0 : M 12 0 = c) (h13 : M 13 = sz) (h14 : M 14 = mn) (hG : GLok c K sz mn od) (hc1 : 1 ≤ c) (hN : netC c (lyL od mn K 0) (nzL sz mn (lyL od mn K 0)) M)
    (hQ : Q (.inl (some (mI (lyS sq c (nzL sz mn (lyL od mn K 0)) (arL c (nzL sz mn (lyL od mn K 0))) (lyL od mn K 0).length)))) M) : V (d + 2) k qX3_countArcs 0 [mR 12 4 90, mR 11 5 12, mI sq, mE 0, mE 0, mE 0, mE 0, mE 0] [] M Q := by
  have hK6 := hG.2.1
  have hc := hG.1
  have hL := lyL_len (od := od) (mn := mn) (r := K) (i := 0)
  have hz := nz_ok hG hc1
  have hnl := nz_len (sz := sz) (mn := mn) (L := lyL od mn K 0)
  have harc := fun (l p : Nat) (Q' : mRes → mM → Prop) (hl : l < (lyL od mn K 0).length) (hp : (p : Int) ≤ c) => c_X3_arcsFrom (d := d) (k := 0) (M := M) (Q := Q') (p := p) hc0 h13 h14 hG hc1 hl (hN.1.2 l hl) (by omega)
  have hat := fun l (hl : l < (lyL od mn K 0).length) => ly_at (sz := sz) hG hc1 hl
  have hab : ∀ l : Nat, l < (lyL od mn K 0).length → ∀ p : Int, 0 ≤ arL c (nzL sz mn (lyL od mn K 0)) l p ∧ arL c (nzL sz mn (lyL od mn K 0)) l p ≤ 25 := fun l hl p => by
    have h1 := hat l hl
    have h2 := arN_le (z := sz ((lyL od mn K 0).getD l 0)) (m := mn ((lyL od mn K 0).getD l 0)) (f := c - p) (by omega)
    unfold arL
    rw [h1.2.2.2]
    dsimp only
    omega
  have hae : ∀ l : Nat, l < (lyL od mn K 0).length → ∀ p : Int, arL c (nzL sz mn (lyL od mn K 0)) l p = arN (sz ((lyL od mn K 0).getD l 0)) (mn ((lyL od mn K 0).getD l 0)) (c - p) := fun l hl p => by
    unfold arL; rw [(hat l hl).2.2.2]
  generalize hNZ : nzL sz mn (lyL od mn K 0) = NZ at *
  generalize hLS : lyL od mn K 0 = LS at *
  have outer : ∀ (r l : Nat) (u5 u6 u7 : mV), l + r = LS.length → V (d + 2) k qX3_countArcs 5 [mR 12 4 90, mR 11 5 12, mI sq, mI (lyS sq c NZ (arL c NZ) l), mI l, u5, u6, u7] [] M Q := by
    intro r
    induction r with
    | zero =>
      intro l u5 u6 u7 hl
      have Bk := B_X3_countArcs_5 (d := d + 1) (k := k) (M := M) (Q := Q) (x2 := sq) (x3 := lyS sq c NZ (arL c NZ) l) (x4 := l) (u5 := u5) (u6 := u6) (u7 := u7)
      rw [hN.1.1] at Bk
      exact Bk ⟨fun _ => by rw [show l = LS.length by omega]; exact hQ, fun z => by omega⟩
    | succ r ih =>
      intro l u5 u6 u7 hl
      have Bk := B_X3_countArcs_5 (d := d + 1) (k := k) (M := M) (Q := Q) (x2 := sq) (x3 := lyS sq c NZ (arL c NZ) l) (x4 := l) (u5 := u5) (u6 := u6) (u7 := u7)
      rw [hN.1.1] at Bk
      refine Bk ⟨fun z => by omega, fun _ => ?_⟩
      have hb0 := lyS_bd (sq := sq) (NZ := NZ) (a := arL c NZ) (B := 25) hc (by omega) (l := l) (fun l' h1 p _ => hab l' (by omega) p)
      have inner : ∀ (rp p : Nat) (u7 : mV), p + rp = c.toNat + 1 → V (d + 2) k qX3_countArcs 20 [mR 12 4 90, mR 11 5 12, mI sq, mI (lyS sq c NZ (arL c NZ) l + ctF sq (wyF c NZ l) (hiF c NZ l) (arL c NZ l) p), mI l, mI (bfF (wyF c NZ l) (hiF c NZ l) p), mI p, u7] [] M Q := by
        intro rp
        induction rp with
        | zero =>
          intro p u7 hp
          have Bk := B_X3_countArcs_20 (d := d + 1) (k := k) (M := M) (Q := Q) (x2 := sq) (x3 := lyS sq c NZ (arL c NZ) l + ctF sq (wyF c NZ l) (hiF c NZ l) (arL c NZ l) p) (x4 := l) (x5 := bfF (wyF c NZ l) (hiF c NZ l) p) (x6 := p) (u7 := u7)
          rw [hc0] at Bk
          refine Bk ⟨fun _ => ⟨by omega, ?_⟩, fun z => by omega⟩
          rw [show p = c.toNat + 1 by omega]
          exact ih (l + 1) _ _ _ (by omega)
        | succ rp ihp =>
          intro p u7 hp
          have hb1 := ctF_bd (sq := sq) (w := wyF c NZ l) (h := hiF c NZ l) (a := arL c NZ l) (B := 25) (n := p) (fun q _ => hab l (by omega) q) (by omega)
          have ha1 := hab l (by omega) p
          have Bk := B_X3_countArcs_20 (d := d + 1) (k := k) (M := M) (Q := Q) (x2 := sq) (x3 := lyS sq c NZ (arL c NZ) l + ctF sq (wyF c NZ l) (hiF c NZ l) (arL c NZ l) p) (x4 := l) (x5 := bfF (wyF c NZ l) (hiF c NZ l) p) (x6 := p) (u7 := u7)
          rw [hc0] at Bk
          refine Bk ⟨fun z => by omega, fun _ => c_X3_isPoint hN (by omega) hc (fun hp1 => ?_) (fun hp0 => ?_)⟩
          · have hw : 0 < wyF c NZ l p := by have := hp1.2.2.2.2; rwa [show (l : Int).toNat = l by omega] at this
            have Bk := B_X3_countArcs_41 (d := d + 1) (k := k) (M := M) (Q := Q) (x2 := sq) (x3 := lyS sq c NZ (arL c NZ) l + ctF sq (wyF c NZ l) (hiF c NZ l) (arL c NZ l) p) (x4 := l) (x5 := bfF (wyF c NZ l) (hiF c NZ l) p) (x6 := p) (u7 := u7) (sx0 := 1)
            rw [hc0] at Bk
            refine Bk ⟨fun z => by omega, fun _ => c_X3_highOf hN hnl hz (by omega) hc (by omega) (by omega) ?_⟩
            have nxt := ihp (p + 1) (mI (hiF c NZ l p)) (by omega)
            rw [bf_s, if_pos hw, ct_s] at nxt
            have add : (sq = 0 ∨ ¬ hiF c NZ l p = bfF (wyF c NZ l) (hiF c NZ l) p) → V (d + 2) k qX3_countArcs 74 [mR 12 4 90, mR 11 5 12, mI sq, mI (lyS sq c NZ (arL c NZ) l + ctF sq (wyF c NZ l) (hiF c NZ l) (arL c NZ l) p), mI l, mI (bfF (wyF c NZ l) (hiF c NZ l) p), mI p, mI (hiF c NZ l p)] [mI (lyS sq c NZ (arL c NZ) l + ctF sq (wyF c NZ l) (hiF c NZ l) (arL c NZ l) p)] M Q := fun hh => by
              refine B_X3_countArcs_74 (harc l p _ (by omega) (by omega) ?_)
              rw [← hae l (by omega)]
              refine B_X3_countArcs_83 ⟨by omega, by omega, ?_⟩
              rw [if_pos ⟨hw, hh⟩, ← Int.add_assoc] at nxt
              exact nxt
            refine B_X3_countArcs_56 ⟨fun e1 => add (Or.inl e1), fun e1 => ⟨fun e2 => add (Or.inr e2), fun e2 => B_X3_countArcs_83 ⟨by omega, by omega, ?_⟩⟩⟩
            rw [if_neg (fun z => z.2.elim e1 (fun y => y e2)), ← Int.add_assoc] at nxt
            exact nxt
          · have hw : ¬ 0 < wyF c NZ l p := fun z => hp0 ⟨by omega, by omega, by omega, by omega, by rwa [show (l : Int).toNat = l by omega]⟩
            have nxt := ihp (p + 1) u7 (by omega)
            rw [bf_s, if_neg hw, ct_s, if_neg (fun z => hw z.1), Int.add_zero] at nxt
            exact B_X3_countArcs_41 ⟨fun _ => ⟨by omega, nxt⟩, fun z => (z rfl).elim⟩
      have := inner (c.toNat + 1) 0 u7 (by omega)
      rw [show ctF sq (wyF c NZ l) (hiF c NZ l) (arL c NZ l) 0 = 0 from rfl, Int.add_zero] at this
      exact this
  exact B_X3_countArcs_0 (outer LS.length 0 _ _ _ (by omega))
