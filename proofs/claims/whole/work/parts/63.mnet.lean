/-! the model's net -/
def netM (c : Int) (LS : List Int) (NZ : zL) (M : mM) : Prop := M 112 53 = LS.length ∧ (∀ l : Nat, l < LS.length → M 131 l = LS.getD l 0) ∧ (∀ l p : Nat, l ≤ LS.length → p < 100 → M 132 (100 * (l : Int) + p) = wyF c NZ l p) ∧ ∀ l p : Nat, l ≤ LS.length → (p : Int) ≤ c → M 133 (100 * (l : Int) + p) = hiF c NZ l p
set_option maxHeartbeats 4000000 in
theorem l_X10_laysNet {d k : Nat} {M : mM} {Q : mRes → mM → Prop} {c : Int} {K : Nat} {sz mn od : Int → Int} {u1 u2 u3 u4 u5 : mV} (hc0 : M 112 33 = c) (hK : M 112 7 = K) (h122 : M 122 = sz) (h121 : M 121 = mn) (h123 : M 123 = od) (hG : GLok c K sz mn od) (hc : 1 ≤ c)
    (hQ : ∀ M', frM [131, 132, 133] [53] M M' → netM c (lyL od mn K 0) (nzL sz mn (lyL od mn K 0)) M' → Q (.inl none) M') : V (d + 1) k qX10_laysNet 4 [mR 18 58 112, u1, u2, u3, u4, u5] [] M Q := by
  have hK6 := hG.2.1
  have hc9 := hG.1
  have hL := lyL_len (od := od) (mn := mn) (r := K) (i := 0)
  have hz := nz_ok hG hc
  have hnl := nz_len (sz := sz) (mn := mn) (L := lyL od mn K 0)
  have hat := fun l (hl : l < (lyL od mn K 0).length) => ly_at (sz := sz) hG hc hl
  have hcn : cn (nzL sz mn (lyL od mn K 0)) c < 100000 := by
    have e := (ly_cn (sz := sz) (mn := mn) (od := od) (r := K) (i := 0) (f := c) (fun j _ h2 => ⟨hG.m (by omega), (hG.z (by omega)).1⟩) (by omega)).1
    rw [e]
    have := hG.plen
    have e2 : cn (lst (zmF (fun j => sz (od j)) (fun j => mn (od j))) K 0) c = ((pats (zl K sz mn od) c).length : Int) := rfl
    omega
  generalize hNZ : nzL sz mn (lyL od mn K 0) = NZ at *
  generalize hLS : lyL od mn K 0 = LS at *
  have out : ∀ {M' : mM}, frM [131, 132, 133] [53] M M' → M' 112 33 = c ∧ M' 112 7 = K ∧ M' 122 = sz ∧ M' 121 = mn ∧ M' 123 = od := fun g => ⟨by rw [g.2 33 (by simp)]; exact hc0, by rw [g.2 7 (by simp)]; exact hK, by rw [g.1 122 (by simp) (by decide)]; exact h122, by rw [g.1 121 (by simp) (by decide)]; exact h121, by rw [g.1 123 (by simp) (by decide)]; exact h123⟩
  -- how high, the last layer first
  have rowH : ∀ (r p l : Nat) (u3 u4 u5 : mV) (M' : mM), p + r = c.toNat + 1 → l < LS.length → frM [131, 132, 133] [53] M M' → M' 112 53 = LS.length → (∀ l : Nat, l < LS.length → M' 131 l = LS.getD l 0) → (∀ l p : Nat, l ≤ LS.length → p < 100 → M' 132 (100 * (l : Int) + p) = wyF c NZ l p) → (∀ l' q : Nat, l < l' → l' ≤ LS.length → (q : Int) ≤ c → M' 133 (100 * (l' : Int) + q) = hiF c NZ l' q) → (∀ q : Nat, q < p → M' 133 (100 * (l : Int) + q) = hiF c NZ l q) →
      (∀ M'' u2 u3 u4 u5, frM [131, 132, 133] [53] M M'' → M'' 112 53 = LS.length → (∀ l : Nat, l < LS.length → M'' 131 l = LS.getD l 0) → (∀ l p : Nat, l ≤ LS.length → p < 100 → M'' 132 (100 * (l : Int) + p) = wyF c NZ l p) → (∀ l' q : Nat, l ≤ l' → l' ≤ LS.length → (q : Int) ≤ c → M'' 133 (100 * (l' : Int) + q) = hiF c NZ l' q) → V (d + 1) k qX10_laysNet 255 [mR 18 58 112, mI ((l : Int) + (-1)), u2, u3, u4, u5] [] M'' Q) →
      V (d + 1) k qX10_laysNet 261 [mR 18 58 112, mI l, mI p, u3, u4, u5] [] M' Q := by
    intro r
    induction r with
    | zero =>
      intro p l u3 u4 u5 M' hp hl g1 g2 g3 g4 g5 g6 hk
      obtain ⟨o1, o2, o3, o4, o5⟩ := out g1
      have Bk := B_X10_laysNet_261 (d := d) (k := k) (M := M') (Q := Q) (x1 := l) (x2 := p) (u3 := u3) (u4 := u4) (u5 := u5)
      rw [o1] at Bk
      refine Bk ⟨fun _ => ⟨by omega, hk M' _ _ _ _ g1 g2 g3 g4 (fun l' q h1 h2 h3 => ?_)⟩, fun z => by omega⟩
      by_cases e : l' = l
      · subst e; exact g6 q (by omega)
      · exact g5 l' q (by omega) h2 h3
    | succ r ih =>
      intro p l u3 u4 u5 M' hp hl g1 g2 g3 g4 g5 g6 hk
      obtain ⟨o1, o2, o3, o4, o5⟩ := out g1
      have ha := hat l hl
      have hd := drop_cons (L := NZ) (l := l) (by omega)
      rw [ha.2.2.2] at hd
      have h131 := g3 l hl
      generalize LS.getD l 0 = s at *
      have Bk := B_X10_laysNet_261 (d := d) (k := k) (M := M') (Q := Q) (x1 := l) (x2 := p) (u3 := u3) (u4 := u4) (u5 := u5)
      rw [o1] at Bk
      refine Bk ⟨fun z => by omega, fun _ => ?_⟩
      have fin : ∀ (n : Nat) (u5 : mV), n = arN (sz s) (mn s) (c - p) → V (d + 1) k qX10_laysNet 376 [mR 18 58 112, mI l, mI p, mI (c - mxF (fun n => n * sz s + rc (NZ.drop (l + 1)) (c - p - n * sz s)) n), mI n, u5] [] M' Q := fun n u5 hn => by
        refine B_X10_laysNet_376 ⟨by omega, by omega, by omega, by omega, ih (p + 1) l _ _ _ _ (by omega) hl (g1.up (by simp) (by decide)) (by rw [up_row (by decide)]; exact g2) (fun l' hl' => by rw [up_row (by decide)]; exact g3 l' hl') (fun l' q h1 h2 => by rw [up_row (by decide)]; exact g4 l' q h1 h2) (fun l' q h1 h2 h3 => by rw [up_fld (by omega)]; exact g5 l' q h1 h2 h3) (fun q hq => ?_) hk⟩
        by_cases e : q = p
        · subst e; rw [up_s]; unfold hiF; rw [hd, hn]; rfl
        · rw [up_fld (by omega)]; exact g6 q (by omega)
      have arcs : ∀ (rr n : Nat) (u5 : mV), n + rr = arN (sz s) (mn s) (c - p) → V (d + 1) k qX10_laysNet 277 [mR 18 58 112, mI l, mI p, mI (c - mxF (fun n => n * sz s + rc (NZ.drop (l + 1)) (c - p - n * sz s)) n), mI n, u5] [] M' Q := by
        intro rr
        induction rr with
        | zero =>
          intro n u5 hn
          have hi := arN_iff (z := sz s) (m := mn s) (f := c - p) ha.2.1.1 (by omega) (by omega) (n := n)
          have hle := arN_le (z := sz s) (m := mn s) (f := c - p) (by omega)
          have hpr := mulp (x := n) (y := sz s) (a := 25) (b := 99) (by omega) (by omega)
          have Bk := B_X10_laysNet_277 (d := d) (k := k) (M := M') (Q := Q) (x1 := l) (x2 := p) (x3 := c - mxF (fun n => n * sz s + rc (NZ.drop (l + 1)) (c - p - n * sz s)) n) (x4 := n) (u5 := u5)
          rw [o1, h131, o3, o4] at Bk
          refine Bk ⟨by omega, by omega, fun _ => fin n u5 (by omega), fun c1 => ⟨by omega, by omega, by omega, by omega, fun _ => fin n u5 (by omega), fun c2 => by omega⟩⟩
        | succ rr ihr =>
          intro n u5 hn
          have hi := (arN_iff (z := sz s) (m := mn s) (f := c - p) ha.2.1.1 (by omega) (by omega) (n := n)).mp (by omega)
          have hpr := mulp (x := n) (y := sz s) (a := 25) (b := 99) (by omega) (by omega)
          obtain ⟨q0, hq0⟩ : ∃ q : Nat, (p : Int) + n * sz s = q := ⟨((p : Int) + n * sz s).toNat, by omega⟩
          have e1 : 100 * ((l : Int) + 1) + p + n * sz s = 100 * ((l + 1 : Nat) : Int) + q0 := by omega
          have hh := g5 (l + 1) q0 (by omega) (by omega) (by omega)
          have hv : hiF c NZ (l + 1) q0 - n * sz s = c - (n * sz s + rc (NZ.drop (l + 1)) (c - p - n * sz s)) := by
            unfold hiF; rw [show c - (q0 : Int) = c - p - n * sz s by omega]; omega
          have hrb := rc_bd (l := NZ.drop (l + 1)) (f := c - p - n * sz s) hz.d (by omega)
          have nxt := fun u5 => ihr (n + 1) u5 (by omega)
          have em : mxF (fun n => n * sz s + rc (NZ.drop (l + 1)) (c - p - n * sz s)) (n + 1) = max (mxF (fun n => n * sz s + rc (NZ.drop (l + 1)) (c - p - n * sz s)) n) (n * sz s + rc (NZ.drop (l + 1)) (c - p - n * sz s)) := rfl
          rw [em] at nxt
          generalize mxF (fun n => n * sz s + rc (NZ.drop (l + 1)) (c - p - n * sz s)) n = mx0 at *
          have Bk := B_X10_laysNet_277 (d := d) (k := k) (M := M') (Q := Q) (x1 := l) (x2 := p) (x3 := c - mx0) (x4 := n) (u5 := u5)
          rw [o1, h131, o3, o4, e1, hh, hv] at Bk
          refine Bk ⟨by omega, by omega, fun z => by omega, fun _ => ⟨by omega, by omega, by omega, by omega, fun z => by omega, fun _ => ⟨by omega, by omega, by omega, by omega, by omega, by omega, by omega, by omega, by omega, by omega, by omega, by omega, fun c3 => ⟨by omega, ?_⟩, fun c3 => ⟨by omega, ?_⟩⟩⟩⟩
          · have := nxt (mI (c - (n * sz s + rc (NZ.drop (l + 1)) (c - p - n * sz s))))
            rw [show max mx0 (n * sz s + rc (NZ.drop (l + 1)) (c - p - n * sz s)) = mx0 by omega] at this
            exact this
          · have := nxt (mI (c - (n * sz s + rc (NZ.drop (l + 1)) (c - p - n * sz s))))
            rw [show max mx0 (n * sz s + rc (NZ.drop (l + 1)) (c - p - n * sz s)) = n * sz s + rc (NZ.drop (l + 1)) (c - p - n * sz s) by omega] at this
            exact this
      have := arcs (arN (sz s) (mn s) (c - p)) 0 u5 (by omega)
      rw [show c - mxF (fun n => n * sz s + rc (NZ.drop (l + 1)) (c - p - n * sz s)) 0 = c by show c - 0 = c; omega] at this
      exact this
  have down : ∀ (l : Nat) (u2 u3 u4 u5 : mV) (M' : mM), l ≤ LS.length → frM [131, 132, 133] [53] M M' → M' 112 53 = LS.length → (∀ l : Nat, l < LS.length → M' 131 l = LS.getD l 0) → (∀ l p : Nat, l ≤ LS.length → p < 100 → M' 132 (100 * (l : Int) + p) = wyF c NZ l p) → (∀ l' q : Nat, l ≤ l' → l' ≤ LS.length → (q : Int) ≤ c → M' 133 (100 * (l' : Int) + q) = hiF c NZ l' q) → V (d + 1) k qX10_laysNet 255 [mR 18 58 112, mI ((l : Int) - 1), u2, u3, u4, u5] [] M' Q := by
    intro l
    induction l with
    | zero =>
      intro u2 u3 u4 u5 M' hl g1 g2 g3 g4 g5
      exact B_X10_laysNet_255 ⟨fun _ => hQ M' g1 ⟨g2, g3, g4, fun l p h1 h2 => g5 l p (by omega) h1 h2⟩, fun z => by omega⟩
    | succ l ih =>
      intro u2 u3 u4 u5 M' hl g1 g2 g3 g4 g5
      rw [show ((l + 1 : Nat) : Int) - 1 = l by omega]
      refine B_X10_laysNet_255 ⟨fun z => by omega, fun _ => rowH (c.toNat + 1) 0 l _ _ _ M' (by omega) (by omega) g1 g2 g3 g4 (fun l' q h1 h2 h3 => g5 l' q (by omega) h2 h3) (fun q hq => by omega) (fun M'' u2 u3 u4 u5 a1 a2 a3 a4 a5 => ?_)⟩
      rw [show (l : Int) + (-1) = (l : Int) - 1 by omega]
      exact ih u2 u3 u4 u5 M'' (by omega) a1 a2 a3 a4 a5
  have last : ∀ (r p : Nat) (u2 u3 u4 u5 : mV) (M' : mM), p + r = c.toNat + 1 → frM [131, 132, 133] [53] M M' → M' 112 53 = LS.length → (∀ l : Nat, l < LS.length → M' 131 l = LS.getD l 0) → (∀ l p : Nat, l ≤ LS.length → p < 100 → M' 132 (100 * (l : Int) + p) = wyF c NZ l p) → (∀ q : Nat, q < p → M' 133 (100 * (LS.length : Int) + q) = c) → V (d + 1) k qX10_laysNet 216 [mR 18 58 112, mI p, u2, u3, u4, u5] [] M' Q := by
    intro r
    induction r with
    | zero =>
      intro p u2 u3 u4 u5 M' hp g1 g2 g3 g4 g5
      obtain ⟨o1, o2, o3, o4, o5⟩ := out g1
      have Bk := B_X10_laysNet_216 (d := d) (k := k) (M := M') (Q := Q) (x1 := p) (u2 := u2) (u3 := u3) (u4 := u4) (u5 := u5)
      rw [o1, g2] at Bk
      refine Bk ⟨fun _ => ⟨by omega, down LS.length u2 u3 u4 u5 M' (Nat.le_refl _) g1 g2 g3 g4 (fun l' q h1 h2 h3 => ?_)⟩, fun z => by omega⟩
      have e : l' = LS.length := by omega
      subst e
      rw [g5 q (by omega)]
      unfold hiF
      rw [List.drop_eq_nil_of_le (by omega)]
      show c = c - 0
      omega
    | succ r ih =>
      intro p u2 u3 u4 u5 M' hp g1 g2 g3 g4 g5
      obtain ⟨o1, o2, o3, o4, o5⟩ := out g1
      have Bk := B_X10_laysNet_216 (d := d) (k := k) (M := M') (Q := Q) (x1 := p) (u2 := u2) (u3 := u3) (u4 := u4) (u5 := u5)
      rw [o1, g2] at Bk
      refine Bk ⟨fun z => by omega, fun _ => ⟨by omega, by omega, by omega, by omega, ih (p + 1) u2 u3 u4 u5 _ (by omega) (g1.up (by simp) (by decide)) (by rw [up_row (by decide)]; exact g2) (fun l' hl' => by rw [up_row (by decide)]; exact g3 l' hl') (fun l' q h1 h2 => by rw [up_row (by decide)]; exact g4 l' q h1 h2) (fun q hq => ?_)⟩⟩
      by_cases e : q = p
      · subst e; rw [up_s]
      · rw [up_fld (by omega)]; exact g5 q (by omega)
  have rowW : ∀ (r p l : Nat) (u3 u4 u5 : mV) (M' : mM), p + r = c.toNat + 1 → l < LS.length → frM [131, 132, 133] [53] M M' → M' 112 53 = LS.length → (∀ l : Nat, l < LS.length → M' 131 l = LS.getD l 0) → (∀ l' q : Nat, l' ≤ l → q < 100 → M' 132 (100 * (l' : Int) + q) = wyF c NZ l' q) → (∀ l' q : Nat, l + 1 < l' → l' ≤ LS.length → q < 100 → M' 132 (100 * (l' : Int) + q) = 0) → (∀ q : Nat, q < 100 → M' 132 (100 * ((l + 1 : Nat) : Int) + q) = scP (wyF c NZ l) (sz (LS.getD l 0)) (mn (LS.getD l 0)) c p q) →
      (∀ M'' u2 u3 u4 u5, frM [131, 132, 133] [53] M M'' → M'' 112 53 = LS.length → (∀ l : Nat, l < LS.length → M'' 131 l = LS.getD l 0) → (∀ l' q : Nat, l' ≤ l + 1 → q < 100 → M'' 132 (100 * (l' : Int) + q) = wyF c NZ l' q) → (∀ l' q : Nat, l + 1 < l' → l' ≤ LS.length → q < 100 → M'' 132 (100 * (l' : Int) + q) = 0) → V (d + 1) k qX10_laysNet 98 [mR 18 58 112, mI ((l : Int) + 1), u2, u3, u4, u5] [] M'' Q) →
      V (d + 1) k qX10_laysNet 108 [mR 18 58 112, mI l, mI p, u3, u4, u5] [] M' Q := by
    intro r
    induction r with
    | zero =>
      intro p l u3 u4 u5 M' hp hl g1 g2 g3 g4 g5 g6 hk
      obtain ⟨o1, o2, o3, o4, o5⟩ := out g1
      have Bk := B_X10_laysNet_108 (d := d) (k := k) (M := M') (Q := Q) (x1 := l) (x2 := p) (u3 := u3) (u4 := u4) (u5 := u5)
      rw [o1] at Bk
      refine Bk ⟨fun _ => ⟨by omega, hk M' _ _ _ _ g1 g2 g3 (fun l' q h1 h2 => ?_) g5⟩, fun z => by omega⟩
      by_cases e : l' = l + 1
      · subst e
        rw [g6 q h2, show p = c.toNat + 1 by omega]
        show _ = scP (wyF c NZ l) (NZ.getD l (1, 0)).1 (NZ.getD l (1, 0)).2 c (c.toNat + 1) q
        rw [(hat l hl).2.2.2]
      · exact g4 l' q (by omega) h2
    | succ r ih =>
      intro p l u3 u4 u5 M' hp hl g1 g2 g3 g4 g5 g6 hk
      obtain ⟨o1, o2, o3, o4, o5⟩ := out g1
      have ha := hat l hl
      have hbd := fun (n : Nat) hn => scN_bd hz (c := c) (by omega) (l := l) (by omega) (p := p) (n := n) (by omega) hn
      rw [ha.2.2.2] at hbd
      dsimp only at hbd
      have hwp := g4 l p (Nat.le_refl _) (by omega)
      have hwb := wyF_bd hz (c := c) (by omega) (l := l) (by omega) p
      have Bk := B_X10_laysNet_108 (d := d) (k := k) (M := M') (Q := Q) (x1 := l) (x2 := p) (u3 := u3) (u4 := u4) (u5 := u5)
      rw [o1] at Bk
      refine Bk ⟨fun z => by omega, fun _ => ?_⟩
      have arcs : ∀ (rr n : Nat) (M2 : mM), n + rr = arN (sz (LS.getD l 0)) (mn (LS.getD l 0)) (c - p) → frM [131, 132, 133] [53] M M2 → M2 112 53 = LS.length → (∀ l : Nat, l < LS.length → M2 131 l = LS.getD l 0) → (∀ l' q : Nat, l' ≤ l → q < 100 → M2 132 (100 * (l' : Int) + q) = wyF c NZ l' q) → (∀ l' q : Nat, l + 1 < l' → l' ≤ LS.length → q < 100 → M2 132 (100 * (l' : Int) + q) = 0) → (∀ q : Nat, q < 100 → M2 132 (100 * ((l + 1 : Nat) : Int) + q) = scN (wyF c NZ l p) (sz (LS.getD l 0)) p (scP (wyF c NZ l) (sz (LS.getD l 0)) (mn (LS.getD l 0)) c p) n q) → V (d + 1) k qX10_laysNet 118 [mR 18 58 112, mI l, mI p, mI n, u4, u5] [] M2 Q := by
        intro rr
        induction rr with
        | zero =>
          intro n M2 hn f1 f2 f3 f4 f5 f6
          obtain ⟨o1, o2, o3, o4, o5⟩ := out f1
          have h131 := f3 l hl
          have fin : V (d + 1) k qX10_laysNet 108 [mR 18 58 112, mI l, mI ((p : Int) + 1), mI n, u4, u5] [] M2 Q := by
            refine ih (p + 1) l _ _ _ M2 (by omega) hl f1 f2 f3 f4 f5 (fun q hq => ?_) hk
            rw [f6 q hq, show n = arN (sz (LS.getD l 0)) (mn (LS.getD l 0)) (c - p) by omega]; rfl
          generalize LS.getD l 0 = s at *
          have hi := arN_iff (z := sz s) (m := mn s) (f := c - p) ha.2.1.1 (by omega) (by omega) (n := n)
          have hle := arN_le (z := sz s) (m := mn s) (f := c - p) (by omega)
          have hpr := mulp (x := n) (y := sz s) (a := 25) (b := 99) (by omega) (by omega)
          have Bk := B_X10_laysNet_118 (d := d) (k := k) (M := M2) (Q := Q) (x1 := l) (x2 := p) (x3 := n) (u4 := u4) (u5 := u5)
          rw [o1, h131, o3, o4] at Bk
          exact Bk ⟨by omega, by omega, fun _ => ⟨by omega, fin⟩, fun c1 => ⟨by omega, by omega, by omega, by omega, fun _ => ⟨by omega, fin⟩, fun c2 => by omega⟩⟩
        | succ rr ihr =>
          intro n M2 hn f1 f2 f3 f4 f5 f6
          obtain ⟨o1, o2, o3, o4, o5⟩ := out f1
          have h131 := f3 l hl
          have hi := (arN_iff (z := sz (LS.getD l 0)) (m := mn (LS.getD l 0)) (f := c - p) ha.2.1.1 (by omega) (by omega) (n := n)).mp (by omega)
          have hpr := mulp (x := n) (y := sz (LS.getD l 0)) (a := 25) (b := 99) (by omega) (by omega)
          obtain ⟨q0, hq0⟩ : ∃ q : Nat, (p : Int) + n * sz (LS.getD l 0) = q := ⟨((p : Int) + n * sz (LS.getD l 0)).toNat, by omega⟩
          have e1 : 100 * ((l : Int) + 1) + p + n * sz (LS.getD l 0) = 100 * ((l + 1 : Nat) : Int) + q0 := by omega
          have b1 := hbd n (by omega) q0
          have w1 := f4 l p (Nat.le_refl _) (by omega)
          have Bk := B_X10_laysNet_118 (d := d) (k := k) (M := M2) (Q := Q) (x1 := l) (x2 := p) (x3 := n) (u4 := u4) (u5 := u5)
          rw [o1, h131, o3, o4, e1, f6 q0 (by omega), w1] at Bk
          refine Bk ⟨by omega, by omega, fun z => by omega, fun _ => ⟨by omega, by omega, by omega, by omega, fun z => by omega, fun _ => ⟨by omega, by omega, by omega, by omega, by omega, by omega, by omega, by omega, by omega, by omega, by omega, by omega, by omega, by omega, ihr (n + 1) _ (by omega) (f1.up (by simp) (by decide)) (by rw [up_row (by decide)]; exact f2) (fun l' hl' => by rw [up_row (by decide)]; exact f3 l' hl') (fun l' q h1 h2 => by rw [up_fld (by omega)]; exact f4 l' q h1 h2) (fun l' q h1 h2 h3 => by rw [up_fld (by omega)]; exact f5 l' q h1 h2 h3) (fun q hq => ?_)⟩⟩⟩
          show _ = fset (scN (wyF c NZ l p) (sz (LS.getD l 0)) p (scP (wyF c NZ l) (sz (LS.getD l 0)) (mn (LS.getD l 0)) c p) n) (p + n * sz (LS.getD l 0)) (scN (wyF c NZ l p) (sz (LS.getD l 0)) p (scP (wyF c NZ l) (sz (LS.getD l 0)) (mn (LS.getD l 0)) c p) n (p + n * sz (LS.getD l 0)) + wyF c NZ l p) q
          rw [hq0]
          by_cases e : (q : Int) = q0
          · rw [e, up_s, fset_s]
          · rw [up_fld (by omega), fset_n e]; exact f6 q hq
      exact arcs (arN (sz (LS.getD l 0)) (mn (LS.getD l 0)) (c - p)) 0 M' (by omega) g1 g2 g3 g4 g5 g6
  have ways : ∀ (r l : Nat) (u2 u3 u4 u5 : mV) (M' : mM), l + r = LS.length → frM [131, 132, 133] [53] M M' → M' 112 53 = LS.length → (∀ l : Nat, l < LS.length → M' 131 l = LS.getD l 0) → (∀ l' q : Nat, l' ≤ l → q < 100 → M' 132 (100 * (l' : Int) + q) = wyF c NZ l' q) → (∀ l' q : Nat, l < l' → l' ≤ LS.length → q < 100 → M' 132 (100 * (l' : Int) + q) = 0) → V (d + 1) k qX10_laysNet 98 [mR 18 58 112, mI l, u2, u3, u4, u5] [] M' Q := by
    intro r
    induction r with
    | zero =>
      intro l u2 u3 u4 u5 M' hl g1 g2 g3 g4 g5
      have Bk := B_X10_laysNet_98 (d := d) (k := k) (M := M') (Q := Q) (x1 := l) (u2 := u2) (u3 := u3) (u4 := u4) (u5 := u5)
      rw [g2] at Bk
      exact Bk ⟨fun _ => last (c.toNat + 1) 0 u2 u3 u4 u5 M' (by omega) g1 g2 g3 (fun l' q h1 h2 => g4 l' q (by omega) h2) (fun q hq => by omega), fun z => by omega⟩
    | succ r ih =>
      intro l u2 u3 u4 u5 M' hl g1 g2 g3 g4 g5
      have Bk := B_X10_laysNet_98 (d := d) (k := k) (M := M') (Q := Q) (x1 := l) (u2 := u2) (u3 := u3) (u4 := u4) (u5 := u5)
      rw [g2] at Bk
      exact Bk ⟨fun z => by omega, fun _ => rowW (c.toNat + 1) 0 l _ _ _ M' (by omega) (by omega) g1 g2 g3 g4 (fun l' q h1 h2 h3 => g5 l' q (by omega) h2 h3) (fun q hq => g5 (l + 1) q (by omega) (by omega) hq) (fun M'' u2 u3 u4 u5 a1 a2 a3 a4 a5 => ih (l + 1) u2 u3 u4 u5 M'' (by omega) a1 a2 a3 a4 a5)⟩
  have zero : ∀ (r j : Nat) (u2 u3 u4 u5 : mV) (M' : mM), j + r = 700 → frM [131, 132, 133] [53] M M' → M' 112 53 = LS.length → (∀ l : Nat, l < LS.length → M' 131 l = LS.getD l 0) → (∀ i : Nat, i < j → M' 132 i = 0) → V (d + 1) k qX10_laysNet 69 [mR 18 58 112, mI j, u2, u3, u4, u5] [] M' Q := by
    intro r
    induction r with
    | zero =>
      intro j u2 u3 u4 u5 M' hj g1 g2 g3 g4
      have nil : ∀ l' q : Nat, 0 < l' → l' ≤ LS.length → q < 100 → mUp M' 132 0 1 132 (100 * (l' : Int) + q) = 0 := fun l' q h1 h2 h3 => by
        rw [up_fld (by omega)]
        have := g4 (100 * l' + q) (by omega)
        rwa [show ((100 * l' + q : Nat) : Int) = 100 * (l' : Int) + q by omega] at this
      refine B_X10_laysNet_69 ⟨fun _ => ways LS.length 0 u2 u3 u4 u5 _ (by omega) (g1.up (by simp) (by decide)) (by rw [up_row (by decide)]; exact g2) (fun l' hl' => by rw [up_row (by decide)]; exact g3 l' hl') (fun l' q h1 h2 => ?_) nil, fun z => by omega⟩
      have e0 : l' = 0 := by omega
      subst e0
      show mUp M' 132 0 1 132 (100 * ((0 : Nat) : Int) + q) = fset (fun _ => 0) 0 1 q
      by_cases e : q = 0
      · subst e; exact up_s.trans fset_s.symm
      · rw [up_fld (by omega), fset_n (by omega), show 100 * ((0 : Nat) : Int) + (q : Int) = q by omega]; exact g4 q (by omega)
    | succ r ih =>
      intro j u2 u3 u4 u5 M' hj g1 g2 g3 g4
      refine B_X10_laysNet_69 ⟨fun z => by omega, fun _ => ⟨by omega, by omega, ih (j + 1) u2 u3 u4 u5 _ (by omega) (g1.up (by simp) (by decide)) (by rw [up_row (by decide)]; exact g2) (fun l' hl' => by rw [up_row (by decide)]; exact g3 l' hl') (fun i hi => ?_)⟩⟩
      by_cases e : i = j
      · subst e; rw [up_s]
      · rw [up_fld (by omega)]; exact g4 i (by omega)
  have lays : ∀ (r i j : Nat) (u2 u3 u4 u5 : mV) (M' : mM), i + r = K → j ≤ i → frM [131, 132, 133] [53] M M' → M' 112 53 = j → LS.drop j = lyL od mn r i → j ≤ LS.length → (∀ t : Nat, t < j → M' 131 t = LS.getD t 0) → V (d + 1) k qX10_laysNet 11 [mR 18 58 112, mI i, u2, u3, u4, u5] [] M' Q := by
    intro r
    induction r with
    | zero =>
      intro i j u2 u3 u4 u5 M' hi hj g1 g2 g3 gl g4
      obtain ⟨o1, o2, o3, o4, o5⟩ := out g1
      have hjl : LS.length ≤ j := List.drop_eq_nil_iff.mp g3
      have hjl2 : j = LS.length := by omega
      have Bk := B_X10_laysNet_11 (d := d) (k := k) (M := M') (Q := Q) (x1 := i) (u2 := u2) (u3 := u3) (u4 := u4) (u5 := u5)
      rw [o2, g2] at Bk
      subst hjl2
      exact Bk ⟨fun _ => zero 700 0 u2 u3 u4 u5 M' (by omega) g1 g2 g4 (fun g hg => by omega), fun z => by omega⟩
    | succ r ih =>
      intro i j u2 u3 u4 u5 M' hi hj g1 g2 g3 gl g4
      obtain ⟨o1, o2, o3, o4, o5⟩ := out g1
      have ho := hG.o (i := i) (by omega)
      have hm := hG.m (i := i) (by omega)
      have Bk := B_X10_laysNet_11 (d := d) (k := k) (M := M') (Q := Q) (x1 := i) (u2 := u2) (u3 := u3) (u4 := u4) (u5 := u5)
      rw [o2, g2, o5, o4] at Bk
      refine Bk ⟨fun z => by omega, fun _ => ⟨by omega, by omega, fun c1 => ⟨by omega, by omega, by omega, by omega, ?_⟩, fun c1 => ⟨by omega, ?_⟩⟩⟩
      · have g3' : LS.drop j = od i :: lyL od mn r (i + 1) := by rw [g3]; exact if_pos (by omega)
        obtain ⟨q1, q2, q3⟩ := dropL g3'
        refine ih (i + 1) (j + 1) u2 u3 u4 u5 _ (by omega) (by omega) ((g1.up (by simp) (by decide)).fl (by simp)) (by rw [up_s]; rfl) q2 (by omega) (fun t ht => ?_)
        rw [up_row (by decide)]
        by_cases e : t = j
        · subst e; rw [up_s, q1]
        · rw [up_fld (by omega)]; exact g4 t (by omega)
      · refine ih (i + 1) j u2 u3 u4 u5 M' (by omega) (by omega) g1 g2 ?_ gl g4
        rw [g3]; exact if_neg (by omega)
  exact B_X10_laysNet_4 (lays K 0 0 _ _ _ _ _ (by omega) (by omega) (frM.rf.fl (by simp)) up_s hLS.symm (by omega) (fun t ht => by omega))
