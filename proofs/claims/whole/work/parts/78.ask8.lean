/-! questions: toHold, spare -/
def taF (sz mn : Int → Int) : Nat → Int
  | 0 => 0
  | j + 1 => if mn j ≤ 0 then taF sz mn j else max (taF sz mn j) (sz j)
theorem taF_ge {sz mn : Int → Int} : ∀ {n : Nat} (j : Nat), j < n → 0 < mn j → sz j ≤ taF sz mn n
  | 0, j, h, _ => by omega
  | n + 1, j, h, hm => by
    unfold taF
    by_cases e : j = n
    · subst e; rw [if_neg (by omega)]; omega
    · have := taF_ge (sz := sz) (mn := mn) (n := n) j (by omega) hm
      split <;> omega
theorem taF_bd {sz mn : Int → Int} {c : Int} (hc : 0 ≤ c) : ∀ {n : Nat}, (∀ j : Nat, j < n → 0 ≤ sz j ∧ sz j ≤ c) → 0 ≤ taF sz mn n ∧ taF sz mn n ≤ c
  | 0, _ => ⟨Int.le_refl _, hc⟩
  | n + 1, h => by
    have h1 := taF_bd (sz := sz) (mn := mn) hc (n := n) (fun j hj => h j (by omega))
    have h2 := h n (by omega)
    unfold taF
    split <;> omega
/-- the first capacity from x on by which so few bins do; none up to 99 -/
def thF (g : Int → Int) (m : Int) : Nat → Int → Int
  | 0, _ => -1
  | r + 1, x => if m < g x then thF g m r (x + 1) else x
theorem thF_skip {g : Int → Int} {m : Int} : ∀ {t r : Nat} {x : Int}, (∀ y : Int, x ≤ y → y < x + t → m < g y) → thF g m (t + r) x = thF g m r (x + t)
  | 0, r, x, _ => by rw [show 0 + r = r by omega, show x + ((0 : Nat) : Int) = x by omega]
  | t + 1, r, x, h => by
    rw [show t + 1 + r = (t + r) + 1 by omega]
    show (if m < g x then thF g m (t + r) (x + 1) else x) = _
    rw [if_pos (h x (by omega) (by omega)), thF_skip (t := t) (r := r) (x := x + 1) (fun y h1 h2 => h y (by omega) (by omega))]
    congr 1; omega
abbrev fwC (K : Nat) (M : mM) (x : Int) : Int := (fewT x K (M 9) (M 113) (orF (M 9) K)).1
def an_hold (K : Nat) (M : mM) (m : Int) : An := if 1 ≤ m ∧ m ≤ 24 then .inl (thF (fwC K M) m (100 - max 1 (taF (M 9) (M 113) K)).toNat (max 1 (taF (M 9) (M 113) K))) else .inr 2
theorem St.ta {c : Int} {K : Nat} {N : Int} {M : mM} (h : St c K N M) : 0 ≤ taF (M 9) (M 113) K ∧ taF (M 9) (M 113) K ≤ c := taF_bd (by have := h.1.1; omega) (fun j hj => by have := h.sz hj; omega)
theorem St.at {c : Int} {K : Nat} {N : Int} {M : mM} (h : St c K N M) {x : Int} (hx : max 1 (taF (M 9) (M 113) K) ≤ x ∧ x ≤ 99) : GLok x K (M 9) (M 113) (orF (M 9) K) ∧ PkL x K (M 9) (M 113) (orF (M 9) K) := by
  have hG : GLok x K (M 9) (M 113) (orF (M 9) K) := h.GL.ch (by omega)
  exact ⟨hG, hG.pkL (by omega) (fun s hs hm => by have := taF_ge (sz := M 9) (mn := M 113) s hs hm; omega)⟩
theorem hold_skip {c : Int} {K : Nat} {N : Int} {M : mM} (h : St c K N M) {m : Int} (hm : 1 ≤ m) {x : Int} (hx : max 1 (taF (M 9) (M 113) K) ≤ x ∧ x ≤ 99) (hx2 : x < rUp (wtF K (M 9) (M 113)) m) : m < fwC K M x := by
  have ha := h.at hx
  have hw := fewT_wt ha.1 ha.2
  rcases (by omega : m < fwC K M x ∨ fwC K M x ≤ m) with e | e
  · exact e
  · have h1 : x * fwC K M x ≤ x * m := Int.mul_le_mul_of_nonneg_left e (by omega)
    have hw' : wtF K (M 9) (M 113) ≤ x * fwC K M x := hw
    unfold rUp at hx2
    split at hx2
    · omega
    · rename_i hn
      have h2 : x ≤ (wtF K (M 9) (M 113) - 1) / m := by omega
      have h3 := (Int.le_ediv_iff_mul_le (show 0 < m by omega)).mp h2
      omega
theorem c_X2_tallest {d k : Nat} {M : mM} {Q : mRes → mM → Prop} {K : Nat} (hK : M 12 1 = K) (hK6 : K ≤ 6) (hQ : Q (.inl (some (mI (taF (M 13) (M 14) K)))) M) : V (d + 1) k qX2_tallest 0 [mR 11 5 12, mE 0, mE 0] [] M Q := by
  have loop : ∀ r j : Nat, j + r = K → V (d + 1) k qX2_tallest 4 [mR 11 5 12, mI (taF (M 13) (M 14) j), mI j] [] M Q := by
    intro r
    induction r with
    | zero =>
      intro j hj
      have Bk := B_X2_tallest_4 (d := d) (k := k) (M := M) (Q := Q) (n0 := 12) (x1 := taF (M 13) (M 14) j) (x2 := j) (by decide)
      rw [hK] at Bk
      exact Bk ⟨fun _ => by rw [show j = K by omega]; exact hQ, fun z => by omega⟩
    | succ r ih =>
      intro j hj
      have e : taF (M 13) (M 14) (j + 1) = if M 14 j ≤ 0 then taF (M 13) (M 14) j else max (taF (M 13) (M 14) j) (M 13 j) := rfl
      have nxt := ih (j + 1) (by omega)
      rw [e] at nxt
      have Bk := B_X2_tallest_4 (d := d) (k := k) (M := M) (Q := Q) (n0 := 12) (x1 := taF (M 13) (M 14) j) (x2 := j) (by decide)
      rw [hK] at Bk
      refine Bk ⟨fun z => by omega, fun _ => ⟨by omega, fun c1 => ⟨by omega, ?_⟩, fun c1 => ⟨by omega, by omega, ?_⟩⟩⟩
      · have c1' : M 14 j ≤ 0 := c1
        rw [if_pos c1'] at nxt; exact nxt
      · have c1' : ¬ M 14 j ≤ 0 := c1
        rw [if_neg c1'] at nxt; exact nxt
  exact B_X2_tallest_0 (by decide) (loop K 0 (by omega))
theorem taF_cg {sz mn sz' mn' : Int → Int} : ∀ {n : Nat}, (∀ j : Nat, j < n → sz j = sz' j ∧ mn j = mn' j) → taF sz mn n = taF sz' mn' n
  | 0, _ => rfl
  | n + 1, h => by
    unfold taF
    rw [taF_cg (n := n) (fun j hj => h j (by omega)), (h n (by omega)).1, (h n (by omega)).2]
theorem xq_hold {d : Nat} {c : Int} {K : Nat} {N : Int} {M : mM} {Q : mRes → mM → Prop} {m : Int} (hS : St c K N M) (hQ : ∀ M', kpX M M' → Q (xr (an_hold K M m)) M') : V (d + 60) 3 qX9_toHold 0 [mR 17 15 0, mI m, mE 0, mE 0, mE 0] [] M Q := by
  unfold an_hold at hQ
  have hK6 := hS.1.2.1
  have hc := hS.1.1
  have hta := hS.ta
  have no : ¬ (1 ≤ m ∧ m ≤ 24) → Q (.inr 2) M := fun h => by have := hQ M kpX.rf; rw [if_neg h] at this; exact this
  refine B_X9_toHold_0 ⟨fun _ => ⟨by omega, by omega, no (by omega)⟩, fun _ => ⟨fun _ => c_X9_restNow hS (fun M1 q => B_X9_toHold_26 ?_), fun _ => ⟨by omega, by omega, no (by omega)⟩⟩⟩
  rw [if_pos (by omega)] at hQ
  have hlk := askX.lk hS q
  have hlo := askX.lo hS q
  have hw := wtF_bd (hS.GL.lot hc.1)
  refine c_X2_weightOf (Or.inr (Or.inr rfl)) q.2.1 hK6 (fun j hj => by have := hlo.w hj; show 0 ≤ M1 13 j * M1 14 j ∧ M1 13 j * M1 14 j ≤ 10000; omega) (fun w hw' => B_X9_toHold_35 ?_)
  have ew : w = wtF K (M 9) (M 113) := by
    rw [hw']
    exact sg_congr (fun j hj => by show M1 13 j * M1 14 j = M 9 j * M 113 j; rw [(q.2.2.1.1 j hj).1, (q.2.2.1.1 j hj).2])
  subst ew
  refine c_X0_roundUp (by omega) (fun r hr => B_X9_toHold_39 (c_X2_tallest q.2.1 hK6 (B_X9_toHold_49 ?_)))
  rw [taF_cg q.2.2.1.1]
  have hrb := rUp_bd (n := wtF K (M 9) (M 113)) (b := m) hw.1
  subst hr
  -- the loop
  have loop : ∀ (rr : Nat) (x : Int) (M' : mM), (x : Int) + rr = 100 → max 1 (taF (M 9) (M 113) K) ≤ x → lkX c K (M 9) (M 113) (orF (M 9) K) (mUp M' 12 0 c) → kpX M M' → (∀ M2, kpX M M2 → Q (.inl (some (mI (thF (fwC K M) m rr x)))) M2) → V (d + 60) 3 qX9_toHold 54 [mR 17 15 0, mI m, mR 11 5 12, mI (max (rUp (wtF K (M 9) (M 113)) m) 1), mI x] [] M' Q := by
    intro rr
    induction rr with
    | zero =>
      intro x M' hx hle g1 g2 hk
      exact B_X9_toHold_54 ⟨fun _ => hk M' g2, fun z => by omega⟩
    | succ rr ih =>
      intro x M' hx hle g1 g2 hk
      have ha := hS.at (x := x) (by omega)
      refine B_X9_toHold_54 ⟨fun z => by omega, fun _ => ?_⟩
      have g1' : lkX x K (M 9) (M 113) (orF (M 9) K) (mUp M' 12 0 x) := by
        obtain ⟨a1, a2, a3, a4⟩ := g1
        rw [up_row (by decide), up_row (by decide), up_row (by decide)] at a3
        rw [up_row (by decide)] at a4
        rw [up_fld (by decide)] at a2
        exact ⟨up_s, by rw [up_fld (by decide)]; exact a2, by rw [up_row (by decide), up_row (by decide), up_row (by decide)]; exact a3, by rw [up_row (by decide)]; exact a4⟩
      refine c_X8_fewL ha.1 ha.2 g1' (fun M2 p1 p2 => ?_)
      have kp2 : kpX M M2 := g2.tr (fun n hn => by rw [p1 n (by omega), up_row (by omega)])
      have et : thF (fwC K M) m (rr + 1) x = if m < fwC K M x then thF (fwC K M) m rr (x + 1) else x := rfl
      refine B_X9_toHold_75 ⟨fun c1 => ⟨by omega, ih (x + 1) M2 (by omega) (by omega) ?_ kp2 (fun M3 k3 => ?_)⟩, fun c1 => ?_⟩
      · obtain ⟨a1, a2, a3, a4⟩ := g1'
        exact ⟨up_s, by rw [up_fld (by decide), p1 12 (by omega)]; exact a2, by rw [up_row (by decide), up_row (by decide), up_row (by decide), p1 13 (by omega), p1 14 (by omega), p1 15 (by omega)]; exact a3, by rw [up_row (by decide), p1 14 (by omega)]; exact a4⟩
      · have := hk M3 k3
        rw [et, if_pos c1] at this; exact this
      · have := hk M2 kp2
        rw [et, if_neg c1] at this; exact this
  -- where it begins
  have g1 : lkX c K (M 9) (M 113) (orF (M 9) K) (mUp M1 12 0 c) := ⟨up_s, by rw [up_fld (by decide)]; exact hlk.2.1, by rw [up_row (by decide), up_row (by decide), up_row (by decide)]; exact hlk.2.2.1, by rw [up_row (by decide)]; exact hlk.2.2.2⟩
  generalize hT : taF (M 9) (M 113) K = T at *
  generalize hR : rUp (wtF K (M 9) (M 113)) m = R at *
  by_cases hbig : 100 ≤ max (max R 1) T
  · refine B_X9_toHold_54 ⟨fun _ => ?_, fun z => by omega⟩
    have := hQ M1 q.kp
    have e := thF_skip (g := fwC K M) (m := m) (t := (100 - max 1 T).toNat) (r := 0) (x := max 1 T) (fun y h1 h2 => hold_skip hS (by omega) (by rw [hT]; omega) (by rw [hR]; omega))
    rw [Nat.add_zero] at e
    rw [e] at this
    exact this
  · refine loop (100 - max (max R 1) T).toNat _ M1 (by omega) (by omega) g1 q.kp (fun M2 k2 => ?_)
    have := hQ M2 k2
    have e := thF_skip (g := fwC K M) (m := m) (t := (max (max R 1) T - max 1 T).toNat) (r := (100 - max (max R 1) T).toNat) (x := max 1 T) (fun y h1 h2 => hold_skip hS (by omega) (by rw [hT]; omega) (by rw [hR]; omega))
    rw [show (max (max R 1) T - max 1 T).toNat + (100 - max (max R 1) T).toNat = (100 - max 1 T).toNat by omega, show max 1 T + ((max (max R 1) T - max 1 T).toNat : Int) = max (max R 1) T by omega] at e
    rw [e] at this
    exact this
theorem mq_hold {d k : Nat} {c : Int} {K : Nat} {N : Int} {M : mM} {Q : mRes → mM → Prop} {m : Int} (hS : St c K N M) (hQ : ∀ M' v, kpM M M' → mr (fun _ => 1) (an_hold K M m) M' v → Q (.inl (some (mI v))) M') : V (d + 60) k qX10_toHold 0 [mR 18 58 112, mI m, mE 0, mE 0] [] M Q := by
  unfold an_hold at hQ
  have hK6 := hS.1.2.1
  have hc := hS.1.1
  have hta := hS.ta
  have hL := hS.1
  have kp0 : kpM M (mUp M 112 5 0) := kpM.rf.fl (by simp)
  refine B_X10_toHold_0 (c_X10_within (fun x hx => B_X10_toHold_13 (c_X10_fine up_s (by decide) (fun hz => B_X10_toHold_17 ⟨fun z => (z rfl).elim, fun _ => hQ _ 0 (kp0.fl (by simp)) ?_⟩) (fun hz => B_X10_toHold_17 ⟨fun _ => ?_, fun z => by omega⟩))))
  · have hn : ¬ (1 ≤ m ∧ m ≤ 24) := fun z => by rw [if_pos z] at hx; omega
    rw [if_neg hn]; exact up_s
  · have hn : 1 ≤ m ∧ m ≤ 24 := by
      by_cases z : 1 ≤ m ∧ m ≤ 24
      · exact z
      · rw [if_neg z] at hx; omega
    rw [if_pos hn] at hQ
    have loop : ∀ (rr : Nat) (x : Int) (u3 : Int) (M' : mM), (x : Int) + rr = 100 → max 1 (taF (M 9) (M 113) K) ≤ x → kpM M M' → M' 112 5 = 0 → (∀ M2, kpM M M2 → M2 112 5 = 0 → Q (.inl (some (mI (thF (fwC K M) m rr x)))) M2) → V (d + 60) k qX10_toHold 66 [mR 18 58 112, mI m, mI x, mI u3] [] M' Q := by
      intro rr
      induction rr with
      | zero =>
        intro x u3 M' hx hle g1 g2 hk
        exact B_X10_toHold_66 ⟨fun _ => hk M' g1 g2, fun z => by omega⟩
      | succ rr ih =>
        intro x u3 M' hx hle g1 g2 hk
        have ha := hS.at (x := x) (by omega)
        have hS' := hS.km g1
        have e9 : M' 9 = M 9 := g1.1 9 (by omega) (by omega)
        have e113 : M' 113 = M 113 := g1.1 113 (by omega) (by omega)
        refine B_X10_toHold_66 ⟨fun z => by omega, fun _ => c_X10_look0 hS' (fun M3 p => B_X10_toHold_76 ?_)⟩
        have hl := askM.lk hS' p
        rw [e9, e113] at hl
        refine c_X10_fewL ha.1 ha.2 ⟨up_s, by rw [up_fld (by decide)]; exact hl.2.1, by rw [up_row (by decide), up_row (by decide), up_row (by decide)]; exact hl.2.2.1, by rw [up_row (by decide)]; exact hl.2.2.2⟩ (fun M4 p1 p2 => ?_)
        have kp4 : kpM M M4 := (g1.tr p.kp).tr ((kpM.rf.fl (i := 33) (v := x) (by simp)).tr p1.kp7)
        have e5 : M4 112 5 = 0 := by rw [p1.2 5 (by simp), up_fld (by decide), p.2.2.2.2 5 (by simp)]; exact g2
        have et : thF (fwC K M) m (rr + 1) x = if m < fwC K M x then thF (fwC K M) m rr (x + 1) else x := rfl
        refine B_X10_toHold_85 ⟨fun c1 => ⟨by omega, ih (x + 1) u3 M4 (by omega) (by omega) kp4 e5 (fun M5 k5 j5 => ?_)⟩, fun c1 => ?_⟩
        · have := hk M5 k5 j5
          rw [et, if_pos c1] at this; exact this
        · have := hk M4 kp4 e5
          rw [et, if_neg c1] at this; exact this
    have tall : ∀ (r j : Nat), j + r = K → V (d + 60) k qX10_toHold 26 [mR 18 58 112, mI m, mI (max 1 (taF (M 9) (M 113) j)), mI j] [] (mUp M 112 5 0) Q := by
      intro r
      induction r with
      | zero =>
        intro j hj
        have Bk := B_X10_toHold_26 (d := d + 59) (k := k) (M := mUp M 112 5 0) (Q := Q) (x1 := m) (x2 := max 1 (taF (M 9) (M 113) j)) (x3 := j)
        rw [up_fld (by decide), hL.2.2.2.2.2.1] at Bk
        refine Bk ⟨fun _ => ?_, fun z => by omega⟩
        rw [show j = K by omega]
        exact loop (100 - max 1 (taF (M 9) (M 113) K)).toNat _ _ _ (by omega) (Int.le_refl _) kp0 up_s (fun M2 k2 j2 => hQ M2 _ k2 ⟨j2, rfl⟩)
      | succ r ih =>
        intro j hj
        have e : taF (M 9) (M 113) (j + 1) = if M 113 j ≤ 0 then taF (M 9) (M 113) j else max (taF (M 9) (M 113) j) (M 9 j) := rfl
        have nxt := ih (j + 1) (by omega)
        rw [e] at nxt
        have hz := hS.sz (s := j) (by omega)
        have Bk := B_X10_toHold_26 (d := d + 59) (k := k) (M := mUp M 112 5 0) (Q := Q) (x1 := m) (x2 := max 1 (taF (M 9) (M 113) j)) (x3 := j)
        rw [up_fld (by decide), hL.2.2.2.2.2.1, up_row (by decide), up_row (by decide), hz.1] at Bk
        refine Bk ⟨fun z => by omega, fun _ => ⟨by omega, fun c1 => ⟨by omega, ?_⟩, fun c1 => ⟨by omega, fun c2 => ⟨by omega, ?_⟩, fun c2 => ⟨by omega, by omega, ?_⟩⟩⟩⟩
        · rw [if_pos c1] at nxt; exact nxt
        · rw [if_neg c1, show max 1 (max (taF (M 9) (M 113) j) (M 9 j)) = max 1 (taF (M 9) (M 113) j) by omega] at nxt; exact nxt
        · rw [if_neg c1, show max 1 (max (taF (M 9) (M 113) j) (M 9 j)) = M 9 j by omega] at nxt; exact nxt
    exact tall K 0 (by omega)
/-! spare -/
def spF (g : Int → Int) (f : Int) : Nat → Nat → Int
  | 0, n => n
  | r + 1, n => if g ((n : Int) + 1) = f then spF g f r (n + 1) else n
def an_spare (c : Int) (K : Nat) (M : mM) (s : Int) : An := if 0 ≤ s ∧ s < K then .inl (spF (fun n => fwS c K M s.toNat (M 113 s + n)) (fwT c K M).1 (min 12 (24 - sg (M 113) K)).toNat 0) else .inr 1
theorem c_X2_things {d k : Nat} {M : mM} {Q : mRes → mM → Prop} {K : Nat} (hK : M 12 1 = K) (hK6 : K ≤ 6) (hb : ∀ s : Nat, s < 6 → 0 ≤ M 14 s ∧ M 14 s ≤ 24) (hQ : Q (.inl (some (mI (sg (M 14) K)))) M) : V d k qX2_things 0 [mR 11 5 12, mE 0, mE 0] [] M Q := by
  have loop : ∀ r j : Nat, j + r = K → V d k qX2_things 4 [mR 11 5 12, mI (sg (M 14) j), mI j] [] M Q := by
    intro r
    induction r with
    | zero =>
      intro j hj
      have Bk := B_X2_things_4 (d := d) (k := k) (M := M) (Q := Q) (n0 := 12) (x1 := sg (M 14) j) (x2 := j) (by decide)
      rw [hK] at Bk
      exact Bk ⟨fun _ => by rw [show j = K by omega]; exact hQ, fun z => by omega⟩
    | succ r ih =>
      intro j hj
      have h1 := sg_bd (f := M 14) (c := 24) (n := j) (fun i hi => hb i (by omega))
      have h2 := hb j (by omega)
      have Bk := B_X2_things_4 (d := d) (k := k) (M := M) (Q := Q) (n0 := 12) (x1 := sg (M 14) j) (x2 := j) (by decide)
      rw [hK] at Bk
      refine Bk ⟨fun z => by omega, fun _ => ⟨by omega, ?_, by omega, ih (j + 1) (by omega)⟩⟩
      show r32 (sg (M 14) j + M 14 j)
      omega
  exact B_X2_things_0 (by decide) (loop K 0 (by omega))
theorem xq_spare {d : Nat} {c : Int} {K : Nat} {N : Int} {M : mM} {Q : mRes → mM → Prop} {s : Int} (hS : St c K N M) (hQ : ∀ M', kpX M M' → Q (xr (an_spare c K M s)) M') : V (d + 60) 3 qX9_spare 0 [mR 17 15 0, mI s, mE 0, mE 0, mE 0, mE 0] [] M Q := by
  unfold an_spare at hQ
  have hL := hS.1
  have hK6 := hL.2.1
  have hc := hL.1
  have hG := hS.GL
  refine B_X9_spare_0 ⟨by omega, c_X9_needSort hL.2.2.2.2.1 hK6 (fun h => B_X9_spare_5 (c_X9_restNow hS (fun M1 q => B_X9_spare_9 (c_X8_few0 hS q (fun M2 q1 q2 => B_X9_spare_18 ?_))))) (fun h => by have := hQ M kpX.rf; rw [if_neg h] at this; exact this)⟩
  rw [if_pos h] at hQ
  obtain ⟨sn, hsn⟩ : ∃ n : Nat, s = n := ⟨s.toNat, by omega⟩
  subst hsn
  rw [show (sn : Int).toNat = sn by omega] at hQ
  have lk2 : lkX c K (M 9) (M 113) (orF (M 9) K) M2 := by
    have := askX.lk hS q
    exact ⟨by rw [q1 12 (by omega)]; exact this.1, by rw [q1 12 (by omega)]; exact this.2.1, by rw [q1 13 (by omega), q1 14 (by omega), q1 15 (by omega)]; exact this.2.2.1, by rw [q1 14 (by omega)]; exact this.2.2.2⟩
  have kp2 : kpX M M2 := q.kp.tr (fun n hn => q1 n (by omega))
  refine c_X2_things lk2.2.1 hK6 lk2.2.2.2 ?_
  have es : sg (M2 14) K = sg (M 113) K := sg_congr (fun j hj => (lk2.2.2.1.1 j hj).2)
  rw [es]
  have hsum := hG.2.2.2.2.1
  have hm := hS.mn sn (by omega)
  have hs0 := sg_bd (f := M 113) (c := 12) (n := K) (fun j hj => hS.mn j (by omega))
  refine B_X9_spare_27 ⟨by omega, ?_⟩
  generalize hmost : min (12 : Int) (24 - sg (M 113) K) = most at *
  have loop : ∀ (r n : Nat) (M' : mM), (n : Int) + r = most → lkX c K (M 9) (fset (M 113) sn (M 113 sn + n)) (orF (M 9) K) M' → M' 14 sn = M 113 sn + n → kpX M M' → (∀ M2, kpX M M2 → Q (.inl (some (mI (spF (fun n => fwS c K M sn (M 113 sn + n)) (fwT c K M).1 r n)))) M2) → V (d + 60) 2 qX9_spare 36 [mR 17 15 0, mI sn, mR 11 5 12, mI (fwT c K M).1, mI most, mI ((n : Int) + 1)] [] M' Q := by
    intro r
    induction r with
    | zero =>
      intro n M' hn g1 g2 g3 hk
      refine B_X9_spare_36 ⟨fun _ => ?_, fun z => by omega⟩
      rw [show max most 0 = (n : Int) by omega]
      exact hk M' g3
    | succ r ih =>
      intro n M' hn g1 g2 g3 hk
      have Bk := B_X9_spare_36 (d := d + 59) (k := 2) (M := M') (Q := Q) (x1 := sn) (x3 := (fwT c K M).1) (x4 := most) (x5 := (n : Int) + 1)
      rw [g2] at Bk
      refine Bk ⟨fun z => by omega, fun _ => ⟨by omega, by omega, by omega, ?_⟩⟩
      rw [show M 113 sn + (n : Int) + 1 = M 113 sn + ((n : Int) + 1) by omega]
      have lk' : lkX c K (M 9) (fset (M 113) sn (M 113 sn + ((n : Int) + 1))) (orF (M 9) K) (mUp M' 14 sn (M 113 sn + ((n : Int) + 1))) := by
        have := g1.up (s := sn) (v := M 113 sn + ((n : Int) + 1)) (by omega)
        have e : fset (fset (M 113) sn (M 113 sn + n)) sn (M 113 sn + ((n : Int) + 1)) = fset (M 113) sn (M 113 sn + ((n : Int) + 1)) := funext fun j => by
          unfold fset
          split <;> rfl
        rw [e] at this; exact this
      refine c_X8_fewL (hG.fs (by omega) (by omega) (by omega)) (hG.fsP hc.1 hS.z (by omega) (by omega) (by omega)) lk' (fun M3 p1 p2 => ?_)
      have kp3 : kpX M M3 := g3.tr (fun n hn => by rw [p1 n (by omega), up_row (by omega)])
      have et : spF (fun n => fwS c K M sn (M 113 sn + n)) (fwT c K M).1 (r + 1) n = if fwS c K M sn (M 113 sn + ((n : Int) + 1)) = (fwT c K M).1 then spF (fun n => fwS c K M sn (M 113 sn + n)) (fwT c K M).1 r (n + 1) else (n : Int) := rfl
      refine B_X9_spare_61 ⟨fun c1 => ⟨by omega, ih (n + 1) M3 (by omega) ?_ ?_ kp3 (fun M4 k4 => ?_)⟩, fun c1 => ⟨by omega, ?_⟩⟩
      · obtain ⟨a1, a2, a3, a4⟩ := lk'
        exact ⟨by rw [p1 12 (by omega)]; exact a1, by rw [p1 12 (by omega)]; exact a2, by rw [p1 13 (by omega), p1 14 (by omega), p1 15 (by omega)]; exact a3, by rw [p1 14 (by omega)]; exact a4⟩
      · rw [p1 14 (by omega), up_s]; rfl
      · have := hk M4 k4
        rw [et, if_pos c1] at this; exact this
      · have := hk M3 kp3
        rw [et, if_neg c1] at this
        rw [show (n : Int) + 1 - 1 = n by omega]; exact this
  have e0 : fset (M 113) sn (M 113 sn + ((0 : Nat) : Int)) = M 113 := funext fun j => by
    unfold fset
    split
    · rename_i e; rw [e]; simp
    · rfl
  exact loop most.toNat 0 M2 (by omega) (by rw [e0]; exact lk2) (by rw [q1 14 (by omega), q.2.2.2.1 sn (by omega)]; simp) kp2 (fun M3 k3 => hQ M3 k3)
theorem mq_spare {d k : Nat} {c : Int} {K : Nat} {N : Int} {M : mM} {Q : mRes → mM → Prop} {s : Int} (hS : St c K N M) (hQ : ∀ M' v, kpM M M' → mr (fun _ => 1) (an_spare c K M s) M' v → Q (.inl (some (mI v))) M') : V (d + 60) k qX10_spare 0 [mR 18 58 112, mI s, mE 0, mE 0] [] M Q := by
  unfold an_spare at hQ
  have hL := hS.1
  have hK6 := hL.2.1
  have hc := hL.1
  have hG := hS.GL
  have hS0 := hS.m0 (v := 0)
  have kp0 : kpM M (mUp M 112 5 0) := kpM.rf.fl (by simp)
  have ef : fwT c K (mUp M 112 5 0) = fwT c K M := by show fewT c K _ _ _ = fewT c K _ _ _; rw [up_row (by decide), up_row (by decide)]
  refine B_X10_spare_0 (c_X10_isSort up_s (by rw [up_fld (by decide)]; exact hL.2.2.2.2.2.1) hK6 (fun h => B_X10_spare_10 ⟨fun z => (z rfl).elim, fun _ => hQ _ 0 (kp0.fl (by simp)) (by rw [if_neg h]; exact up_s)⟩) (fun h => B_X10_spare_10 ⟨fun _ => c_X10_few0 hS0 (fun M1 M2 q q1 q2 => B_X10_spare_19 ?_), fun z => by omega⟩))
  rw [if_pos h] at hQ
  rw [ef]
  obtain ⟨sn, hsn⟩ : ∃ n : Nat, s = n := ⟨s.toNat, by omega⟩
  subst hsn
  rw [show (sn : Int).toNat = sn by omega] at hQ
  have hsum := hG.2.2.2.2.1
  have hm := hS.mn sn (by omega)
  have hs0 := sg_bd (f := M 113) (c := 12) (n := K) (fun j hj => hS.mn j (by omega))
  generalize hmost : min (12 : Int) (24 - sg (M 113) K) = most at *
  have loop : ∀ (r n : Nat) (M' : mM), (n : Int) + r = most → kpM M M' → M' 112 5 = 0 → (∀ M2, kpM M M2 → M2 112 5 = 0 → Q (.inl (some (mI (spF (fun n => fwS c K M sn (M 113 sn + n)) (fwT c K M).1 r n)))) M2) → V (d + 60) k qX10_spare 22 [mR 18 58 112, mI sn, mI (fwT c K M).1, mI n] [] M' Q := by
    intro r
    induction r with
    | zero =>
      intro n M' hn g1 g2 hk
      have e7 : M' 112 7 = K := by rw [g1.2 7 (by simp)]; exact hL.2.2.2.2.2.1
      have e113 : M' 113 = M 113 := g1.1 113 (by omega) (by omega)
      refine B_X10_spare_22 ⟨fun _ => hk M' g1 g2, fun _ => c_X10_restMany e7 hK6 (fun t ht => by rw [e113]; have := hS.mn t ht; omega) (fun r hr => ?_)⟩
      rw [e113] at hr
      exact B_X10_spare_32 ⟨by omega, fun _ => hk M' g1 g2, fun z => by omega⟩
    | succ r ih =>
      intro n M' hn g1 g2 hk
      have hS' := hS.km g1
      have e7 : M' 112 7 = K := by rw [g1.2 7 (by simp)]; exact hL.2.2.2.2.2.1
      have e9 : M' 9 = M 9 := g1.1 9 (by omega) (by omega)
      have e113 : M' 113 = M 113 := g1.1 113 (by omega) (by omega)
      refine B_X10_spare_22 ⟨fun z => by omega, fun _ => c_X10_restMany e7 hK6 (fun t ht => by rw [e113]; have := hS.mn t ht; omega) (fun rr hr => ?_)⟩
      rw [e113] at hr
      refine B_X10_spare_32 ⟨by omega, fun z => by omega, fun _ => c_X10_look0 hS' (fun M3 p => ?_)⟩
      have hl := askM.lk hS' p
      rw [e9, e113] at hl
      have e121 : M3 121 sn = M 113 sn := by rw [p.2.2.1 sn (by omega), e113]
      have Bk := B_X10_spare_43 (d := d + 59) (k := k) (M := M3) (Q := Q) (x1 := sn) (x2 := (fwT c K M).1) (x3 := n)
      rw [e121] at Bk
      refine Bk ⟨by omega, by omega, by omega, by omega, ?_⟩
      refine c_X10_fewL (hG.fs (by omega) (by omega) (by omega)) (hG.fsP hc.1 hS.z (by omega) (by omega) (by omega)) (hl.up (by omega)) (fun M4 p1 p2 => ?_)
      have kp4 : kpM M M4 := (g1.tr p.kp).tr (frM.kp7 p1 |> fun h => ⟨fun n a b => by rw [h.1 n a b, up_row (by omega)], fun i hi => by rw [h.2 i hi, up_row (by decide)]⟩)
      have e5 : M4 112 5 = 0 := by rw [p1.2 5 (by simp), up_row (by decide), p.2.2.2.2 5 (by simp)]; exact g2
      have et : spF (fun n => fwS c K M sn (M 113 sn + n)) (fwT c K M).1 (r + 1) n = if fwS c K M sn (M 113 sn + ((n : Int) + 1)) = (fwT c K M).1 then spF (fun n => fwS c K M sn (M 113 sn + n)) (fwT c K M).1 r (n + 1) else (n : Int) := rfl
      refine B_X10_spare_59 ⟨fun c1 => ⟨by omega, ih (n + 1) M4 (by omega) kp4 e5 (fun M5 k5 j5 => ?_)⟩, fun c1 => ?_⟩
      · have := hk M5 k5 j5
        rw [et, if_pos c1] at this; exact this
      · have := hk M4 kp4 e5
        rw [et, if_neg c1] at this; exact this
  refine loop most.toNat 0 M2 (by omega) ((kp0.tr q.kp).tr q1.kp7) (by rw [q1.2 5 (by simp), q.2.2.2.2 5 (by simp)]; exact up_s) (fun M3 k3 j3 => hQ M3 _ k3 ⟨j3, rfl⟩)
