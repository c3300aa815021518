/-! patterns counted, and gone to: the methods -/
def pqF (l : zL) (c : Int) (full : Bool) (q : List Int) : Bool := mx l c q && (!full || decide (pw l q = c))
theorem c_X5_goOn0 {d k : Nat} {M : mM} {Q : mRes → mM → Prop} {a2 a3 c : Int} {K : Nat} {sz mn od : Int → Int} {B : List (List Int)} {p : List Int} (ha : a3 ≠ 12 ∧ a3 ≠ 13 ∧ a3 ≠ 15 ∧ a3 ≠ a2) (hG : GLok c K sz mn od) (h13 : M 13 = sz) (h15 : M 15 = od) (h2 : M a2 = mn) (hc : M 12 0 = c) (hK : M 12 1 = K)
    (hR : ptR K od p (M a3)) (hP : ∀ q, q ∈ p :: B → isP (zl K sz mn od) c q) (hB : Ch (nc (zl K sz mn od) c) (p :: B)) (ht : B.length < 100000)
    (k1 : ∀ M' b B', frN [a3] M M' → ptR K od b (M' a3) → mx (zl K sz mn od) c b = true → (∀ q, q ∈ b :: B' → isP (zl K sz mn od) c q) → Ch (nc (zl K sz mn od) c) (b :: B') → B'.length < B.length → (∀ R : List Int → Bool, B.filter (fun q => mx (zl K sz mn od) c q && R q) = (b :: B').filter (fun q => mx (zl K sz mn od) c q && R q)) → Q (.inl (some (mI 1))) M')
    (k0 : ∀ M', frN [a3] M M' → (∀ R : List Int → Bool, B.filter (fun q => mx (zl K sz mn od) c q && R q) = []) → Q (.inl (some (mI 0))) M') :
    V (d + 2) k qX5_goOn 0 [mR 11 5 12, mR 0 6 a2, mR 0 6 a3, mE 0, mE 0] [] M Q := by
  refine B_X5_goOn_0 (c_X5_goOn ha hG B M p 0 (mE 0) h13 h15 h2 hc hK hR hP hB (by omega) (fun M' b B' g1 g2 g3 => ?_) (fun M' g1 g2 => k0 M' g1 (dw_nil g2)))
  obtain ⟨⟨A, hA⟩, h3, h4⟩ := dw_cons g3
  refine k1 M' b B' g1 g2 h3 (fun q hq => hP q ?_) ?_ ?_ h4
  · rw [hA]; exact List.mem_cons_of_mem _ (List.mem_append_right _ hq)
  · rw [hA] at hB; exact Ch_suf hB
  · rw [hA, List.length_append, List.length_cons]; omega
theorem flt_cons {P : List Int → Bool} {p : List Int} {B : List (List Int)} : ((p :: B).filter P).length = (if P p = true then 1 else 0) + (B.filter P).length := by
  rw [List.filter_cons]
  split
  · rw [List.length_cons]; omega
  · omega
set_option maxHeartbeats 1000000 in
theorem c_X5_countMaximal {d k : Nat} {M : mM} {Q : mRes → mM → Prop} {a3 c x : Int} {K : Nat} {sz mn od : Int → Int} (ha : a3 ≠ 12 ∧ a3 ≠ 13 ∧ a3 ≠ 15 ∧ a3 ≠ 14) (hG : GLok c K sz mn od) (h13 : M 13 = sz) (h15 : M 15 = od) (h2 : M 14 = mn) (hc : M 12 0 = c) (hK : M 12 1 = K) (hx : x = 0 ∨ x = 1)
    (hQ : ∀ M' r, frN [a3] M M' → r = (((pats (zl K sz mn od) c).filter (pqF (zl K sz mn od) c (decide (x = 1)))).length : Int) → Q (.inl (some (mI r))) M') :
    V (d + 3) k qX5_countMaximal 0 [mR 11 5 12, mR 0 6 a3, mI x, mE 0, mE 0] [] M Q := by
  have hK6 : K ≤ 6 := hG.2.1
  have hzl := hG.zOK (r := K) (i := 0) (by omega)
  obtain ⟨B0, hb1, hb2, hb3, hb4⟩ := hG.pc
  have hflt : (pats (zl K sz mn od) c).filter (pqF (zl K sz mn od) c (decide (x = 1))) = (gr (zl K sz mn od) c :: B0).filter (pqF (zl K sz mn od) c (decide (x = 1))) := by
    rw [← hb1]; exact mx_filter hzl hG.1.1
  rw [hflt] at hQ
  have hsum := hG.2.2.2.2.1
  have loop : ∀ (n : Nat) (B : List (List Int)), B.length ≤ n → ∀ (p : List Int) (M' : mM) (cnt tn : Nat), frN [a3] M M' → ptR K od p (M' a3) → mx (zl K sz mn od) c p = true → (∀ q, q ∈ p :: B → isP (zl K sz mn od) c q) → Ch (nc (zl K sz mn od) c) (p :: B) → tn + B.length < 100000 - 1 → cnt ≤ tn →
      cnt + ((p :: B).filter (pqF (zl K sz mn od) c (decide (x = 1)))).length = ((gr (zl K sz mn od) c :: B0).filter (pqF (zl K sz mn od) c (decide (x = 1)))).length → V (d + 3) k qX5_countMaximal 14 [mR 11 5 12, mR 0 6 a3, mI x, mI cnt, mI tn] [] M' Q := by
    intro n
    induction n with
    | zero =>
      intro B hn p M' cnt tn g1 g2 g3 g4 g5 g6 g7 g8
      have e : B = [] := List.length_eq_zero_iff.mp (by omega)
      subst e
      have o12 := g1 12 (by simp; omega)
      have o13 : M' 13 = sz := by rw [g1 13 (by simp; omega)]; exact h13
      have o15 : M' 15 = od := by rw [g1 15 (by simp; omega)]; exact h15
      have o14 : M' 14 = mn := by rw [g1 14 (by simp; omega)]; exact h2
      have hbd := ptR_bd hG g2 (g4 p List.mem_cons_self)
      have hpw := ptR_pw hG g2
      have fin : ∀ cn : Nat, cn = cnt + (if pqF (zl K sz mn od) c (decide (x = 1)) p = true then 1 else 0) → V (d + 3) k qX5_countMaximal 40 [mR 11 5 12, mR 0 6 a3, mI x, mI cn, mI tn] [] M' Q := fun cn hcn => by
        refine B_X5_countMaximal_40 (c_X5_goOn0 ha hG o13 o15 o14 (by rw [o12]; exact hc) (by rw [o12]; exact hK) g2 g4 g5 (by simp) (fun M'' b B' _ _ _ _ _ q _ => by simp at q) (fun M'' q1 q2 => B_X5_countMaximal_49 ⟨fun c1 => by omega, fun c1 => hQ M'' cn (g1.tr q1) ?_⟩))
        rw [flt_cons, show ([] : List (List Int)).filter (pqF (zl K sz mn od) c (decide (x = 1))) = [] from rfl, List.length_nil] at g8
        rw [← g8, hcn]; simp
      refine B_X5_countMaximal_14 ⟨fun c1 => by omega, fun c1 => ⟨fun c2 => B_X5_countMaximal_37 ⟨by omega, fin (cnt + 1) ?_⟩, fun c2 => c_X2_weightOf (n0 := 12) (by omega) (by rw [o12]; exact hK) hK6 (fun j hj => ?_) (fun r hr => ?_)⟩⟩
      · unfold pqF; rw [g3]; simp [c2]
      · have := hbd j hj
        show 0 ≤ M' 13 j * M' a3 j ∧ M' 13 j * M' a3 j ≤ 10000
        rw [o13, Int.mul_comm]; have := hG.1; omega
      · have hr' : r = pw (zl K sz mn od) p := by
          rw [hr, hpw]
          refine sg_congr (fun j hj => ?_)
          show M' 13 j * M' a3 j = M' a3 j * sz j
          rw [o13, Int.mul_comm]
        refine B_X5_countMaximal_30 ⟨fun c3 => fin cnt ?_, fun c3 => B_X5_countMaximal_37 ⟨by omega, fin (cnt + 1) ?_⟩⟩
        · rw [o12, hc, hr'] at c3
          have hx1 : x = 1 := by omega
          unfold pqF; rw [g3]; simp [hx1, c3]
        · rw [o12, hc, hr'] at c3
          unfold pqF; rw [g3]; simp [c3]
    | succ n ih =>
      intro B hn p M' cnt tn g1 g2 g3 g4 g5 g6 g7 g8
      have o12 := g1 12 (by simp; omega)
      have o13 : M' 13 = sz := by rw [g1 13 (by simp; omega)]; exact h13
      have o15 : M' 15 = od := by rw [g1 15 (by simp; omega)]; exact h15
      have o14 : M' 14 = mn := by rw [g1 14 (by simp; omega)]; exact h2
      have hbd := ptR_bd hG g2 (g4 p List.mem_cons_self)
      have hpw := ptR_pw hG g2
      rw [flt_cons] at g8
      have fin : ∀ cn : Nat, cn = cnt + (if pqF (zl K sz mn od) c (decide (x = 1)) p = true then 1 else 0) → V (d + 3) k qX5_countMaximal 40 [mR 11 5 12, mR 0 6 a3, mI x, mI cn, mI tn] [] M' Q := fun cn hcn => by
        have hcn2 : cn ≤ tn + 1 := by rw [hcn]; split <;> omega
        refine B_X5_countMaximal_40 (c_X5_goOn0 ha hG o13 o15 o14 (by rw [o12]; exact hc) (by rw [o12]; exact hK) g2 g4 g5 (by omega) (fun M'' b B' q1 q2 q3 q4 q5 q6 q7 => B_X5_countMaximal_49 ⟨fun c1 => ⟨by omega, ?_⟩, fun c1 => by omega⟩) (fun M'' q1 q2 => B_X5_countMaximal_49 ⟨fun c1 => by omega, fun c1 => hQ M'' cn (g1.tr q1) ?_⟩))
        · refine ih B' (by omega) b M'' cn (tn + 1) (g1.tr q1) q2 q3 q4 q5 (by omega) hcn2 ?_
          rw [← g8, hcn]
          have := q7 (fun q => !(decide (x = 1)) || decide (pw (zl K sz mn od) q = c))
          have h9 : B.filter (pqF (zl K sz mn od) c (decide (x = 1))) = (b :: B').filter (pqF (zl K sz mn od) c (decide (x = 1))) := this
          rw [h9]; omega
        · have := q2 (fun q => !(decide (x = 1)) || decide (pw (zl K sz mn od) q = c))
          have h9 : B.filter (pqF (zl K sz mn od) c (decide (x = 1))) = [] := this
          rw [h9, List.length_nil] at g8
          rw [← g8, hcn]; simp
      refine B_X5_countMaximal_14 ⟨fun c1 => by omega, fun c1 => ⟨fun c2 => B_X5_countMaximal_37 ⟨by omega, fin (cnt + 1) ?_⟩, fun c2 => c_X2_weightOf (n0 := 12) (by omega) (by rw [o12]; exact hK) hK6 (fun j hj => ?_) (fun r hr => ?_)⟩⟩
      · unfold pqF; rw [g3]; simp [c2]
      · have := hbd j hj
        show 0 ≤ M' 13 j * M' a3 j ∧ M' 13 j * M' a3 j ≤ 10000
        rw [o13, Int.mul_comm]; have := hG.1; omega
      · have hr' : r = pw (zl K sz mn od) p := by
          rw [hr, hpw]
          refine sg_congr (fun j hj => ?_)
          show M' 13 j * M' a3 j = M' a3 j * sz j
          rw [o13, Int.mul_comm]
        refine B_X5_countMaximal_30 ⟨fun c3 => fin cnt ?_, fun c3 => B_X5_countMaximal_37 ⟨by omega, fin (cnt + 1) ?_⟩⟩
        · rw [o12, hc, hr'] at c3
          have hx1 : x = 1 := by omega
          unfold pqF; rw [g3]; simp [hx1, c3]
        · rw [o12, hc, hr'] at c3
          unfold pqF; rw [g3]; simp [c3]
  refine B_X5_countMaximal_0 (c_X5_begin ha h13 h15 h2 hG hc hK (fun M' q1 q2 => B_X5_countMaximal_9 ?_))
  exact loop B0.length B0 (Nat.le_refl _) _ M' 0 0 q1 q2 (mx_gr hzl hG.1.1) hb3 hb2 (by omega) (by omega) (by omega)
/-- the maximal patterns, the first first -/
def mxs (l : zL) (c : Int) : List (List Int) := (pats l c).filter (fun q => mx l c q && true)
theorem flt_hd {P : List Int → Bool} {p : List Int} {B : List (List Int)} (h : P p = true) : (p :: B).filter P = p :: B.filter P := by rw [List.filter_cons, if_pos h]
theorem drop_get {F : List (List Int)} {j : Nat} {p : List Int} {R : List (List Int)} (h : F.drop j = p :: R) : F[j]? = some p ∧ F.drop (j + 1) = R := by
  constructor
  · rw [← List.head?_drop, h]; rfl
  · rw [← List.tail_drop, h]; rfl
theorem drop_nil {F : List (List Int)} {j : Nat} (h : F.drop j = []) : F.length ≤ j := List.drop_eq_nil_iff.mp h
set_option maxHeartbeats 1000000 in
theorem c_X5_goTo {d k : Nat} {M : mM} {Q : mRes → mM → Prop} {a3 c : Int} {K x : Nat} {sz mn od : Int → Int} (ha : a3 ≠ 12 ∧ a3 ≠ 13 ∧ a3 ≠ 15 ∧ a3 ≠ 14) (hG : GLok c K sz mn od) (h13 : M 13 = sz) (h15 : M 15 = od) (h2 : M 14 = mn) (hc : M 12 0 = c) (hK : M 12 1 = K) (hx : (x : Int) ≤ 2147483647)
    (k1 : ∀ M' p, frN [a3] M M' → (mxs (zl K sz mn od) c)[x]? = some p → isP (zl K sz mn od) c p → ptR K od p (M' a3) → Q (.inl (some (mI 1))) M') (k0 : ∀ M', frN [a3] M M' → (mxs (zl K sz mn od) c).length ≤ x → Q (.inl (some (mI 0))) M') :
    V (d + 3) k qX5_goTo 0 [mR 11 5 12, mR 0 6 a3, mI x, mE 0] [] M Q := by
  have hzl : zOK (zl K sz mn od) := hG.zOK (r := K) (i := 0) (by omega)
  obtain ⟨B0, hb1, hb2, hb3, hb4⟩ := hG.pc
  have hflt : mxs (zl K sz mn od) c = gr (zl K sz mn od) c :: B0.filter (fun q => mx (zl K sz mn od) c q && true) := by
    unfold mxs
    have := mx_filter (l := zl K sz mn od) (fr := c) hzl hG.1.1 (P := fun _ => true)
    rw [this, hb1]
    exact flt_hd (P := fun q => mx (zl K sz mn od) c q && true) (by show (mx (zl K sz mn od) c (gr (zl K sz mn od) c) && true) = true; rw [mx_gr hzl hG.1.1]; rfl)
  have loop : ∀ (r j : Nat) (B : List (List Int)) (p : List Int) (M' : mM), j + r = x → frN [a3] M M' → ptR K od p (M' a3) → (∀ q, q ∈ p :: B → isP (zl K sz mn od) c q) → Ch (nc (zl K sz mn od) c) (p :: B) → B.length < 100000 →
      (mxs (zl K sz mn od) c).drop j = p :: B.filter (fun q => mx (zl K sz mn od) c q && true) → V (d + 3) k qX5_goTo 11 [mR 11 5 12, mR 0 6 a3, mI x, mI j] [] M' Q := by
    intro r
    induction r with
    | zero =>
      intro j B p M' hj g1 g2 g4 g5 g6 g8
      have e : j = x := by omega
      subst e
      refine B_X5_goTo_11 ⟨fun c1 => k1 M' p g1 (drop_get g8).1 (g4 p List.mem_cons_self) g2, fun c1 => by omega⟩
    | succ r ih =>
      intro j B p M' hj g1 g2 g4 g5 g6 g8
      have o12 := g1 12 (by simp; omega)
      have o13 : M' 13 = sz := by rw [g1 13 (by simp; omega)]; exact h13
      have o15 : M' 15 = od := by rw [g1 15 (by simp; omega)]; exact h15
      have o14 : M' 14 = mn := by rw [g1 14 (by simp; omega)]; exact h2
      refine B_X5_goTo_11 ⟨fun c1 => by omega, fun c1 => c_X5_goOn0 ha hG o13 o15 o14 (by rw [o12]; exact hc) (by rw [o12]; exact hK) g2 g4 g5 g6 (fun M'' b B' q1 q2 q3 q4 q5 q6 q7 => B_X5_goTo_25 ⟨fun c1 => ⟨by omega, ?_⟩, fun c1 => by omega⟩) (fun M'' q1 q2 => B_X5_goTo_25 ⟨fun c1 => by omega, fun c1 => k0 M'' (g1.tr q1) ?_⟩)⟩
      · refine ih (j + 1) B' b M'' (by omega) (g1.tr q1) q2 q4 q5 (by omega) ?_
        rw [(drop_get g8).2, q7 (fun _ => true)]
        exact flt_hd (P := fun q => mx (zl K sz mn od) c q && true) (by show (mx (zl K sz mn od) c b && true) = true; rw [q3]; rfl)
      · have h9 := (drop_get g8).2
        rw [q2 (fun _ => true)] at h9
        have := drop_nil h9
        omega
  refine B_X5_goTo_0 (c_X5_begin ha h13 h15 h2 hG hc hK (fun M' q1 q2 => B_X5_goTo_9 ?_))
  exact loop x 0 B0 _ M' (by omega) q1 q2 hb3 hb2 (by omega) hflt
/-- what the model counts -/
def pwF (l : zL) (c x : Int) (q : List Int) : Bool := decide (x = 0) || (mx l c q && (decide (x = 1) || decide (pw l q = c)))
set_option maxHeartbeats 1000000 in
theorem l_X10_patterns {d k : Nat} {M : mM} {Q : mRes → mM → Prop} {c x : Int} {K : Nat} {sz mn od : Int → Int} {u2 u3 u4 : mV} (h122 : M 122 = sz) (h123 : M 123 = od) (h2 : ∀ s, M 121 (0 + s) = mn s) (hG : GLok c K sz mn od) (hK : M 112 7 = K) (hc : M 112 33 = c) (hx : 0 ≤ x ∧ x ≤ 2)
    (hQ : ∀ M' r, frP 0 M M' → r = (((pats (zl K sz mn od) c).filter (pwF (zl K sz mn od) c x)).length : Int) → Q (.inl (some (mI r))) M') : V (d + 3) k qX10_patterns 25 [mR 18 58 112, mI x, u2, u3, u4] [] M Q := by
  have hK6 : K ≤ 6 := hG.2.1
  have hc9 := hG.1
  obtain ⟨B0, hb1, hb2, hb3, hb4⟩ := hG.ps
  rw [hb1] at hQ
  have loop : ∀ (B : List (List Int)) (p : List Int) (M' : mM) (cnt : Nat) (u : mV), frP 0 M M' → ptR K od p (fun s => M' 128 (0 + s)) → (∀ q, q ∈ p :: B → isP (zl K sz mn od) c q) → Ch (nx (zl K sz mn od) c) (p :: B) → cnt + B.length < 100000 →
      cnt + ((p :: B).filter (pwF (zl K sz mn od) c x)).length = ((gr (zl K sz mn od) c :: B0).filter (pwF (zl K sz mn od) c x)).length → V (d + 3) k qX10_patterns 42 [mR 18 58 112, mI x, mI cnt, mI 1, u] [] M' Q := by
    intro B
    induction B with
    | nil =>
      intro p M' cnt u g1 g2 g4 g5 g6 g8
      have o7 : M' 112 7 = K := by rw [g1.1 112 (by decide)]; exact hK
      have o33 : M' 112 33 = c := by rw [g1.1 112 (by decide)]; exact hc
      have o122 : M' 122 = sz := by rw [g1.1 122 (by decide)]; exact h122
      have o123 : M' 123 = od := by rw [g1.1 123 (by decide)]; exact h123
      have o121 : ∀ s, M' 121 (0 + s) = mn s := fun s => by rw [g1.1 121 (by decide)]; exact h2 s
      have hPp := g4 p List.mem_cons_self
      have hbd := ptR_bd hG g2 hPp
      have hpw := ptR_pw hG g2
      rw [flt_cons, show ([] : List (List Int)).filter (pwF (zl K sz mn od) c x) = [] from rfl, List.length_nil] at g8
      have fin : ∀ (v : Int) (u : mV), v = (if pwF (zl K sz mn od) c x p = true then 1 else 0) → V (d + 3) k qX10_patterns 88 [mR 18 58 112, mI x, mI cnt, mI 1, u] [mI v] M' Q := fun v u hv => by
        have go : ∀ w : Int, w = v → V (d + 3) k qX10_patterns 101 [mR 18 58 112, mI x, mI cnt, mI 1, mI v] [mI w, mI cnt] M' Q := fun w hw => by
          have hv2 : 0 ≤ v ∧ v ≤ 1 := by rw [hv]; split <;> omega
          have Bk := B_X10_patterns_101 (d := d + 2) (k := k) (M := M') (Q := Q) (x1 := x) (x2 := cnt) (x3 := 1) (x4 := v) (sx0 := w) (sx1 := cnt)
          rw [o33] at Bk
          refine Bk ⟨by omega, c_X10_steps (by decide) (by decide) o122 o123 o121 hG o7 g2 hPp g5 (fun M'' b B' q1 q2 q3 => by cases q3) (fun _ => B_X10_patterns_116 (B_X10_patterns_42 ⟨fun c1 => hQ M' _ g1 ?_, fun c1 => (c1 rfl).elim⟩))⟩
          rw [← g8, hw, hv]; split <;> simp
        refine B_X10_patterns_88 ⟨fun c1 => go 0 c1.symm, fun c1 => go 1 ?_⟩
        have hv2 : 0 ≤ v ∧ v ≤ 1 := by rw [hv]; split <;> omega
        omega
      have Bk := B_X10_patterns_42 (d := d + 2) (k := k) (M := M') (Q := Q) (x1 := x) (x2 := cnt) (x3 := 1) (u4 := u)
      rw [o33] at Bk
      refine Bk ⟨fun c1 => by omega, fun c1 => ⟨fun c2 => B_X10_patterns_83 (fin 1 _ ?_), fun c2 => c_X10_isMaximal (by decide) o122 o121 hG o7 g2 hPp (fun hm => B_X10_patterns_63 ⟨fun c3 => by omega, fun c3 => ⟨fun c4 => B_X10_patterns_83 (fin 1 _ ?_), fun c4 => c_X10_within0 o7 hK6 (by decide) (fun j hj => ?_) (fun r hr => ?_)⟩⟩) (fun hm => B_X10_patterns_63 ⟨fun c3 => B_X10_patterns_87 (fin 0 _ ?_), fun c3 => (c3 rfl).elim⟩)⟩⟩
      · rw [if_pos]; unfold pwF; simp [c2]
      · rw [if_pos]; unfold pwF; simp [c4, hm]
      · have := hbd j hj
        rw [o122]; exact ⟨this.2.2.1, Int.le_trans this.2.2.2 (by omega)⟩
      · rw [o122, ← hpw] at hr
        subst hr
        refine B_X10_patterns_76 ⟨fun c5 => B_X10_patterns_87 (fin 0 _ ?_), fun c5 => B_X10_patterns_83 (fin 1 _ ?_)⟩
        · rw [o33] at c5
          rw [if_neg]; unfold pwF; simp [c2, c4, c5]
        · rw [o33] at c5
          rw [if_pos]; unfold pwF; simp [hm, c5]
      · rw [if_neg]; unfold pwF; simp [c2, hm]
    | cons b B ihB =>
      intro p M' cnt u g1 g2 g4 g5 g6 g8
      have o7 : M' 112 7 = K := by rw [g1.1 112 (by decide)]; exact hK
      have o33 : M' 112 33 = c := by rw [g1.1 112 (by decide)]; exact hc
      have o122 : M' 122 = sz := by rw [g1.1 122 (by decide)]; exact h122
      have o123 : M' 123 = od := by rw [g1.1 123 (by decide)]; exact h123
      have o121 : ∀ s, M' 121 (0 + s) = mn s := fun s => by rw [g1.1 121 (by decide)]; exact h2 s
      have hPp := g4 p List.mem_cons_self
      have hbd := ptR_bd hG g2 hPp
      have hpw := ptR_pw hG g2
      rw [flt_cons] at g8
      simp only [List.length_cons] at g6
      have fin : ∀ (v : Nat) (u : mV), v = (if pwF (zl K sz mn od) c x p = true then 1 else 0) → V (d + 3) k qX10_patterns 88 [mR 18 58 112, mI x, mI cnt, mI 1, u] [mI v] M' Q := fun v u hv => by
        have hv2 : v ≤ 1 := by rw [hv]; split <;> omega
        have go : ∀ w : Int, w = v → V (d + 3) k qX10_patterns 101 [mR 18 58 112, mI x, mI cnt, mI 1, mI v] [mI w, mI cnt] M' Q := fun w hw => by
          subst hw
          have Bk := B_X10_patterns_101 (d := d + 2) (k := k) (M := M') (Q := Q) (x1 := x) (x2 := cnt) (x3 := 1) (x4 := v) (sx0 := v) (sx1 := cnt)
          rw [o33] at Bk
          refine Bk ⟨by omega, c_X10_steps (by decide) (by decide) o122 o123 o121 hG o7 g2 hPp g5 (fun M'' b' B' q1 q2 q3 => B_X10_patterns_116 ?_) (fun q => by cases q)⟩
          injection q3 with q3 q4
          subst q3; subst q4
          exact ihB b M'' (cnt + v) _ (g1.tr q1) q2 (fun q hq => g4 q (List.mem_cons_of_mem _ hq)) g5.2 (by omega) (by rw [← g8, hv]; omega)
        refine B_X10_patterns_88 ⟨fun c1 => go 0 c1.symm, fun c1 => go 1 (by omega)⟩
      have Bk := B_X10_patterns_42 (d := d + 2) (k := k) (M := M') (Q := Q) (x1 := x) (x2 := cnt) (x3 := 1) (u4 := u)
      rw [o33] at Bk
      refine Bk ⟨fun c1 => by omega, fun c1 => ⟨fun c2 => B_X10_patterns_83 (fin 1 _ ?_), fun c2 => c_X10_isMaximal (by decide) o122 o121 hG o7 g2 hPp (fun hm => B_X10_patterns_63 ⟨fun c3 => by omega, fun c3 => ⟨fun c4 => B_X10_patterns_83 (fin 1 _ ?_), fun c4 => c_X10_within0 o7 hK6 (by decide) (fun j hj => ?_) (fun r hr => ?_)⟩⟩) (fun hm => B_X10_patterns_63 ⟨fun c3 => B_X10_patterns_87 (fin 0 _ ?_), fun c3 => (c3 rfl).elim⟩)⟩⟩
      · rw [if_pos]; unfold pwF; simp [c2]
      · rw [if_pos]; unfold pwF; simp [c4, hm]
      · have := hbd j hj
        rw [o122]; exact ⟨this.2.2.1, Int.le_trans this.2.2.2 (by omega)⟩
      · rw [o122, ← hpw] at hr
        subst hr
        refine B_X10_patterns_76 ⟨fun c5 => B_X10_patterns_87 (fin 0 _ ?_), fun c5 => B_X10_patterns_83 (fin 1 _ ?_)⟩
        · rw [o33] at c5
          rw [if_neg]; unfold pwF; simp [c2, c4, c5]
        · rw [o33] at c5
          rw [if_pos]; unfold pwF; simp [hm, c5]
      · rw [if_neg]; unfold pwF; simp [c2, hm]
  have Bk := B_X10_patterns_25 (d := d + 2) (k := k) (M := M) (Q := Q) (x1 := x) (u2 := u2) (u3 := u3) (u4 := u4)
  rw [hc] at Bk
  refine Bk (c_X10_begins (by decide) (by decide) h122 h123 h2 hG hK (fun M' q1 q2 => B_X10_patterns_40 ?_))
  exact loop B0 _ M' 0 _ q1 q2 hb3 hb2 (by omega) (by omega)
