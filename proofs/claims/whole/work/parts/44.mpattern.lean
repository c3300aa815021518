/-! the model's pattern -/
set_option maxHeartbeats 1000000 in
theorem l_X10_pattern {d k : Nat} {M : mM} {Q : mRes → mM → Prop} {c x2 : Int} {K x : Nat} {sz mn od : Int → Int} {u3 u4 u5 : mV} (h122 : M 122 = sz) (h123 : M 123 = od) (h2 : ∀ s, M 121 (0 + s) = mn s) (hG : GLok c K sz mn od) (hK : M 112 7 = K) (hc : M 112 33 = c) (hx2 : x2 = -1 ∨ (0 ≤ x2 ∧ x2 < 6))
    (k1 : ∀ M' p r, frP 0 M M' → (mxs (zl K sz mn od) c)[x]? = some p → isP (zl K sz mn od) c p → ptR K od p (fun s => M' 128 (0 + s)) → r = (if x2 = -1 then pw (zl K sz mn od) p else M' 128 x2) → Q (.inl (some (mI r))) M') (k0 : ∀ M', frP 0 M M' → (mxs (zl K sz mn od) c).length ≤ x → Q (.inl (some (mI 0))) (mUp M' 112 5 1)) :
    V (d + 3) k qX10_pattern 41 [mR 18 58 112, mI x, mI x2, u3, u4, u5] [] M Q := by
  have hK6 : K ≤ 6 := hG.2.1
  have hc9 := hG.1
  obtain ⟨B0, hb1, hb2, hb3, hb4⟩ := hG.ps
  have loop : ∀ (B : List (List Int)) (p : List Int) (M' : mM) (cnt : Nat) (u : mV), frP 0 M M' → ptR K od p (fun s => M' 128 (0 + s)) → (∀ q, q ∈ p :: B → isP (zl K sz mn od) c q) → Ch (nx (zl K sz mn od) c) (p :: B) → cnt + B.length < 100000 → cnt ≤ x →
      (mxs (zl K sz mn od) c).drop cnt = (p :: B).filter (fun q => mx (zl K sz mn od) c q && true) → V (d + 3) k qX10_pattern 59 [mR 18 58 112, mI x, mI x2, mI cnt, mI 1, u] [] M' Q := by
    intro B
    induction B with
    | nil =>
      intro p M' cnt u g1 g2 g4 g5 g6 g7 g8
      have o7 : M' 112 7 = K := by rw [g1.1 112 (by decide)]; exact hK
      have o33 : M' 112 33 = c := by rw [g1.1 112 (by decide)]; exact hc
      have o122 : M' 122 = sz := by rw [g1.1 122 (by decide)]; exact h122
      have o123 : M' 123 = od := by rw [g1.1 123 (by decide)]; exact h123
      have o121 : ∀ s, M' 121 (0 + s) = mn s := fun s => by rw [g1.1 121 (by decide)]; exact h2 s
      have hPp := g4 p List.mem_cons_self
      have hbd := ptR_bd hG g2 hPp
      have hpw := ptR_pw hG g2
      have fin : ∀ (v : Int) (u : mV), (v = 0 ∨ v = 1) → (v = 1 → cnt < x) → (mxs (zl K sz mn od) c).length ≤ x → V (d + 3) k qX10_pattern 109 [mR 18 58 112, mI x, mI x2, mI cnt, mI 1, mI v] [] M' Q := fun v u hv hv3 hv4 => by
        have go : ∀ w : Int, w = v → V (d + 3) k qX10_pattern 120 [mR 18 58 112, mI x, mI x2, mI cnt, mI 1, mI v] [mI w, mI cnt] M' Q := fun w hw => by
          have Bk := B_X10_pattern_120 (d := d + 2) (k := k) (M := M') (Q := Q) (x1 := x) (x2 := x2) (x3 := cnt) (x4 := 1) (x5 := v) (sx0 := w) (sx1 := cnt)
          rw [o33] at Bk
          exact Bk ⟨by omega, c_X10_steps (by decide) (by decide) o122 o123 o121 hG o7 g2 hPp g5 (fun M'' b B' q1 q2 q3 => by cases q3) (fun _ => B_X10_pattern_135 (B_X10_pattern_59 ⟨fun c1 => k0 M' g1 hv4, fun c1 => (c1 rfl).elim⟩))⟩
        exact B_X10_pattern_109 ⟨fun c1 => go 0 c1.symm, fun c1 => go 1 (by omega)⟩
      have Bk := B_X10_pattern_59 (d := d + 2) (k := k) (M := M') (Q := Q) (x1 := x) (x2 := x2) (x3 := cnt) (x4 := 1) (u5 := u)
      rw [o33] at Bk
      refine Bk ⟨fun c1 => by omega, fun c1 => c_X10_isMaximal (by decide) o122 o121 hG o7 g2 hPp (fun hm => ?_) (fun hm => ?_)⟩
      · rw [flt_hd (P := fun q => mx (zl K sz mn od) c q && true) (by show (mx (zl K sz mn od) c p && true) = true; rw [hm]; rfl)] at g8
        have h9 := drop_get g8
        refine B_X10_pattern_77 ⟨fun c3 => by omega, fun c3 => ⟨fun c4 => fin 1 (mI 0) (by omega) (by omega) ?_, fun c4 => ⟨fun c5 => ⟨by omega, ?_⟩, fun c5 => c_X10_within0 o7 hK6 (by decide) (fun j hj => ?_) (fun r hr => B_X10_pattern_99 ?_)⟩⟩⟩
        · have := drop_nil h9.2; omega
        · have e : cnt = x := by omega
          subst e
          exact k1 M' p _ g1 h9.1 hPp g2 (by rw [if_neg c5])
        · have := hbd j hj
          rw [o122]; exact ⟨this.2.2.1, Int.le_trans this.2.2.2 (by omega)⟩
        · have e : cnt = x := by omega
          subst e
          rw [o122, ← hpw] at hr
          exact k1 M' p _ g1 h9.1 hPp g2 (by rw [if_pos c5]; exact hr)
      · rw [List.filter_cons_of_neg (by simp [hm])] at g8
        have h9 := drop_nil g8
        exact B_X10_pattern_77 ⟨fun c3 => fin 0 (mI 0) (by omega) (by omega) (by omega), fun c3 => (c3 rfl).elim⟩
    | cons b B ihB =>
      intro p M' cnt u g1 g2 g4 g5 g6 g7 g8
      have o7 : M' 112 7 = K := by rw [g1.1 112 (by decide)]; exact hK
      have o33 : M' 112 33 = c := by rw [g1.1 112 (by decide)]; exact hc
      have o122 : M' 122 = sz := by rw [g1.1 122 (by decide)]; exact h122
      have o123 : M' 123 = od := by rw [g1.1 123 (by decide)]; exact h123
      have o121 : ∀ s, M' 121 (0 + s) = mn s := fun s => by rw [g1.1 121 (by decide)]; exact h2 s
      have hPp := g4 p List.mem_cons_self
      have hbd := ptR_bd hG g2 hPp
      have hpw := ptR_pw hG g2
      simp only [List.length_cons] at g6
      have fin : ∀ (v : Nat) (u : mV), (v = 0 ∨ v = 1) → cnt + v ≤ x → (mxs (zl K sz mn od) c).drop (cnt + v) = (b :: B).filter (fun q => mx (zl K sz mn od) c q && true) → V (d + 3) k qX10_pattern 109 [mR 18 58 112, mI x, mI x2, mI cnt, mI 1, mI v] [] M' Q := fun v u hv hv3 hv4 => by
        have go : ∀ w : Int, w = v → V (d + 3) k qX10_pattern 120 [mR 18 58 112, mI x, mI x2, mI cnt, mI 1, mI v] [mI w, mI cnt] M' Q := fun w hw => by
          subst hw
          have Bk := B_X10_pattern_120 (d := d + 2) (k := k) (M := M') (Q := Q) (x1 := x) (x2 := x2) (x3 := cnt) (x4 := 1) (x5 := v) (sx0 := v) (sx1 := cnt)
          rw [o33] at Bk
          refine Bk ⟨by omega, c_X10_steps (by decide) (by decide) o122 o123 o121 hG o7 g2 hPp g5 (fun M'' b' B' q1 q2 q3 => B_X10_pattern_135 ?_) (fun q => by cases q)⟩
          injection q3 with q3 q4
          subst q3; subst q4
          exact ihB b M'' (cnt + v) _ (g1.tr q1) q2 (fun q hq => g4 q (List.mem_cons_of_mem _ hq)) g5.2 (by omega) hv3 hv4
        exact B_X10_pattern_109 ⟨fun c1 => go 0 c1.symm, fun c1 => go 1 (by omega)⟩
      have Bk := B_X10_pattern_59 (d := d + 2) (k := k) (M := M') (Q := Q) (x1 := x) (x2 := x2) (x3 := cnt) (x4 := 1) (u5 := u)
      rw [o33] at Bk
      refine Bk ⟨fun c1 => by omega, fun c1 => c_X10_isMaximal (by decide) o122 o121 hG o7 g2 hPp (fun hm => ?_) (fun hm => ?_)⟩
      · rw [flt_hd (P := fun q => mx (zl K sz mn od) c q && true) (by show (mx (zl K sz mn od) c p && true) = true; rw [hm]; rfl)] at g8
        have h9 := drop_get g8
        refine B_X10_pattern_77 ⟨fun c3 => by omega, fun c3 => ⟨fun c4 => fin 1 (mI 0) (by omega) (by omega) h9.2, fun c4 => ⟨fun c5 => ⟨by omega, ?_⟩, fun c5 => c_X10_within0 o7 hK6 (by decide) (fun j hj => ?_) (fun r hr => B_X10_pattern_99 ?_)⟩⟩⟩
        · have e : cnt = x := by omega
          subst e
          exact k1 M' p _ g1 h9.1 hPp g2 (by rw [if_neg c5])
        · have := hbd j hj
          rw [o122]; exact ⟨this.2.2.1, Int.le_trans this.2.2.2 (by omega)⟩
        · have e : cnt = x := by omega
          subst e
          rw [o122, ← hpw] at hr
          exact k1 M' p _ g1 h9.1 hPp g2 (by rw [if_pos c5]; exact hr)
      · rw [List.filter_cons_of_neg (by simp [hm])] at g8
        exact B_X10_pattern_77 ⟨fun c3 => fin 0 (mI 0) (by omega) (by omega) g8, fun c3 => (c3 rfl).elim⟩
  have Bk := B_X10_pattern_41 (d := d + 2) (k := k) (M := M) (Q := Q) (x1 := x) (x2 := x2) (u3 := u3) (u4 := u4) (u5 := u5)
  rw [hc] at Bk
  refine Bk (c_X10_begins (by decide) (by decide) h122 h123 h2 hG hK (fun M' q1 q2 => B_X10_pattern_56 ?_))
  exact loop B0 _ M' 0 _ q1 q2 hb3 hb2 (by omega) (by omega) (by unfold mxs; rw [hb1]; rfl)
