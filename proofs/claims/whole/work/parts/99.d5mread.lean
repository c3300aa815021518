/-! the model reads the clauses -/
def mdR (M : mM) : PS → Prop
  | (_, cl, cap, kin, sz, _, R) => M 112 27 = cap ∧ M 112 28 = kin ∧ M 112 29 = cl ∧ (∀ s : Nat, s < kin → M 119 s = sz s) ∧ (∀ i : Int, 0 ≤ i → i < 79 → i ≠ 6 → M 120 i = R i) ∧ M 112 17 = -1
def fr3 (M M' : mM) : Prop := frM [119, 120] [17, 18, 19, 21, 22, 23, 24, 27, 28, 29] M M'
theorem fr3.tr {M M' M'' : mM} (h : fr3 M M') (h' : fr3 M' M'') : fr3 M M'' := frM.tr h h'
theorem fr3.go {M M' : mM} (g : frM [] [18, 19, 21, 22, 23] M M') : fr3 M M' := g.w (fun n hn => by simp at hn) (fun n hn => by simp at hn ⊢; omega)
theorem fr3.by {T : Int → Int} {n : Int} {M M' : mM} (g : fr3 M M') (h : byR T n M) : byR T n M' := by
  unfold byR; rw [g.1 118 (by simp) (by decide)]; exact h
/-- a fault is set down -/
def fM (M : mM) (r : Int) : mM := mUp (mUp M 112 24 r) 112 17 (M 112 19)
theorem fr3.fM {M : mM} {r : Int} : fr3 M (fM M r) := (frM.rf.fl (by simp)).fl (by simp)
theorem mdR.go {M M' : mM} {s : PS} (h : mdR M s) (g : frM [] [18, 19, 21, 22, 23] M M') : mdR M' s := by
  obtain ⟨st, cl, cap, kin, sz, size, R⟩ := s
  obtain ⟨h1, h2, h3, h4, h5, h6⟩ := h
  refine ⟨by rw [g.2 27 (by simp)]; exact h1, by rw [g.2 28 (by simp)]; exact h2, by rw [g.2 29 (by simp)]; exact h3, ?_, ?_, by rw [g.2 17 (by simp)]; exact h6⟩
  · rw [g.1 119 (by simp) (by decide)]; exact h4
  · rw [g.1 120 (by simp) (by decide)]; exact h5
def mO (T : Int → Int) (n : Int) (X : Rs) (cl p : Int) (M' : mM) : Prop := (M' 112 24 ≠ 0 ∧ M' 112 29 = cl ∧ X = bad (M' 112 24) (M' 112 17)) ∨ ∃ (f' : Nat) (s' : PS) (p' : Int), p < p' ∧ p' ≤ n ∧ n - p' < f' ∧ tkM T n M' p' ∧ psOK s' ∧ (s'.1 = 6 ∨ (s'.1 = 5 ∧ tT T n (ro (bl T) n p') ≠ 2)) ∧ s'.2.1 = cl ∧ mdR M' s' ∧ M' 120 6 = s'.2.2.2.2.2.2 6 ∧ rd T n f' s' p' = X
theorem tT_n0 {T : Int → Int} {n q : Int} (h : tT T n q ≠ 0) : q < n := by
  unfold tT at h
  by_cases e : n ≤ q
  · rw [if_pos e] at h; omega
  · omega
theorem tT_dg {T : Int → Int} {n q : Int} (h : tT T n q = 2) : dg T q = true := by
  have := tT_n0 (T := T) (n := n) (q := q) (by omega)
  unfold tT at h
  rw [if_neg (by omega)] at h
  split at h
  · omega
  · split at h
    · assumption
    · split at h <;> omega
section mrR
variable {d k : Nat} {M : mM} {Q : mRes → mM → Prop} {T : Int → Int} {n p st cl cap size : Int} {kin f : Nat} {sz R : Int → Int} {X : Rs}
theorem c_X10_wants {x1 x2 : Int} (h : M 112 24 = 0) (hx : x2 ≠ 0) (h0 : x1 = 0 → Q (.inl (some (mI 0))) (fM M x2)) (h1 : x1 ≠ 0 → Q (.inl (some (mI 1))) M) : V d k qX10_wants 0 [mR 18 58 112, mI x1, mI x2] [] M Q :=
  B_X10_wants_0 ⟨fun c => absurd h c, fun _ => ⟨fun c => B_X10_wants_24 ⟨fun z => absurd h z, fun _ => h1 c⟩, fun c => B_X10_wants_24 ⟨fun _ => h0 c, fun z => absurd (show x2 = 0 from z) hx⟩⟩⟩
theorem c_X10_wantsB {x1 x2 : Int} (h : M 112 24 ≠ 0) (h0 : Q (.inl (some (mI 0))) M) : V d k qX10_wants 0 [mR 18 58 112, mI x1, mI x2] [] M Q :=
  B_X10_wants_0 ⟨fun _ => B_X10_wants_24 ⟨fun _ => h0, fun z => absurd z h⟩, fun z => absurd z h⟩
theorem go_next {T : Int → Int} {n p : Int} (hp : 0 ≤ p ∧ p ≤ n) (ht : tT T n (ro (bl T) n p) ≠ 0) : p < (eT T n (ro (bl T) n p)) ∧ (eT T n (ro (bl T) n p)) ≤ n := by
  have h1 := ro_b (P := bl T) hp.2
  have h2 := eT_b (T := T) (tT_n0 ht)
  omega
theorem c_X10_number {lo hi : Int} (hB : byR T n M) (hn : n ≤ 700) (hp : 0 ≤ p ∧ p ≤ n) (hK : tkM T n M p)
    (h1 : tT T n (ro (bl T) n p) ≠ 2 → Q (.inl (some (mI lo))) (fM M 1)) (h2 : tT T n (ro (bl T) n p) = 2 → ¬ (lo ≤ vT T (ro (bl T) n p) (eT T n (ro (bl T) n p)) ∧ vT T (ro (bl T) n p) (eT T n (ro (bl T) n p)) ≤ hi) → Q (.inl (some (mI lo))) (fM M 2))
    (h3 : tT T n (ro (bl T) n p) = 2 → lo ≤ vT T (ro (bl T) n p) (eT T n (ro (bl T) n p)) → vT T (ro (bl T) n p) (eT T n (ro (bl T) n p)) ≤ hi → ∀ M', frM [] [18, 19, 21, 22, 23] M M' → tkM T n M' (eT T n (ro (bl T) n p)) → Q (.inl (some (mI (vT T (ro (bl T) n p) (eT T n (ro (bl T) n p)))))) M') : V (d + 3) k qX10_number 0 [mR 18 58 112, mI lo, mI hi, mE 0] [] M Q := by
  obtain ⟨k1, k2, k3, k4, k5, k6, k7⟩ := hK
  refine B_X10_number_0 ⟨fun c => B_X10_number_14 (c_X10_wants k2 (by decide) (fun _ => B_X10_number_18 ⟨fun _ => h1 (by omega), fun z => absurd rfl z⟩) (fun z => absurd rfl z)), fun c => B_X10_number_14 (c_X10_wants k2 (by decide) (fun z => absurd z (by decide)) (fun _ => B_X10_number_18 ⟨fun z => absurd z (by decide), fun _ => c_X10_within (fun r hr => B_X10_number_31 ?_)⟩))⟩
  have ht : tT T n (ro (bl T) n p) = 2 := by omega
  have hv := k6 ht
  have gn := go_next hp (by rw [ht]; decide)
  rw [hv] at hr
  refine c_X10_wants k2 (by decide) (fun z => B_X10_number_35 ⟨fun y => absurd rfl y, fun _ => h2 ht (fun y => by rw [if_pos y] at hr; omega)⟩) (fun z => B_X10_number_35 ⟨fun _ => ?_, fun z => absurd z (by decide)⟩)
  have hin : lo ≤ vT T (ro (bl T) n p) (eT T n (ro (bl T) n p)) ∧ vT T (ro (bl T) n p) (eT T n (ro (bl T) n p)) ≤ hi := by
    by_cases y : lo ≤ vT T (ro (bl T) n p) (eT T n (ro (bl T) n p)) ∧ vT T (ro (bl T) n p) (eT T n (ro (bl T) n p)) ≤ hi
    · exact y
    · rw [if_neg y] at hr; omega
  rw [hv]
  exact c_X10_go hB hn k1 k2 k4 (by omega) (fun M' g t => B_X10_number_49 (h3 ht hin.1 hin.2 M' g t))
theorem c_X10_toldAll (h28 : M 112 28 = kin) (hk : kin ≤ 6) (hR : ∀ s : Nat, s < kin → M 120 s = R s ∧ 0 ≤ R s ∧ R s ≤ 12) (hQ : Q (.inl (some (mI (sg R kin)))) M) : V d k qX10_toldAll 0 [mR 18 58 112, mE 0, mE 0] [] M Q := by
  have loop : ∀ r j : Nat, j + r = kin → V d k qX10_toldAll 4 [mR 18 58 112, mI (sg R j), mI j] [] M Q := by
    intro r
    induction r with
    | zero =>
      intro j hj
      refine B_X10_toldAll_4 ⟨fun _ => ?_, fun c => by omega⟩
      rw [show j = kin by omega]; exact hQ
    | succ r ih =>
      intro j hj
      have h2 := sg_bd (f := R) (c := 12) (n := j) (fun i hi => (hR i (by omega)).2)
      have h3 := hR j (by omega)
      refine B_X10_toldAll_4 ⟨fun c => by omega, fun _ => ⟨by omega, by omega, by omega, ?_⟩⟩
      rw [h3.1]
      exact ih (j + 1) (by omega)
  exact B_X10_toldAll_0 (loop kin 0 (by omega))
theorem c_X10_sortTold (hB : byR T n M) (hn : n ≤ 700) (hp : 0 ≤ p ∧ p ≤ n) (hf : n - p < (f + 1 : Nat)) (hK : tkM T n M p) (hO : psOK (0, cl, cap, kin, sz, size, R)) (hD : mdR M (0, cl, cap, kin, sz, size, R)) (h6 : M 120 6 = R 6) (ht : tT T n (ro (bl T) n p) ≠ 0) (hw : wT T (ro (bl T) n p) (eT T n (ro (bl T) n p)) = 1) (hres : rd T n (f + 1) (0, cl, cap, kin, sz, size, R) p = X)
    (hQ : ∀ M', fr3 M M' → mO T n X cl p M' → Q (.inl none) M') : V (d + 4) k qX10_sortTold 0 [mR 18 58 112, mE 0] [] M Q := by
  obtain ⟨k1, k2, k3, k4, k5, k6, k7⟩ := id hK
  obtain ⟨d1, d2, d3, d4, d5, d6⟩ := id hD
  have gn := go_next hp ht
  rw [rd_s] at hres
  by_cases hk : 6 ≤ kin
  · rw [sp_w1b ht hw hk] at hres
    exact B_X10_sortTold_0 ⟨fun _ => B_X10_sortTold_15 (c_X10_wants k2 (by decide) (fun _ => B_X10_sortTold_19 ⟨fun z => absurd rfl z, fun _ => hQ _ fr3.fM (Or.inl ⟨by show (2 : Int) ≠ 0; decide, d3, by rw [← hres, ← k3]; rfl⟩)⟩) (fun z => absurd rfl z)), fun c => by omega⟩
  rw [sp_w1 ht hw hk] at hres
  have hO1 := ok_w1 hO hk
  refine B_X10_sortTold_0 ⟨fun c => by omega, fun _ => B_X10_sortTold_15 (c_X10_wants k2 (by decide) (fun z => absurd z (by decide)) (fun _ => B_X10_sortTold_19 ⟨fun _ => c_X10_go hB hn k1 k2 k4 (by omega) (fun M1 g1 t1 => B_X10_sortTold_27 ?_), fun z => absurd z (by decide)⟩))⟩
  have f1 := fr3.go g1
  have b1 := f1.by hB
  have D1 := hD.go g1
  have e1 : M1 120 = M 120 := g1.1 120 (by simp) (by decide)
  obtain ⟨x1, x2, x3, x4, x5, x6, x7⟩ := id t1
  obtain ⟨f, rfl⟩ : ∃ f' : Nat, f = f' + 1 := ⟨f - 1, by omega⟩
  generalize hpp : (eT T n (ro (bl T) n p)) = p1 at *
  rw [rd_s] at hres
  rw [show M1 112 27 = cap from D1.1]
  have out : ∀ r : Int, r ≠ 0 → X = bad r (ro (bl T) n p1) → ∀ y : Int, V (d + 4) k qX10_sortTold 36 [mR 18 58 112, mE 0] [mI y] (fM M1 r) Q := fun r hr hX y => by
    have hb : fM M1 r 112 24 ≠ 0 := hr
    have h51 : ∀ z : Int, V (d + 4) k qX10_sortTold 51 [mR 18 58 112, mI y] [mI z, mR 18 58 112] (fM M1 r) Q := fun z => B_X10_sortTold_51 (c_X10_wantsB hb (B_X10_sortTold_55 ⟨fun _ => hQ _ (f1.tr fr3.fM) (Or.inl ⟨hb, D1.2.2.1, by rw [hX, ← x3]; rfl⟩), fun z => absurd rfl z⟩))
    exact B_X10_sortTold_36 ⟨fun _ => h51 0, fun _ => h51 1⟩
  refine c_X10_number b1 hn (by omega) t1 (fun h => out 1 (by decide) ?_ 1) (fun h h' => out 2 (by decide) ?_ 1) (fun h hlo hhi M2 g2 t2 => ?_)
  · rw [← hres, sp_one (by decide) (fun z => by omega) (Or.inr h)]
  · rw [← hres, h, sp_2b (by omega)]
  rw [h, sp_2 (by omega)] at hres
  have hO2 := ok_size hO1 (v := vT T (ro (bl T) n p1) (eT T n (ro (bl T) n p1))) (by omega)
  generalize hv1 : vT T (ro (bl T) n p1) (eT T n (ro (bl T) n p1)) = v1 at *
  have gn1 := go_next (T := T) (n := n) (p := p1) (by omega) (by omega)
  generalize hpp1 : (eT T n (ro (bl T) n p1)) = p2 at *
  have f2 := f1.tr (fr3.go g2)
  have b2 := f2.by hB
  have D2 := D1.go g2
  have e2 : M2 120 = M 120 := (g2.1 120 (by simp) (by decide)).trans e1
  obtain ⟨y1, y2, y3, y4, y5, y6, y7⟩ := id t2
  obtain ⟨f, rfl⟩ : ∃ f' : Nat, f = f' + 1 := ⟨f - 1, by omega⟩
  rw [rd_s] at hres
  have out2 : X = bad 2 (ro (bl T) n p2) → V (d + 4) k qX10_sortTold 87 [mR 18 58 112, mI v1] [mI 0, mR 18 58 112] M2 Q := fun hX =>
    B_X10_sortTold_87 (c_X10_wants y2 (by decide) (fun _ => B_X10_sortTold_91 ⟨fun z => absurd rfl z, fun _ => hQ _ (f2.tr fr3.fM) (Or.inl ⟨by show (2 : Int) ≠ 0; decide, D2.2.2.1, by rw [hX, ← y3]; rfl⟩)⟩) (fun z => absurd rfl z))
  refine B_X10_sortTold_36 ⟨fun c => B_X10_sortTold_51 (c_X10_wants y2 (by decide) (fun _ => B_X10_sortTold_55 ⟨fun _ => hQ _ (f2.tr fr3.fM) (Or.inl ⟨by show (1 : Int) ≠ 0; decide, D2.2.2.1, ?_⟩), fun z => absurd rfl z⟩) (fun z => absurd rfl z)), fun c => B_X10_sortTold_51 (c_X10_wants y2 (by decide) (fun z => absurd z (by decide)) (fun _ => ?_))⟩
  · rw [← hres, sp_one (by decide) (fun z => by omega) (Or.inr (by omega)), ← y3]; rfl
  have ht2 : tT T n (ro (bl T) n p2) = 2 := by omega
  have gn2 := go_next (T := T) (n := n) (p := p2) (by omega) (by omega)
  have hv2 := y6 ht2
  have hvb := vT_b (tT_n0 (T := T) (n := n) (q := (ro (bl T) n p2)) (by omega)) (tT_dg ht2)
  rw [ht2] at hres
  generalize hv3 : vT T (ro (bl T) n p2) (eT T n (ro (bl T) n p2)) = v2 at *
  obtain ⟨m1, m2, m3, m4, m5, m6⟩ := id D2
  have hrow := hO2.2.2.2.2.2.2.2.2.2.2
  have hb24 := sg_bd (f := R) (c := 12) (n := kin) (fun j hj => by have := hrow.1 j (by omega); omega)
  refine B_X10_sortTold_55 ⟨fun z => absurd z (by decide), fun _ => ⟨fun c2 => B_X10_sortTold_86 (out2 (by rw [← hres, sp_3b (Or.inl (by omega))])), fun c2 => c_X10_toldAll m2 (by omega) (fun s hs => ⟨m5 s (by omega) (by omega) (by omega), by have := hrow.1 s (by omega); omega⟩) ?_⟩⟩
  refine B_X10_sortTold_72 ⟨by omega, fun c3 => B_X10_sortTold_86 (out2 (by rw [← hres, sp_3b (Or.inr (by omega))])), fun c3 => B_X10_sortTold_87 (c_X10_wants y2 (by decide) (fun z => absurd z (by decide)) (fun _ => B_X10_sortTold_91 ⟨fun _ => ⟨by omega, by omega, by omega, ?_⟩, fun z => absurd z (by decide)⟩))⟩
  rw [sp_3 (by omega)] at hres
  have hok := ok_rest hO2 (v := v2) (by omega) (by omega)
  have D3 : mdR (mUp (mUp (mUp M2 119 (M2 112 28) v1) 120 (M2 112 28) (M2 112 22)) 112 28 (M2 112 28 + 1)) (6, cl, cap, kin + 1, fset sz kin v1, v1, fset R kin v2) := by
    refine ⟨m1, ?_, m3, fun s hs => ?_, fun i h1 h2 h3 => ?_, m6⟩
    · rw [up_s, m2]; rfl
    · show mUp M2 119 (M2 112 28) v1 119 s = _
      rw [m2]
      by_cases e : s = kin
      · subst e; rw [up_s, fset_s]
      · rw [up_fld (by omega), fset_n (by omega)]; exact m4 s (by omega)
    · show mUp (mUp M2 119 (M2 112 28) v1) 120 (M2 112 28) (M2 112 22) 120 i = _
      rw [m2, hv2]
      by_cases e : i = kin
      · subst e; rw [up_s, fset_s]
      · rw [up_fld e, fset_n e]; exact m5 i h1 h2 h3
  have f3 : fr3 M (mUp (mUp (mUp M2 119 (M2 112 28) v1) 120 (M2 112 28) (M2 112 22)) 112 28 (M2 112 28 + 1)) := ((f2.up (by simp) (by decide)).up (by simp) (by decide)).fl (by simp)
  have h36 : (mUp (mUp (mUp M2 119 (M2 112 28) v1) 120 (M2 112 28) (M2 112 22)) 112 28 (M2 112 28 + 1)) 120 6 = R 6 := by
    show mUp (mUp M2 119 (M2 112 28) v1) 120 (M2 112 28) (M2 112 22) 120 6 = _
    rw [up_fld (by omega)]
    show M2 120 6 = R 6
    rw [e2]; exact h6
  refine c_X10_go (f3.by hB) hn y1 y2 y4 (by omega) (fun M4 g4 t4 => B_X10_sortTold_132 (hQ M4 (f3.tr (fr3.go g4)) (Or.inr ⟨f, _, _, ?_, ?_, ?_, t4, hok.1, Or.inl rfl, rfl, D3.go g4, ?_, hres⟩)))
  · omega
  · omega
  · omega
  · rw [g4.1 120 (by simp) (by decide), h36]; exact (fset_n (by omega)).symm
end mrR
