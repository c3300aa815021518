theorem tT_ltr {T : Int → Int} {n q : Int} (hq : q < n) (h : tT T n q ≠ 1) : ltr T q = false := by
  rw [Bool.eq_false_iff]
  intro z
  apply h
  unfold tT
  rw [if_neg (by omega), z]; rfl
section mrS
variable {d k : Nat} {M : mM} {Q : mRes → mM → Prop} {T : Int → Int} {n p st cl cap size : Int} {kin f : Nat} {sz R : Int → Int} {X : Rs}
theorem l_X10_binTold (hB : byR T n M) (hn : n ≤ 700) (hp : 0 ≤ p) (hQ : ∀ M', fr3 M M' → mO T n X cl p M' → Q (.inl none) M') : ∀ (f : Nat) (p1 st : Int) (R : Int → Int) (M1 : mM), p < p1 ∧ p1 ≤ n → n - p1 < f → (st = 4 ∨ (st = 5 ∧ tT T n (ro (bl T) n p1) = 2)) → psOK (st, cl, cap, kin, sz, size, R) → fr3 M M1 → tkM T n M1 p1 → mdR M1 (st, cl, cap, kin, sz, size, R) → M1 120 6 = R 6 - 1 → rd T n f (st, cl, cap, kin, sz, size, R) p1 = X → V (d + 4) k qX10_binTold 48 [mR 18 58 112, mI (sg (fun s => sz s * R (bnI R s)) kin), mI (7 + 6 * (R 6 - 1)), mI 1] [] M1 Q := by
  intro f
  induction f with
  | zero => intro p1 st R M1 h1 h2; omega
  | succ f ih =>
    intro p1 st R M1 h1 h2 hst hO f1 t1 D1 h6 hres
    obtain ⟨k1, k2, k3, k4, k5, k6, k7⟩ := id t1
    obtain ⟨m1, m2, m3, m4, m5, m6⟩ := id D1
    obtain ⟨o1, o2, o3, o4, o5, o6, o7, o8, o9, o10, o11⟩ := id hO
    have hst' : st = 4 ∨ st = 5 := by omega
    have o7 := o7 hst'
    have o12 := o11.2.2.1
    have b1 := f1.by hB
    rw [rd_s] at hres
    have flt : ∀ r : Int, r ≠ 0 → X = bad r (ro (bl T) n p1) → Q (.inl none) (fM M1 r) := fun r hr hX => hQ _ (f1.tr fr3.fM) (Or.inl ⟨hr, m3, by rw [hX, ← k3]; rfl⟩)
    refine B_X10_binTold_48 ⟨fun z => absurd z (by decide), fun _ => ⟨fun z => absurd k2 z, fun _ => ⟨fun c => B_X10_binTold_73 (c_X10_wants k2 (by decide) (fun _ => B_X10_binTold_77 ⟨fun _ => flt 1 (by decide) ?_, fun z => absurd rfl z⟩) (fun z => absurd rfl z)), fun c => B_X10_binTold_73 (c_X10_wants k2 (by decide) (fun z => absurd z (by decide)) (fun _ => ?_))⟩⟩⟩
    · rw [← hres, sp_one (by omega) (fun z => by omega) (Or.inr (by omega))]
    have ht : tT T n (ro (bl T) n p1) = 2 := by omega
    have gn := go_next (T := T) (n := n) (p := p1) (by omega) (by omega)
    have hv := k6 ht
    have hvb := vT_b (tT_n0 (T := T) (n := n) (q := (ro (bl T) n p1)) (by omega)) (tT_dg ht)
    rw [ht] at hres
    generalize hv1 : vT T (ro (bl T) n p1) (eT T n (ro (bl T) n p1)) = v at *
    refine B_X10_binTold_77 ⟨fun z => absurd z (by decide), fun _ => ⟨fun c2 => B_X10_binTold_95 (c_X10_wants k2 (by decide) (fun _ => B_X10_binTold_99 ⟨fun _ => flt 2 (by decide) (by rw [← hres, sp_4b2 hst' (by omega)]), fun z => absurd rfl z⟩) (fun z => absurd rfl z)), fun c2 => B_X10_binTold_95 (c_X10_wants k2 (by decide) (fun z => absurd z (by decide)) (fun _ => ?_))⟩⟩
    refine B_X10_binTold_99 ⟨fun z => absurd z (by decide), fun _ => ⟨fun c3 => B_X10_binTold_119 (c_X10_wants k2 (by decide) (fun _ => B_X10_binTold_123 ⟨fun z => absurd rfl z, fun _ => flt 3 (by decide) (by rw [← hres, sp_4b3 hst' (by omega) (by omega)])⟩) (fun z => absurd rfl z)), fun c3 => B_X10_binTold_119 (c_X10_wants k2 (by decide) (fun z => absurd z (by decide)) (fun _ => ?_))⟩⟩
    have hsz : M1 119 (M1 112 22) = sz v := by
      have := m4 v.toNat (by omega)
      rw [show ((v.toNat : Nat) : Int) = v by omega] at this
      rw [hv]; exact this
    have hszb : 1 ≤ sz v ∧ sz v ≤ cap := by
      have := o5 v.toNat (by omega)
      rw [show ((v.toNat : Nat) : Int) = v by omega] at this
      exact this
    obtain ⟨b0, hb0⟩ : ∃ b : Nat, R 6 - 1 = b := ⟨(R 6 - 1).toNat, by omega⟩
    have hwt : sg (fun s => sz s * R (bnI R s)) kin ≤ cap ∧ 0 ≤ sg (fun s => sz s * R (bnI R s)) kin := by
      have e : sg (fun s => sz s * R (bnI R s)) kin = sg (fun s => sz s * R (7 + 6 * b0 + s)) kin := sg_congr (fun j hj => by show sz j * R (bnI R j) = _; unfold bnI; rw [hb0])
      rw [e]
      have := sg_le (f := fun s => sz s * R (7 + 6 * b0 + s)) (n := 0) (m := kin) (by omega) (fun j hj => Int.mul_nonneg (by have := o5 j hj; omega) (by have := o11.2.2.2.1 b0 j (by omega) (by omega); omega))
      exact ⟨o11.2.2.2.2 b0 (by omega), this⟩
    refine B_X10_binTold_123 ⟨fun _ => ⟨by omega, by omega, fun c4 => B_X10_binTold_153 (c_X10_wants k2 (by decide) (fun _ => B_X10_binTold_157 ⟨fun z => absurd rfl z, fun _ => flt 5 (by decide) (by rw [← hres, sp_4b5 hst' (by omega) (by omega) (by omega)])⟩) (fun z => absurd rfl z)), fun c4 => B_X10_binTold_153 (c_X10_wants k2 (by decide) (fun z => absurd z (by decide)) (fun _ => ?_))⟩, fun z => absurd z (by decide)⟩
    rw [sp_4 hst' (by omega) (by omega) (by omega)] at hres
    have hok := ok_pc hO hst' (v := v) (by omega) (by omega) (by omega)
    have ei : 7 + 6 * (R 6 - 1) + M1 112 22 = bnI R v := by rw [hv]; rfl
    have bi : 7 ≤ bnI R v ∧ bnI R v < 79 := by unfold bnI; omega
    have e120 := m5 (bnI R v) (by omega) (by omega) (by omega)
    have e6 : fset R (bnI R v) (R (bnI R v) + 1) 6 = R 6 := fset_n (by omega)
    have ebn : ∀ s, bnI (fset R (bnI R v) (R (bnI R v) + 1)) s = bnI R s := fun s => by
      show 7 + 6 * (fset R (bnI R v) (R (bnI R v) + 1) 6 - 1) + s = _
      rw [e6]; rfl
    have ew : sg (fun s => sz s * R (bnI R s)) kin + M1 119 (M1 112 22) = sg (fun s => sz s * (fset R (bnI R v) (R (bnI R v) + 1)) (bnI (fset R (bnI R v) (R (bnI R v) + 1)) s)) kin := by
      rw [hsz, ← hok.2.1]
      exact sg_congr (fun j hj => by show _ = sz j * fset R (bnI R v) (R (bnI R v) + 1) (bnI (fset R (bnI R v) (R (bnI R v) + 1)) j); rw [ebn])
    rw [ew]
    have Bk := B_X10_binTold_157 (d := d + 3) (k := k) (M := M1) (Q := Q) (x1 := sg (fun s => sz s * (fset R (bnI R v) (R (bnI R v) + 1)) (bnI (fset R (bnI R v) (R (bnI R v) + 1)) s)) kin) (x2 := 7 + 6 * (R 6 - 1)) (x3 := 1) (sx0 := 1)
    rw [ei, e120] at Bk
    refine Bk ⟨fun _ => ⟨by omega, by omega, by omega, by omega, ?_⟩, fun z => absurd z (by decide)⟩
    have D2 : mdR (mUp M1 120 (bnI R v) (R (bnI R v) + 1)) (5, cl, cap, kin, sz, size, fset R (bnI R v) (R (bnI R v) + 1)) := by
      refine ⟨m1, m2, m3, m4, fun i h1 h2 h3 => ?_, m6⟩
      by_cases e : i = bnI R v
      · rw [e, up_s, fset_s]
      · rw [up_fld e, fset_n e]; exact m5 i h1 h2 h3
    have f2 : fr3 M (mUp M1 120 (bnI R v) (R (bnI R v) + 1)) := f1.up (by simp) (by decide)
    have h26 : mUp M1 120 (bnI R v) (R (bnI R v) + 1) 120 6 = R 6 - 1 := by rw [up_fld (by omega)]; exact h6
    have j1 : mUp M1 120 (bnI R v) (R (bnI R v) + 1) 112 20 = n := k1
    have j2 : mUp M1 120 (bnI R v) (R (bnI R v) + 1) 112 24 = 0 := k2
    have j3 : mUp M1 120 (bnI R v) (R (bnI R v) + 1) 112 18 = (eT T n (ro (bl T) n p1)) := k4
    revert D2 f2 h26 j1 j2 j3
    generalize mUp M1 120 (bnI R v) (R (bnI R v) + 1) = M2
    intro D2 f2 h26 j1 j2 j3
    refine c_X10_go (f2.by hB) hn j1 j2 j3 (by omega) (fun M3 g3 t3 => ?_)
    have f3 := f2.tr (fr3.go g3)
    have D3 := D2.go g3
    have h36 : M3 120 6 = R 6 - 1 := by rw [g3.1 120 (by simp) (by decide)]; exact h26
    have t5 := t3.2.2.2.2.1
    refine B_X10_binTold_180 ⟨fun c5 => ?_, fun c5 => ?_⟩
    · refine B_X10_binTold_48 ⟨fun _ => ⟨by omega, hQ _ (f3.up (by simp) (by decide)) (Or.inr ⟨f, _, _, ?_, ?_, ?_, t3, hok.1, Or.inr ⟨rfl, by omega⟩, rfl, ?_, ?_, hres⟩)⟩, fun z => absurd rfl z⟩
      · omega
      · omega
      · omega
      · obtain ⟨a1, a2, a3, a4, a5, a6⟩ := D3
        exact ⟨a1, a2, a3, a4, fun i h1 h2 h3 => by rw [up_fld h3]; exact a5 i h1 h2 h3, a6⟩
      · rw [up_s, h36]; show R 6 - 1 + 1 = fset R (bnI R v) (R (bnI R v) + 1) 6; rw [e6]; omega
    · have := ih (eT T n (ro (bl T) n p1)) 5 _ M3 (by omega) (by omega) (Or.inr ⟨rfl, by omega⟩) hok.1 f3 t3 D3 (by rw [e6]; exact h36) hres
      rw [e6] at this
      exact this
theorem c_X10_binTold (hB : byR T n M) (hn : n ≤ 700) (hp : 0 ≤ p ∧ p ≤ n) (hf : n - p < (f + 1 : Nat)) (hK : tkM T n M p) (hO : psOK (0, cl, cap, kin, sz, size, R)) (hD : mdR M (0, cl, cap, kin, sz, size, R)) (h6 : M 120 6 = R 6) (ht : tT T n (ro (bl T) n p) ≠ 0) (hw : wT T (ro (bl T) n p) (eT T n (ro (bl T) n p)) = 2) (hres : rd T n (f + 1) (0, cl, cap, kin, sz, size, R) p = X)
    (hQ : ∀ M', fr3 M M' → mO T n X cl p M' → Q (.inl none) M') : V (d + 4) k qX10_binTold 0 [mR 18 58 112, mE 0, mE 0, mE 0] [] M Q := by
  obtain ⟨k1, k2, k3, k4, k5, k6, k7⟩ := id hK
  have gn := go_next hp ht
  rw [rd_s] at hres
  by_cases hk : 12 ≤ R 6
  · rw [sp_w2b ht hw hk] at hres
    exact B_X10_binTold_0 ⟨fun _ => B_X10_binTold_18 (c_X10_wants k2 (by decide) (fun _ => B_X10_binTold_22 ⟨fun z => absurd rfl z, fun _ => hQ _ fr3.fM (Or.inl ⟨by show (2 : Int) ≠ 0; decide, hD.2.2.1, by rw [← hres, ← k3]; rfl⟩)⟩) (fun z => absurd rfl z)), fun c => by omega⟩
  rw [sp_w2 ht hw hk] at hres
  have hO1 := ok_w2 hO hk
  have o12 := hO.2.2.2.2.2.2.2.2.2.2.2.2.1
  refine B_X10_binTold_0 ⟨fun c => by omega, fun _ => B_X10_binTold_18 (c_X10_wants k2 (by decide) (fun z => absurd z (by decide)) (fun _ => B_X10_binTold_22 ⟨fun _ => c_X10_go hB hn k1 k2 k4 (by omega) (fun M1 g1 t1 => B_X10_binTold_30 ?_), fun z => absurd z (by decide)⟩))⟩
  have e1 : M1 120 6 = R 6 := by rw [g1.1 120 (by simp) (by decide)]; exact h6
  have D1 : mdR M1 (4, cl, cap, kin, sz, size, fset R 6 (R 6 + 1)) := by
    obtain ⟨a1, a2, a3, a4, a5, a6⟩ := hD.go g1
    exact ⟨a1, a2, a3, a4, fun i h1 h2 h3 => by rw [fset_n h3]; exact a5 i h1 h2 h3, a6⟩
  have := l_X10_binTold (d := d) (k := k) hB hn hp.1 hQ f (eT T n (ro (bl T) n p)) 4 _ M1 (by omega) (by omega) (Or.inl rfl) hO1 (fr3.go g1) t1 D1 (by rw [fset_s, e1]; omega) hres
  have e0 : sg (fun s => sz s * fset R 6 (R 6 + 1) (bnI (fset R 6 (R 6 + 1)) s)) kin = 0 := sg_z (fun j hj => by
    show sz j * fset R 6 (R 6 + 1) (7 + 6 * (fset R 6 (R 6 + 1) 6 - 1) + j) = 0
    have hz := (hO.2.2.2.2.2.2.2.2.2.2.2.2.2.1 (R 6).toNat j (by omega) (by have := hO.2.2.2.1; omega)).2.2.2 (by omega)
    rw [show (((R 6).toNat : Nat) : Int) = R 6 by omega] at hz
    rw [fset_s, show R 6 + 1 - 1 = R 6 by omega, fset_n (by omega), hz, Int.mul_zero])
  rw [e0, fset_s, show R 6 + 1 - 1 = R 6 by omega] at this
  rw [e1]
  exact ⟨by omega, by omega, this⟩
theorem c_X10_clause (hB : byR T n M) (hn : n ≤ 700) (hp : 0 ≤ p ∧ p ≤ n) (hf : n - p < (f + 1 : Nat)) (hK : tkM T n M p) (hO : psOK (0, cl, cap, kin, sz, size, R)) (hD : mdR M (0, cl, cap, kin, sz, size, R)) (h6 : M 120 6 = R 6) (ht : tT T n (ro (bl T) n p) ≠ 0) (hres : rd T n (f + 1) (0, cl, cap, kin, sz, size, R) p = X)
    (hQ : ∀ M', fr3 M M' → mO T n X cl p M' → Q (.inl none) M') : V (d + 5) k qX10_clause 0 [mR 18 58 112, mE 0] [] M Q := by
  obtain ⟨k1, k2, k3, k4, k5, k6, k7⟩ := id hK
  obtain ⟨d1, d2, d3, d4, d5, d6⟩ := id hD
  have gn := go_next hp ht
  have h16 : V (d + 5) k qX10_clause 16 [mR 18 58 112, mE 0] [mI (wT T (ro (bl T) n p) (eT T n (ro (bl T) n p)))] M Q := by
    refine B_X10_clause_16 ⟨fun c1 => ⟨fun c2 => ⟨fun c3 => B_X10_clause_51 (c_X10_wants k2 (by decide) (fun _ => B_X10_clause_55 ⟨fun _ => hQ _ fr3.fM (Or.inl ⟨by show (1 : Int) ≠ 0; decide, d3, ?_⟩), fun z => absurd rfl z⟩) (fun z => absurd rfl z)), fun c3 => ?_⟩, fun c2 => c_X10_binTold hB hn hp hf hK hO hD h6 ht c2 hres (fun M' a b => B_X10_clause_38 (hQ M' a b))⟩, fun c1 => c_X10_sortTold hB hn hp hf hK hO hD h6 ht c1 hres (fun M' a b => B_X10_clause_26 (hQ M' a b))⟩
    · rw [← hres, rd_s, sp_wn ht c3 c1 c2, ← k3]; rfl
    rw [rd_s] at hres
    refine B_X10_clause_51 (c_X10_wants k2 (by decide) (fun z => absurd z (by decide)) (fun _ => B_X10_clause_55 ⟨fun z => absurd z (by decide), fun _ => ⟨fun c4 => B_X10_clause_71 (c_X10_wants k2 (by decide) (fun _ => B_X10_clause_75 ⟨fun _ => hQ _ fr3.fM (Or.inl ⟨by show (4 : Int) ≠ 0; decide, d3, ?_⟩), fun z => absurd rfl z⟩) (fun z => absurd rfl z)), fun c4 => B_X10_clause_71 (c_X10_wants k2 (by decide) (fun z => absurd z (by decide)) (fun _ => B_X10_clause_75 ⟨fun z => absurd z (by decide), fun _ => c_X10_go hB hn k1 k2 k4 (by omega) (fun M1 g1 t1 => B_X10_clause_82 ?_)⟩))⟩⟩))
    · rw [← hres, sp_w0b ht c3 (by have := hO.2.1; omega), ← k3]; rfl
    have hc : ¬ 0 < cl := by omega
    rw [sp_w0 ht c3 hc] at hres
    have hO1 := ok_w0 hO hc
    have f1 := fr3.go g1
    have b1 := f1.by hB
    have D1 := hD.go g1
    have x3 := t1.2.2.1
    generalize wT T (ro (bl T) n p) (eT T n (ro (bl T) n p)) = w at *
    obtain ⟨f, rfl⟩ : ∃ f' : Nat, f = f' + 1 := ⟨f - 1, by omega⟩
    generalize hpp : (eT T n (ro (bl T) n p)) = p1 at *
    rw [rd_s] at hres
    refine c_X10_number b1 hn (by omega) t1 (fun h => B_X10_clause_90 (hQ _ ((f1.tr fr3.fM).fl (by simp)) (Or.inl ⟨by show (1 : Int) ≠ 0; decide, D1.2.2.1, ?_⟩))) (fun h h' => B_X10_clause_90 (hQ _ ((f1.tr fr3.fM).fl (by simp)) (Or.inl ⟨by show (2 : Int) ≠ 0; decide, D1.2.2.1, ?_⟩))) (fun h hlo hhi M2 g2 t2 => B_X10_clause_90 ?_)
    · rw [← hres, sp_one (by decide) (fun z => by omega) (Or.inr h), ← x3]; rfl
    · rw [← hres, h, sp_1b (by omega), ← x3]; rfl
    rw [h, sp_1 (by omega)] at hres
    have gn1 := go_next (T := T) (n := n) (p := p1) (by omega) (by omega)
    obtain ⟨a1, a2, a3, a4, a5, a6⟩ := D1.go g2
    refine hQ _ ((f1.tr (fr3.go g2)).fl (by simp)) (Or.inr ⟨f, _, _, ?_, ?_, ?_, t2, ok_cap hO1 (v := vT T (ro (bl T) n p1) (eT T n (ro (bl T) n p1))) (by omega), Or.inl rfl, rfl, ⟨rfl, a2, a3, a4, a5, a6⟩, ?_, hres⟩)
    · omega
    · omega
    · omega
    · show M2 120 6 = R 6
      rw [g2.1 120 (by simp) (by decide), g1.1 120 (by simp) (by decide)]; exact h6
  refine B_X10_clause_0 ⟨fun c => ?_, fun c => ?_⟩
  · rw [wT_no (tT_ltr (tT_n0 ht) (by omega))] at h16; exact h16
  · rw [← k7 (by omega)] at h16; exact h16
theorem l_X10_goods98 (hB : byR T n M) (hn : n ≤ 700) (h161 : ∀ M', fr3 M M' → ((M' 112 24 ≠ 0 ∧ X = bad (M' 112 24) (M' 112 17)) ∨ (M' 112 24 = 0 ∧ ∃ (cl cap : Int) (kin : Nat) (sz : Int → Int) (size : Int) (R : Int → Int), psOK (0, cl, cap, kin, sz, size, R) ∧ mdR M' (0, cl, cap, kin, sz, size, R) ∧ M' 120 6 = R 6 ∧ X = (0, -1, cap, kin, sz, R))) → V (d + 6) k qX10_goods 161 [mR 18 58 112, mI n, mI 80] [] M' Q) :
    ∀ (r : Nat) (p : Int) (f : Nat) (cl cap : Int) (kin : Nat) (sz : Int → Int) (size : Int) (R : Int → Int) (M1 : mM), 0 ≤ p ∧ p ≤ n → n - p ≤ r → n - p < f → cl ≤ p → psOK (0, cl, cap, kin, sz, size, R) → fr3 M M1 → tkM T n M1 p → mdR M1 (0, cl, cap, kin, sz, size, R) → M1 120 6 = R 6 → rd T n f (0, cl, cap, kin, sz, size, R) p = X → V (d + 6) k qX10_goods 98 [mR 18 58 112, mI n, mI 80] [] M1 Q := by
  intro r
  induction r with
  | zero =>
    intro p f cl cap kin sz size R M1 hp h1 h2 hcl hO f1 t1 D1 h6 hres
    obtain ⟨f, rfl⟩ : ∃ f' : Nat, f = f' + 1 := ⟨f - 1, by omega⟩
    have hro := ro_b (P := bl T) hp.2
    have et : tT T n (ro (bl T) n p) = 0 := by unfold tT; rw [if_pos (by omega)]
    rw [rd_s, et, sp_end] at hres
    have k2 := t1.2.1
    exact B_X10_goods_98 ⟨fun z => absurd k2 z, fun _ => ⟨fun _ => h161 M1 f1 (Or.inr ⟨k2, cl, cap, kin, sz, size, R, hO, D1, h6, hres.symm⟩), fun z => absurd (t1.2.2.2.2.1.trans et) z⟩⟩
  | succ r ih =>
    intro p f cl cap kin sz size R M1 hp h1 h2 hcl hO f1 t1 D1 h6 hres
    obtain ⟨f, rfl⟩ : ∃ f' : Nat, f = f' + 1 := ⟨f - 1, by omega⟩
    have k2 := t1.2.1
    by_cases et : tT T n (ro (bl T) n p) = 0
    · rw [rd_s, et, sp_end] at hres
      exact B_X10_goods_98 ⟨fun z => absurd k2 z, fun _ => ⟨fun _ => h161 M1 f1 (Or.inr ⟨k2, cl, cap, kin, sz, size, R, hO, D1, h6, hres.symm⟩), fun z => absurd (t1.2.2.2.2.1.trans et) z⟩⟩
    have k5 := t1.2.2.2.2.1
    refine B_X10_goods_98 ⟨fun z => absurd k2 z, fun _ => ⟨fun z => absurd (k5.symm.trans z) et, fun _ => c_X10_clause (f1.by hB) hn hp h2 t1 hO D1 h6 et hres (fun M2 f2 hm => ?_)⟩⟩
    rcases hm with ⟨hb, h29, hX⟩ | ⟨f', s', p', q1, q2, q3, t2, O2, q4, q5, D2, q6, q7⟩
    · have ocl := hO.2.1
      exact B_X10_goods_116 ⟨by omega, fun _ => B_X10_goods_98 ⟨fun _ => h161 _ ((f1.tr f2).fl (by simp)) (Or.inl ⟨hb, hX⟩), fun z => absurd z hb⟩, fun z => absurd z hb⟩
    · obtain ⟨st, cl', cap, kin, sz, size, R⟩ := s'
      obtain rfl : cl' = cl := q5
      obtain ⟨y1, y2, y3, y4, y5, y6, y7⟩ := id t2
      obtain ⟨m1, m2, m3, m4, m5, m6⟩ := id D2
      have q4' : st = 6 ∨ (st = 5 ∧ tT T n (ro (bl T) n p') ≠ 2) := q4
      have ocl := O2.2.1
      obtain ⟨f', rfl⟩ : ∃ g : Nat, f' = g + 1 := ⟨f' - 1, by omega⟩
      rw [rd_s] at q7
      have f3 : fr3 M (mUp M2 112 29 (M2 112 29 + 1)) := (f1.tr f2).fl (by simp)
      have t3 : tkM T n (mUp M2 112 29 (M2 112 29 + 1)) p' := t2
      have D3 : mdR (mUp M2 112 29 (M2 112 29 + 1)) (0, cl' + 1, cap, kin, sz, size, R) := ⟨m1, m2, by rw [up_s, m3], m4, m5, m6⟩
      have h36 : mUp M2 112 29 (M2 112 29 + 1) 120 6 = R 6 := q6
      refine B_X10_goods_116 ⟨by omega, fun z => absurd y2 z, fun _ => ?_⟩
      revert f3 t3 D3 h36
      generalize mUp M2 112 29 (M2 112 29 + 1) = M3
      intro f3 t3 D3 h36
      obtain ⟨w1, w2, w3, w4, w5, w6, w7⟩ := id t3
      refine ⟨fun c => B_X10_goods_147 (c_X10_wants w2 (by decide) (fun _ => B_X10_goods_151 ⟨fun _ => B_X10_goods_98 ⟨fun _ => h161 _ (f3.tr fr3.fM) (Or.inl ⟨by show (1 : Int) ≠ 0; decide, ?_⟩), fun z => absurd (show (1 : Int) = 0 from z) (by decide)⟩, fun z => absurd rfl z⟩) (fun z => absurd rfl z)), fun c => B_X10_goods_147 (c_X10_wants w2 (by decide) (fun z => absurd z (by decide)) (fun _ => B_X10_goods_151 ⟨fun z => absurd z (by decide), fun _ => ?_⟩))⟩
      · rw [← q7, sp_one (by omega) (fun z => by omega) (by omega), ← w3]; rfl
      have ht : tT T n (ro (bl T) n p') = 3 := by omega
      rw [sp_semi (by omega) ht] at q7
      have gn := go_next (T := T) (n := n) (p := p') (by omega) (by omega)
      refine c_X10_go (f3.by hB) hn w1 w2 w4 (by omega) (fun M4 g4 t4 => B_X10_goods_158 ?_)
      exact ih _ f' (cl' + 1) cap kin sz size R M4 (by omega) (by omega) (by omega) (by omega) (ok_end O2) (f3.tr (fr3.go g4)) t4 (D3.go g4) (by rw [g4.1 120 (by simp) (by decide)]; exact h36) q7
end mrS
