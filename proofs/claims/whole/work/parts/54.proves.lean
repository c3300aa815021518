/-! the model's tree: proves -/
set_option maxHeartbeats 2000000 in
theorem c_X10_proves {d k : Nat} {M : mM} {Q : mRes → mM → Prop} {c : Int} {K : Nat} {sz mn od : Int → Int} (hc : M 112 33 = c) (hK : M 112 7 = K) (h122 : M 122 = sz) (h121 : M 121 = mn) (h123 : M 123 = od) (hG : GLok c K sz mn od) (hP : PkL c K sz mn od) (hm : ∀ s : Nat, s < 6 → 0 ≤ mn s ∧ mn s ≤ 24)
    (hQ : ∀ M', frM [124, 125, 126, 127, 128, 129, 130] [37, 38, 40, 44, 45, 46, 47, 48, 49] M M' → trM M' (fewT c K sz mn od) → Q (.inl (some (mI (fewT c K sz mn od).1))) M') : V (d + 5) k qX10_proves 0 [mR 18 58 112, mE 0, mE 0, mE 0] [] M Q := by
  refine B_X10_proves_0 (c_X10_packs hc hK (by rw [h122, h121, h123]; exact hP) (by omega) (fun M1 q1 q2 => B_X10_proves_6 ?_))
  rw [h122, h121, h123] at q2 ⊢
  have hok := pkA_ok hP (r := 5) K (Nat.le_refl _)
  have hsum := hP.sum (r := 5)
  have hst := st0_ok hP
  have efew : fewT c K sz mn od = meetT c K sz od 24 0 mn (fun _ => 0) (st0 (pkA c 5 sz mn od K)) := rfl
  generalize hPP : pkA c 5 sz mn od K = P at *
  have hP24 : P.2.1 ≤ 24 := by omega
  have hP1 := hok.1.1
  have hP3 := hok.1.2.2
  have g0 : frM [124, 125, 126, 129] [37, 38, 44] M (mUp M1 112 44 P.1) := (q1.w (fun n h => by simp at h ⊢; omega) (fun n h => by simp at h ⊢; omega)).fl (by simp)
  have x37 : mUp M1 112 44 P.1 112 37 = P.2.1 := by rw [up_fld (by decide)]; exact q2.2.1
  have x44 : mUp M1 112 44 P.1 112 44 = P.1 := up_s
  have x125 : ∀ t : Nat, t < P.2.1 → mUp M1 112 44 P.1 125 t = P.2.2.2.1 t ∧ mUp M1 112 44 P.1 124 t = P.2.2.2.2 t := fun t ht => by rw [up_row (by decide), up_row (by decide)]; exact q2.2.2 t ht
  generalize hM2 : mUp M1 112 44 P.1 = M2 at *
  -- the end
  have fin : ∀ (M' : mM) (u2 u3 : mV), frM [124, 125, 126, 127, 129] [37, 38, 44, 45, 46, 47, 48, 49] M M' → trM M' (st0 P) → (∀ s : Int, 0 ≤ s → s < 6 → M' 127 s = mn s) → V (d + 5) k qX10_proves 103 [mR 18 58 112, mI 6, u2, u3] [] M' Q := by
    intro M' u2 u3 f1 f2 f3
    refine B_X10_proves_103 ⟨fun _ => ?_, fun z => by omega⟩
    refine c_X10_meets (n := 23) (dep := 0) (lf := mn) (path := fun _ => 0) (st := st0 P) hP.1 (by omega) (by rw [f1.2 33 (by simp)]; exact hc) (by rw [f1.2 7 (by simp)]; exact hK) (by rw [f1.1 122 (by simp) (by decide)]; exact h122) (by rw [f1.1 123 (by simp) (by decide)]; exact h123) (fun s h1 h2 => by rw [show 6 * ((0 : Nat) : Int) + s = s by omega]; exact f3 s h1 h2) hG (fun i h1 h2 => by omega) f2 hst rfl (fun M3 e1 e2 e3 => B_X10_proves_132 ⟨fun _ => B_X10_proves_141 ⟨fun _ => ?_, fun z => by omega⟩, fun z => (z rfl).elim⟩) (fun M3 e1 e2 e3 e4 e5 e6 e7 => B_X10_proves_132 ⟨fun z => by omega, fun _ => ?_⟩)
    · rw [← efew] at e2
      rw [e2.1]
      exact hQ M3 ((f1.w (fun n h => by simp at h ⊢; omega) (fun n h => by simp at h ⊢; omega)).tr (e1.w (fun n h => by simp at h ⊢; omega) (fun n h => by simp at h ⊢; omega))) e2
    · have O1 : tOK ((st0 P).1, (st0 P).2.1 + 1, (st0 P).2.2.1, (st0 P).2.2.2.1, max (st0 P).2.2.2.2.1 ((0 : Nat) : Int), (st0 P).2.2.2.2.2.1, (st0 P).2.2.2.2.2.2) := by
        obtain ⟨y1, y2, y3, y4, y5, y6⟩ := hst
        refine ⟨⟨?_, ?_⟩, ⟨?_, ?_⟩, ⟨?_, ?_⟩, ⟨?_, ?_⟩, ⟨?_, ?_⟩, y6⟩ <;> simp only [] <;> omega
      have eT : fewT c K sz mn od = brT (fun p' st => meetT c K sz od 23 (0 + 1) (lfN od mn K p') (pthN od (fun _ => 0) K 0 p') st) (brL c K sz od mn) ((st0 P).1, (st0 P).2.1 + 1, (st0 P).2.2.1, (st0 P).2.2.2.1, max (st0 P).2.2.2.2.1 ((0 : Nat) : Int), (st0 P).2.2.2.2.2.1, (st0 P).2.2.2.2.2.2) := by
        rw [efew]
        show (if 60 ≤ (st0 P).2.1 then _ else if flF od mn K 0 = -1 then _ else if (st0 P).1 - ((0 : Nat) : Int) ≤ boundF c K sz mn then _ else _) = _
        rw [if_neg e5, if_neg e6, if_neg e7]
      have f3' : frM [124, 125, 126, 127, 128, 129, 130] [37, 38, 40, 44, 45, 46, 47, 48, 49] M M3 := (f1.w (fun n h => by simp at h ⊢; omega) (fun n h => by simp at h ⊢; omega)).tr (e1.w (fun n h => by simp at h ⊢; omega) (fun n h => by simp at h ⊢; omega))
      have frRM : ∀ {M4 : mM}, frR 0 M3 M4 → frM [124, 125, 126, 127, 128, 129, 130] [37, 38, 40, 44, 45, 46, 47, 48, 49] M M4 := fun w => f3'.tr ⟨fun n a b => w.1 n b (by simp at a; omega) (by simp at a; omega) (by simp at a; omega) (by simp at a; omega), fun i hi => w.2.1 i (by simp at hi ⊢; omega)⟩
      refine l_X10_proves hP.1 23 0 mn (fun _ => 0) (by omega) (by omega) hG hm e6 (brL c K sz od mn) _ M3 _ _ (by rw [e1.2 33 (by simp), f1.2 33 (by simp)]; exact hc) (by rw [e1.2 7 (by simp), f1.2 7 (by simp)]; exact hK) (by rw [f3'.1 122 (by simp) (by decide)]; exact h122) (by rw [f3'.1 123 (by simp) (by decide)]; exact h123) (fun s h1 h2 => by rw [show 6 * ((0 : Nat) : Int) + s = s by omega, e1.1 127 (by simp) (by decide)]; exact f3 s h1 h2) (fun i h1 h2 => by omega) e2 O1 rfl (Or.inl ⟨e3, rfl⟩) (fun M4 v2 v3 w1 w2 w3 w4 => B_X10_proves_141 ⟨fun _ => ?_, fun z => by omega⟩) (fun M4 w1 w2 w3 => ?_)
      · rw [← eT] at w2
        rw [w2.1]
        exact hQ M4 (frRM w1) w2
      · rw [← eT] at w2
        rw [w2.1]
        exact hQ M4 (frRM w1) w2
  have cpl : ∀ (rr s : Nat) (u2 u3 : mV) (M' : mM), s + rr = 6 → frM [124, 125, 126, 127, 129] [37, 38, 44, 45, 46, 47, 48, 49] M M' → trM M' (st0 P) → (∀ i : Int, 0 ≤ i → i < s → M' 127 i = mn i) → V (d + 5) k qX10_proves 103 [mR 18 58 112, mI s, u2, u3] [] M' Q := by
    intro rr
    induction rr with
    | zero =>
      intro s u2 u3 M' hs f1 f2 f3
      have e : s = 6 := by omega
      subst e
      exact fin M' u2 u3 f1 f2 f3
    | succ rr ih =>
      intro s u2 u3 M' hs f1 f2 f3
      refine B_X10_proves_103 ⟨fun z => by omega, fun _ => ⟨by omega, by omega, by omega, ih (s + 1) u2 u3 _ (by omega) (f1.up (by simp) (by decide)) (trM_cg (fun i _ _ => by rw [up_row (by decide)]) (up_row (by decide)) f2) (fun i h1 h2 => ?_)⟩⟩
      by_cases e : i = s
      · rw [e, up_s, f1.1 121 (by simp) (by decide), h121]
      · rw [up_fld e]; exact f3 i h1 (by omega)
  have cnt : ∀ (rr t : Nat) (u2 u3 : mV) (M' : mM), t + rr = P.2.1 → frN [129] M2 M' → (∀ b s : Nat, b < P.1 → s < 6 → M' 129 (6 * (b : Int) + s) = cntF P.2.2.2.1 P.2.2.2.2 b s t) → V (d + 5) k qX10_proves 37 [mR 18 58 112, mI t, u2, u3] [] M' Q := by
    intro rr
    induction rr with
    | zero =>
      intro t u2 u3 M' ht f1 f2
      have e : t = P.2.1 := by omega
      subst e
      have y37 : M' 112 37 = P.2.1 := by rw [f1 112 (by simp)]; exact x37
      have y44 : M' 112 44 = P.1 := by rw [f1 112 (by simp)]; exact x44
      have Bk := B_X10_proves_37 (d := d + 4) (k := k) (M := M') (Q := Q) (x1 := (P.2.1 : Int)) (u2 := u2) (u3 := u3)
      rw [y37] at Bk
      refine Bk ⟨fun _ => ?_, fun z => by omega⟩
      refine cpl 6 0 u2 u3 _ (by omega) ?_ ⟨?_, ?_, ?_, ?_, ?_, ?_, fun i h1 h2 => ?_⟩ (fun i h1 h2 => by omega)
      · have : frM [124, 125, 126, 127, 129] [37, 38, 44, 45, 46, 47, 48, 49] M M' := ⟨fun n a b => by rw [f1 n (by simp at a ⊢; omega)]; exact g0.1 n (by simp at a ⊢; omega) b, fun i hi => by rw [f1 112 (by simp)]; exact g0.2 i (by simp at hi ⊢; omega)⟩
        exact ((((this.fl (by simp)).fl (by simp)).fl (by simp)).fl (by simp)).fl (by simp)
      · rw [up_fld (by decide), up_fld (by decide), up_fld (by decide), up_fld (by decide), up_fld (by decide)]; exact y44
      · rw [up_fld (by decide), up_s]; rfl
      · rw [up_fld (by decide), up_fld (by decide), up_s]; rfl
      · rw [up_fld (by decide), up_fld (by decide), up_fld (by decide), up_s]; rfl
      · rw [up_fld (by decide), up_fld (by decide), up_fld (by decide), up_fld (by decide), up_s]; rfl
      · rw [up_s]; rfl
      · have h2' : i < 6 * (P.1 : Int) := h2
        rw [up_row (by decide), up_row (by decide), up_row (by decide), up_row (by decide), up_row (by decide)]
        have h3 := f2 (i / 6).toNat (i % 6).toNat (by omega) (by omega)
        have e1 : ((i / 6).toNat : Int) = i / 6 := Int.toNat_of_nonneg (by omega)
        have e2 : ((i % 6).toNat : Int) = i % 6 := Int.toNat_of_nonneg (by omega)
        rw [e1, e2] at h3
        rw [show 6 * (i / 6) + i % 6 = i by omega] at h3
        exact h3
    | succ rr ih =>
      intro t u2 u3 M' ht f1 f2
      have y37 : M' 112 37 = P.2.1 := by rw [f1 112 (by simp)]; exact x37
      have hx := x125 t (by omega)
      have hp := hP3 t (by omega)
      have y125 : M' 125 t = P.2.2.2.1 t := by rw [f1 125 (by simp)]; exact hx.1
      have y124 : M' 124 t = P.2.2.2.2 t := by rw [f1 124 (by simp)]; exact hx.2
      obtain ⟨b0, hb0⟩ : ∃ b : Nat, P.2.2.2.1 t = b := ⟨(P.2.2.2.1 t).toNat, by omega⟩
      obtain ⟨s0, hs0⟩ : ∃ s : Nat, P.2.2.2.2 t = s := ⟨(P.2.2.2.2 t).toNat, by omega⟩
      have hcb := cntF_bd (wh := P.2.2.2.1) (ts := P.2.2.2.2) (b := b0) (s := s0) t
      have y129 := f2 b0 s0 (by omega) (by omega)
      have Bk := B_X10_proves_37 (d := d + 4) (k := k) (M := M') (Q := Q) (x1 := (t : Int)) (u2 := u2) (u3 := u3)
      rw [y37, y125, y124, hb0, hs0, y129] at Bk
      refine Bk ⟨fun z => by omega, fun _ => ⟨by omega, by omega, by omega, by omega, by omega, by omega, by omega, by omega, ih (t + 1) u2 u3 _ (by omega) (f1.up (by simp)) (fun b s h1 h2 => ?_)⟩⟩
      have ec : cntF P.2.2.2.1 P.2.2.2.2 b s (t + 1) = cntF P.2.2.2.1 P.2.2.2.2 b s t + if P.2.2.2.1 t = b ∧ P.2.2.2.2 t = s then 1 else 0 := rfl
      rw [ec, hb0, hs0]
      by_cases e : b = b0 ∧ s = s0
      · rw [e.1, e.2, up_s, if_pos ⟨rfl, rfl⟩]
      · rw [up_fld (by omega), if_neg (by omega), f2 b s h1 h2]; omega
  have zro : ∀ (rr j : Nat) (u2 u3 : mV) (M' : mM), (j : Int) + rr = 6 * (P.1 : Int) → frN [129] M2 M' → (∀ i : Int, 0 ≤ i → i < j → M' 129 i = 0) → V (d + 5) k qX10_proves 11 [mR 18 58 112, mI j, u2, u3] [] M' Q := by
    intro rr
    induction rr with
    | zero =>
      intro j u2 u3 M' hj f1 f2
      have y44 : M' 112 44 = P.1 := by rw [f1 112 (by simp)]; exact x44
      have Bk := B_X10_proves_11 (d := d + 4) (k := k) (M := M') (Q := Q) (x1 := (j : Int)) (u2 := u2) (u3 := u3)
      rw [y44] at Bk
      refine Bk ⟨by omega, fun _ => cnt P.2.1 0 u2 u3 M' (by omega) f1 (fun b s h1 h2 => ?_), fun z => by omega⟩
      rw [f2 _ (by omega) (by omega)]; rfl
    | succ rr ih =>
      intro j u2 u3 M' hj f1 f2
      have y44 : M' 112 44 = P.1 := by rw [f1 112 (by simp)]; exact x44
      have Bk := B_X10_proves_11 (d := d + 4) (k := k) (M := M') (Q := Q) (x1 := (j : Int)) (u2 := u2) (u3 := u3)
      rw [y44] at Bk
      refine Bk ⟨by omega, fun z => by omega, fun _ => ⟨by omega, by omega, ih (j + 1) u2 u3 _ (by omega) (f1.up (by simp)) (fun i h1 h2 => ?_)⟩⟩
      by_cases e : i = j
      · rw [e, up_s]
      · rw [up_fld e]; exact f2 i h1 (by omega)
  exact zro (6 * P.1) 0 _ _ M2 (by omega) frN.rf (fun i h1 h2 => by omega)
