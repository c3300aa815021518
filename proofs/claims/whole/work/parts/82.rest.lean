/-! acts: rest -/
def okRest (K : Nat) (M : mM) (s m : Int) : Prop := (0 ≤ s ∧ s < K) ∧ (0 ≤ m ∧ m ≤ 12) ∧ sg (M 113) K - M 113 s + m ≤ 24
theorem rSet_ok {c : Int} {K : Nat} {sz R : Int → Int} {s : Nat} {m : Int} (h : rowOK c K sz R) (hK : K ≤ 6) (hs : s < K) (h1 : 0 ≤ m ∧ m ≤ 12) (h2 : sg R K - R s + m ≤ 24) : rowOK c K sz (fset R s m) := by
  obtain ⟨g1, g2, g3, g4, g5⟩ := h
  have n7 : ∀ b t : Nat, fset R s m (7 + 6 * (b : Int) + t) = R (7 + 6 * (b : Int) + t) := fun b t => fset_n (by omega)
  have n6 : fset R s m 6 = R 6 := fset_n (by omega)
  refine ⟨fun t ht => ?_, by rw [sg_fset, if_pos hs]; omega, by rw [n6]; exact g3, fun b t hb ht => by rw [n7, n6]; exact g4 b t hb ht, fun b hb => ?_⟩
  · by_cases e : (t : Int) = s
    · rw [e, fset_s]; exact ⟨h1.1, h1.2, fun z => by omega⟩
    · rw [fset_n e]; exact g1 t ht
  · rw [sg_congr (f := fun t => sz t * fset R s m (7 + 6 * b + t)) (g := fun t => sz t * R (7 + 6 * b + t)) (fun j _ => by show _ * fset R s m _ = _ * R _; rw [n7])]
    exact g5 b hb
theorem xa_rest {d k : Nat} {c : Int} {K : Nat} {N : Int} {M : mM} {Q : mRes → mM → Prop} {s m : Int} (hS : St c K N M) (hN : N ≤ 100000)
    (h1 : okRest K M s m → ∀ M1, XA M M1 (fset (M 113) s m) → Q (.inl (some (mI (M 113 s)))) M1) (h0 : ¬ okRest K M s m → Q (.inl (some (mI (-1)))) (rfX M)) : V (d + 60) k qX9_rest 0 [mR 17 15 0, mI s, mI m, mE 0] [] M Q := by
  have hL := hS.1
  have hK6 := hL.2.1
  have hrow := hS.row
  have hcl := hS.cl
  have no : ∀ u, ¬ okRest K M s m → V (d + 60) k qX9_rest 41 [mR 17 15 0, mI s, mI m, u] [] M Q := fun u h => B_X9_rest_41 (c_X9_refuse hS hN (B_X9_rest_45 (h0 h)))
  refine B_X9_rest_0 (c_X9_isSort hL.2.2.2.2.1 hK6 (fun a1 => B_X9_rest_5 ⟨fun z => by omega, fun _ => ⟨fun a2 => no _ (fun z => by have := z.2.1; omega), fun a2 => ⟨fun a3 => no _ (fun z => by have := z.2.1; omega), fun a3 => c_X7_restOfAll (Or.inl rfl) hrow.1.1 (fun t ht => by have := hS.mn t ht; omega) (fun r hr => B_X9_rest_25 (c_X7_restOf (Or.inl rfl) hrow.1.1 hrow.2.r7 (by omega) (fun r2 hr2 => ?_)))⟩⟩⟩) (fun a1 => B_X9_rest_5 ⟨fun _ => no _ (fun z => a1 z.1), fun z => (z rfl).elim⟩))
  rw [hS.s6] at hr
  subst hr; subst hr2
  obtain ⟨sn, rfl⟩ : ∃ n : Nat, s = n := ⟨s.toNat, by omega⟩
  have hm := hS.mn sn (by omega)
  have hs0 := sg_bd (f := M 113) (c := 12) (n := K) (fun j hj => hS.mn j (by omega))
  refine B_X9_rest_33 ⟨by omega, by omega, fun a4 => c_X7_restOf (Or.inl rfl) hrow.1.1 hrow.2.r7 (by omega) (fun r hr => ?_), fun a4 => no _ (fun z => by have := z.2.2; omega)⟩
  subst hr
  have hok : okRest K M sn m := ⟨a1, by omega, by omega⟩
  have hA := hS.A
  refine B_X9_rest_54 (c_X7_remember (by omega) (fun M1 p1 p2 p3 p4 => B_X9_rest_62 ⟨by omega, c_X7_one (by omega) (fun r hr => ?_)⟩))
  rw [show (sn : Int).toNat = sn by omega] at hr
  subst hr
  have e17 : M1 17 = M 17 := p1 17 (by decide) (by decide)
  have hp := p7_bd (s := sn) (by omega)
  have hpk := hcl.pk.2
  have hmul : -(12 * 34359738368) ≤ (m - M 113 sn) * p7 sn ∧ (m - M 113 sn) * p7 sn ≤ 12 * 34359738368 := by
    have := mulb (x := p7 sn) (y := m - M 113 sn) (a := 34359738368) (b := 12) (by omega) (by omega)
    rw [Int.mul_comm (m - M 113 sn) (p7 sn)]; omega
  rw [e17]
  refine B_X9_rest_81 ⟨by omega, by omega, by omega, h1 hok _ (XA.of p1 p2 p3 p4 (fun n a _ => up_row a) ⟨?_, ?_, fun b hb => ?_⟩)⟩
  · rw [up_s, pkL_set (by omega), hrow.1.1]
  · rw [up_fld (by decide), e17, fset_n (by omega)]; exact hrow.1.2.1
  · rw [up_fld (by omega), e17, hrow.1.2.2 b hb]
    exact pkL_congr (fun t ht => (fset_n (by omega)).symm)
theorem ma_rest {d k : Nat} {c : Int} {K : Nat} {N : Int} {M : mM} {Q : mRes → mM → Prop} {s m : Int} (hS : St c K N M) (hN : N ≤ 100000) {M1 : mM} (hX : (okRest K M s m ∧ XA M M1 (fset (M 113) s m)) ∨ (¬ okRest K M s m ∧ M1 = rfX M))
    (h1 : okRest K M s m → ∀ M2, St c K N M2 → Q (.inl (some (mI (M 113 s)))) M2) (h0 : ¬ okRest K M s m → ∀ M2, St c K (N + 1) M2 → Q (.inl (some (mI (-1)))) M2) : V (d + 60) k qX10_rest 0 [mR 18 58 112, mI s, mI m, mE 0] [] M1 Q := by
  have hL := hS.1
  have hK6 := hL.2.1
  have hA := hS.A
  have he : M1 112 = M 112 ∧ M1 113 = M 113 ∧ M1 114 = M 114 ∧ M1 117 = M 117 := by
    rcases hX with ⟨_, z⟩ | ⟨_, z⟩
    · exact z.e
    · rw [z]; exact rfX.e
  have kp0 : kpM M1 (mUp M1 112 5 0) := kpM.rf.fl (by simp)
  generalize hM0 : mUp M1 112 5 0 = M0 at *
  have f113 : M0 113 = M 113 := by rw [← hM0, up_row (by decide)]; exact he.2.1
  have f112 : ∀ i : Int, i ≠ 5 → M0 112 i = M 112 i := fun i hi => by rw [← hM0, up_fld hi, he.1]
  have no : ∀ u, ¬ okRest K M s m → V (d + 60) k qX10_rest 47 [mR 18 58 112, mI s, mI m, u] [] M0 Q := fun u hn => by
    have e1 : M1 = rfX M := by
      rcases hX with ⟨z, _⟩ | ⟨_, z⟩
      · exact (hn z).elim
      · exact z
    exact B_X10_rest_47 (m_refuse hS hN (by rw [← e1]; exact kp0) (fun M2 h => B_X10_rest_52 (h0 hn M2 h)))
  have Bk := B_X10_rest_0 (d := d + 59) (k := k) (M := M1) (Q := Q) (x1 := s) (x2 := m)
  rw [he.1, hL.2.2.2.2.2.1, hM0] at Bk
  refine Bk ⟨by omega, c_X10_within (fun x hx => ?_)⟩
  by_cases a1 : 0 ≤ s ∧ s ≤ (K : Int) - 1
  · rw [if_pos a1] at hx
    subst hx
    refine B_X10_rest_16 ⟨fun z => by omega, fun _ => c_X10_within (fun y hy => ?_)⟩
    by_cases a2 : 0 ≤ m ∧ m ≤ 12
    · rw [if_pos a2] at hy
      subst hy
      obtain ⟨sn, rfl⟩ : ∃ n : Nat, s = n := ⟨s.toNat, by omega⟩
      have hm := hS.mn sn (by omega)
      have hs0 := sg_bd (f := M 113) (c := 12) (n := K) (fun j hj => hS.mn j (by omega))
      refine B_X10_rest_26 ⟨fun z => by omega, fun _ => c_X10_restMany (by rw [f112 7 (by decide)]; exact hL.2.2.2.2.2.1) hK6 (fun t ht => by rw [f113]; have := hS.mn t ht; omega) (fun r hr => ?_)⟩
      rw [f113] at hr
      subst hr
      have Bk := B_X10_rest_33 (d := d + 59) (k := k) (M := M0) (Q := Q) (x1 := sn) (x2 := m) (u3 := mE 0) (sx0 := sg (M 113) K)
      rw [f113] at Bk
      refine Bk ⟨by omega, by omega, by omega, fun a4 => ?_, fun a4 => no _ (fun z => by have := z.2.2; omega)⟩
      have hok : okRest K M sn m := ⟨by omega, by omega, by omega⟩
      have hXA : XA M M1 (fset (M 113) sn m) := by
        rcases hX with ⟨_, z⟩ | ⟨z, _⟩
        · exact z
        · exact (z hok).elim
      refine c_X10_keeps (by rw [f112 8 (by decide)]; omega) (by rw [f112 9 (by decide)]; omega) (fun M3 p1 p2 p3 p4 => ?_)
      rw [f113] at p1
      have e1 : M3 113 sn = M 113 sn := p1.2.2.2.2.1 sn (by omega) (by omega)
      have Bk := B_X10_rest_57 (d := d + 59) (k := k) (M := M3) (Q := Q) (x1 := sn) (x2 := m) (u3 := mE 0)
      rw [e1] at Bk
      exact Bk ⟨by omega, by omega, h1 hok _ (act_St hS hXA ((p1.up (by omega)).kp kp0) (rSet_ok hS.row.2 hK6 (by omega) a2 hok.2.2))⟩
    · rw [if_neg a2] at hy
      subst hy
      exact B_X10_rest_26 ⟨fun _ => no _ (fun z => a2 z.2.1), fun z => (z rfl).elim⟩
  · rw [if_neg a1] at hx
    subst hx
    exact B_X10_rest_16 ⟨fun _ => no _ (fun z => a1 (by have := z.1; omega)), fun z => (z rfl).elim⟩
/-! notes -/
theorem note_St {c : Int} {K : Nat} {N : Int} {M M2 : mM} {nn : Int} (hS : St c K N M) (hn : ∀ n, n ≠ 16 → n ≠ 20 → n ≠ 21 → n ≠ 115 → n ≠ 116 → n ≠ 112 → ¬ scr n → M2 n = M n) (hf : ∀ j, j ≠ 10 → j ∉ ([5, 33, 37, 38, 40, 44, 45, 46, 47, 48, 49, 53, 57] : List Int) → M2 112 j = M 112 j) (h2 : M2 16 2 = M 16 2) (h3 : M2 16 3 = nn) (h10 : M2 112 10 = nn) (hnn : 0 ≤ nn ∧ nn ≤ 8) (ha : ∀ i : Nat, (i : Int) < nn → M2 20 i = M2 115 i ∧ M2 21 i = M2 116 i ∧ (0 ≤ M2 20 i ∧ M2 20 i ≤ 7) ∧ (0 ≤ M2 21 i ∧ M2 21 i ≤ 24)) (hb : ∀ i : Int, 8 ≤ i → M2 115 i = M 115 i ∧ M2 116 i = M 116 i) : St c K N M2 := by
  obtain ⟨h1, ⟨⟨i1, i2, i3, i4, i5⟩, i6, i7, i8, i9⟩, h3', h4, h5⟩ := hS
  have fA : ∀ n : Int, (n = 0 ∨ n = 1 ∨ (8 ≤ n ∧ n ≤ 11) ∨ (17 ≤ n ∧ n ≤ 19) ∨ (22 ≤ n ∧ n ≤ 27) ∨ n = 113 ∨ n = 114 ∨ n = 117 ∨ n = 118) → M2 n = M n := fun n h => hn n (by omega) (by omega) (by omega) (by omega) (by omega) (by omega) (by unfold scr; omega)
  have f9 := fA 9 (by omega)
  refine ⟨?_, ⟨⟨by rw [h2, hf 8 (by decide) (by simp)]; exact i1, by rw [h3, h10], by rw [hf 8 (by decide) (by simp)]; exact i3, by rw [hf 9 (by decide) (by simp)]; exact i4, by rw [h10]; exact hnn⟩, ?_, ?_, fun i hi => ?_, ?_⟩, ?_, ?_, ?_⟩
  · unfold lotR
    rw [fA 8 (by omega), hf 6 (by decide) (by simp), hf 7 (by decide) (by simp), f9, fA 114 (by omega), fA 11 (by omega)]; exact h1
  · unfold stkA at *; rw [f9, fA (16 + 1) (by omega), fA 113 (by omega)]; exact i6
  · unfold stkA at *; rw [f9, hf 8 (by decide) (by simp), hf 9 (by decide) (by simp), fA (16 + 3) (by omega), fA 113 (by omega)]; exact i7
  · rw [h10] at hi
    have := ha i hi
    rw [Int.zero_add]; exact this
  · rw [fA (16 + 2) (by omega), fA 117 (by omega)]; exact i9
  · rw [fA 0 (by omega), hf 14 (by decide) (by simp), f9, hf 11 (by decide) (by simp), hf 12 (by decide) (by simp), hf 13 (by decide) (by simp)]
    refine ⟨h3'.1, h3'.2.imp (fun z => z) (fun z => ⟨z.1, ?_⟩)⟩
    obtain ⟨b1, b6, b7, b8, b9⟩ := z.2
    refine ⟨by rw [fA 22 (by omega)]; exact b1, ?_, ?_, fun i hi => ?_, ?_⟩
    · unfold stkA at *; rw [fA (22 + 1) (by omega), fA 113 (by omega)]; exact b6
    · unfold stkA at *; rw [fA (22 + 3) (by omega), fA 113 (by omega)]; exact b7
    · rw [fA (22 + 4) (by omega), fA (22 + 5) (by omega), (hb (8 + i) (by omega)).1, (hb (8 + i) (by omega)).2]; exact b8 i hi
    · rw [fA (22 + 2) (by omega), fA 117 (by omega)]; exact b9
  · rw [fA 0 (by omega), hf 16 (by decide) (by simp), fA 118 (by omega), fA 1 (by omega)]; exact h4
  · rw [fA 0 (by omega), hf 17 (by decide) (by simp)]; exact h5
def okNote (M : mM) (r m : Int) : Prop := (0 ≤ r ∧ r < 8) ∧ (0 ≤ m ∧ m ≤ 24) ∧ M 112 10 < 8
def ntX (M : mM) (r m : Int) : mM := mUp (mUp (mUp M 20 (M 16 3) r) 21 (M 16 3) m) 16 3 (M 16 3 + 1)
def rfN (M : mM) : mM := mUp M 18 2 (M 18 2 + 1)
theorem xa_note {d k : Nat} {c : Int} {K : Nat} {N : Int} {M : mM} {Q : mRes → mM → Prop} {r m : Int} (hS : St c K N M) (hN : N ≤ 100000)
    (h1 : okNote M r m → Q (.inl (some (mI (M 112 10 + 1)))) (ntX M r m)) (h0 : ¬ okNote M r m → Q (.inl (some (mI (-1)))) (rfN M)) : V (d + 60) k qX9_note 0 [mR 17 15 0, mI r, mI m] [] M Q := by
  have hA := hS.A
  have hr2 : M 18 2 = M 117 2 ∧ 0 ≤ M 18 2 ∧ M 18 2 ≤ N := hS.rf (i := 2) (by omega)
  have no : ¬ okNote M r m → V (d + 60) k qX9_note 32 [mR 17 15 0, mI r, mI m] [] M Q := fun h => B_X9_note_32 ⟨by omega, h0 h⟩
  refine B_X9_note_0 ⟨fun a => no (fun z => by have := z.1; omega), fun a1 => ⟨fun a => no (fun z => by have := z.1; omega), fun a2 => ⟨fun a => no (fun z => by have := z.2.1; omega), fun a3 => ⟨fun a => no (fun z => by have := z.2.1; omega), fun a4 => ?_⟩⟩⟩⟩
  refine B_X7_addNote_0 (Or.inl rfl) ⟨fun z => by omega, fun _ => ⟨fun a5 => ⟨by omega, by omega, by omega, B_X9_note_29 ⟨fun _ => ?_, fun z => by omega⟩⟩, fun a5 => B_X9_note_29 ⟨fun z => (z rfl).elim, fun _ => no (fun z => by have := z.2.2; omega)⟩⟩⟩
  have hok : okNote M r m := ⟨by omega, by omega, by omega⟩
  have := h1 hok
  have e : (mUp (mUp (mUp M (16 + 4) (M 16 3) r) (16 + 5) (M 16 3) m) 16 3 (M 16 3 + 1)) 16 3 = M 112 10 + 1 := by rw [up_s]; omega
  rw [e]; exact this
theorem ma_note {d k : Nat} {c : Int} {K : Nat} {N : Int} {M : mM} {Q : mRes → mM → Prop} {r m : Int} (hS : St c K N M) (hN : N ≤ 100000) {M1 : mM} (hX : (okNote M r m ∧ M1 = ntX M r m) ∨ (¬ okNote M r m ∧ M1 = rfN M))
    (h1 : okNote M r m → ∀ M2, St c K N M2 → Q (.inl (some (mI (M 112 10 + 1)))) M2) (h0 : ¬ okNote M r m → ∀ M2, St c K (N + 1) M2 → Q (.inl (some (mI (-1)))) M2) : V (d + 60) k qX10_note 0 [mR 18 58 112, mI r, mI m] [] M1 Q := by
  have hA := hS.A
  have hr2 : M 18 2 = M 117 2 ∧ 0 ≤ M 18 2 ∧ M 18 2 ≤ N := hS.rf (i := 2) (by omega)
  have he : ∀ n : Int, 111 < n → M1 n = M n := by
    rcases hX with ⟨_, z⟩ | ⟨_, z⟩
    · intro n h; rw [z]; unfold ntX; rw [up_row (by omega), up_row (by omega), up_row (by omega)]
    · intro n h; rw [z]; unfold rfN; rw [up_row (by omega)]
  have kp0 : kpM M1 (mUp M1 112 5 0) := kpM.rf.fl (by simp)
  generalize hM0 : mUp M1 112 5 0 = M0 at *
  have f112 : ∀ i : Int, i ≠ 5 → M0 112 i = M 112 i := fun i hi => by rw [← hM0, up_fld hi, he 112 (by decide)]
  have no : ¬ okNote M r m → V (d + 60) k qX10_note 34 [mR 18 58 112, mI r, mI m] [] M0 Q := fun hn => by
    have e1 : M1 = rfN M := by
      rcases hX with ⟨z, _⟩ | ⟨_, z⟩
      · exact (hn z).elim
      · exact z
    have e117 : M0 117 = M 117 := by rw [kp0.1 117 (by omega) (by omega)]; exact he 117 (by decide)
    refine B_X10_note_34 (B_X10_refuses_0 ⟨by omega, by rw [e117]; omega, by omega, B_X10_note_39 (h0 hn _ ?_)⟩)
    exact ref_2 (i := 2) (by omega) hS kpX.rf ⟨M0, by rw [show mUp M 18 ((2 : Nat) : Int) (M 18 ((2 : Nat) : Int) + 1) = M1 from e1.symm]; exact kp0, rfl⟩
  have Bk := B_X10_note_0 (d := d + 59) (k := k) (M := M1) (Q := Q) (x1 := r) (x2 := m)
  rw [he 112 (by decide), hM0] at Bk
  refine Bk ⟨fun a => no (fun z => by have := z.2.2; omega), fun a0 => c_X10_within (fun x hx => ?_)⟩
  by_cases a1 : 0 ≤ r ∧ r ≤ 7
  · rw [if_pos a1] at hx
    subst hx
    refine B_X10_note_21 ⟨fun z => by omega, fun _ => c_X10_within (fun y hy => ?_)⟩
    by_cases a2 : 0 ≤ m ∧ m ≤ 24
    · rw [if_pos a2] at hy
      subst hy
      have hok : okNote M r m := ⟨by omega, by omega, by omega⟩
      have e1 : M1 = ntX M r m := by
        rcases hX with ⟨_, z⟩ | ⟨z, _⟩
        · exact z
        · exact (z hok).elim
      have Bk := B_X10_note_31 (d := d + 59) (k := k) (M := M0) (Q := Q) (x1 := r) (x2 := m) (sx0 := 1)
      rw [f112 10 (by decide)] at Bk
      refine Bk ⟨fun _ => ⟨by omega, by omega, by omega, h1 hok _ ?_⟩, fun z => by omega⟩
      have hlow : ∀ n : Int, n < 112 → M0 n = M1 n := fun n h => by rw [← hM0, up_row (by omega)]
      have n16 : M0 16 3 = M 112 10 + 1 := by rw [hlow 16 (by decide), e1]; unfold ntX; rw [up_s]; omega
      have n16' : M0 16 2 = M 16 2 := by rw [hlow 16 (by decide), e1]; unfold ntX; rw [up_fld (by decide), up_row (by decide), up_row (by decide)]
      have n20 : ∀ i : Int, M0 20 i = if i = M 112 10 then r else M 20 i := fun i => by rw [hlow 20 (by decide), e1]; unfold ntX; rw [up_row (by decide), up_row (by decide), up_if, hA.2.2.2.1]
      have n21 : ∀ i : Int, M0 21 i = if i = M 112 10 then m else M 21 i := fun i => by rw [hlow 21 (by decide), e1]; unfold ntX; rw [up_row (by decide), up_if, up_row (by decide), hA.2.2.2.1]
      have g115 : M0 115 = M 115 := by rw [kp0.1 115 (by omega) (by omega)]; exact he 115 (by decide)
      have g116 : M0 116 = M 116 := by rw [kp0.1 116 (by omega) (by omega)]; exact he 116 (by decide)
      refine note_St (nn := M 112 10 + 1) hS (fun n b1 b2 b3 b4 b5 b6 b7 => ?_) (fun j b1 b2 => ?_) ?_ ?_ up_s (by omega) (fun i hi => ?_) (fun i hi => ?_)
      · rw [up_row b6, up_row b5, up_row b4]
        unfold scr at b7
        rw [kp0.1 n b6 (by omega), e1]; unfold ntX
        rw [up_row b1, up_row b3, up_row b2]
      · rw [up_fld b1, up_row (by decide), up_row (by decide)]
        exact f112 j (by simp at b2; omega)
      · rw [up_row (by decide), up_row (by decide), up_row (by decide)]; exact n16'
      · rw [up_row (by decide), up_row (by decide), up_row (by decide)]; exact n16
      · have ho := fun (h : (i : Int) < M 112 10) => hS.2.1.2.2.2.1 i h
        have e20 : mUp (mUp (mUp M0 115 (M 112 10) r) 116 (M 112 10) m) 112 10 (M 112 10 + 1) 20 i = M0 20 i := by rw [up_row (by decide), up_row (by decide), up_row (by decide)]
        have e21 : mUp (mUp (mUp M0 115 (M 112 10) r) 116 (M 112 10) m) 112 10 (M 112 10 + 1) 21 i = M0 21 i := by rw [up_row (by decide), up_row (by decide), up_row (by decide)]
        have e115 : mUp (mUp (mUp M0 115 (M 112 10) r) 116 (M 112 10) m) 112 10 (M 112 10 + 1) 115 i = if (i : Int) = M 112 10 then r else M 115 i := by rw [up_row (by decide), up_row (by decide), up_if, g115]
        have e116 : mUp (mUp (mUp M0 115 (M 112 10) r) 116 (M 112 10) m) 112 10 (M 112 10 + 1) 116 i = if (i : Int) = M 112 10 then m else M 116 i := by rw [up_row (by decide), up_if, up_row (by decide), g116]
        rw [e20, e21, e115, e116, n20, n21]
        by_cases e : (i : Int) = M 112 10
        · rw [if_pos e, if_pos e, if_pos e, if_pos e]; omega
        · rw [if_neg e, if_neg e, if_neg e, if_neg e]
          have := ho (by omega)
          rw [Int.zero_add] at this
          exact this
      · rw [up_row (by decide), up_row (by decide), up_if, up_row (by decide), up_if, up_row (by decide), if_neg (by omega), if_neg (by omega), g115, g116]
        exact ⟨rfl, rfl⟩
    · rw [if_neg a2] at hy
      subst hy
      exact B_X10_note_31 ⟨fun z => (z rfl).elim, fun _ => no (fun z => a2 z.2.1)⟩
  · rw [if_neg a1] at hx
    subst hx
    exact B_X10_note_21 ⟨fun _ => no (fun z => a1 (by have := z.1; omega)), fun z => (z rfl).elim⟩
/-! forget, fault -/
theorem xa_forget {d k : Nat} {M : mM} {Q : mRes → mM → Prop} (hQ : Q (.inl none) (mUp M 16 3 0)) : V d k qX9_forget 0 [mR 17 15 0] [] M Q := B_X9_forget_0 hQ
theorem ma_forget {d k : Nat} {c : Int} {K : Nat} {N : Int} {M : mM} {Q : mRes → mM → Prop} (hS : St c K N M) (hQ : ∀ M2, St c K N M2 → Q (.inl none) M2) : V d k qX10_forget 0 [mR 18 58 112] [] (mUp M 16 3 0) Q := by
  refine B_X10_forget_0 (hQ _ ?_)
  refine note_St (nn := 0) hS (fun n b1 b2 b3 b4 b5 b6 b7 => by rw [up_row b6, up_row b6, up_row b1]) (fun j b1 b2 => by rw [up_fld b1, up_fld (by simp at b2; omega), up_row (by decide)]) (by rw [up_row (by decide), up_row (by decide), up_fld (by decide)]) (by rw [up_row (by decide), up_row (by decide), up_s]) up_s (by omega) (fun i hi => by omega) (fun i hi => by rw [up_row (by decide), up_row (by decide), up_row (by decide), up_row (by decide), up_row (by decide), up_row (by decide)]; exact ⟨rfl, rfl⟩)
theorem xq_fault {d k : Nat} {c : Int} {K : Nat} {N : Int} {M : mM} {Q : mRes → mM → Prop} (hS : St c K N M) (hQ : Q (.inl (some (mI (M 112 17)))) M) : V d k qX9_fault 0 [mR 17 15 0] [] M Q := B_X9_fault_0 (by rw [hS.2.2.2.2]; exact hQ)
theorem mq_fault {d k : Nat} {c : Int} {K : Nat} {N : Int} {M : mM} {Q : mRes → mM → Prop} (hS : St c K N M) (hQ : ∀ M2, St c K N M2 → Q (.inl (some (mI (M 112 17)))) M2) : V d k qX10_fault 0 [mR 18 58 112] [] M Q := B_X10_fault_0 (hQ _ hS.m0)
