/-! goods, the class's and the model's -/
theorem V_ok {d k : Nat} {q : mMth} {pc : Nat} {ls st : List mV} {M : mM} {Q : mRes → mM → Prop} (h : mOK M → V d k q pc ls st M Q) : V d k q pc ls st M Q := by
  intro g A p l e R s m args below meth c H locs cells slots cT sT Qf rls hC hM hl hlk hsk hr hE
  exact h hM.2.2.2.1 g A p l e R s m args below meth c H locs cells slots cT sT Qf rls hC hM hl hlk hsk hr hE
theorem ok_byte {M : mM} (h : mOK M) {i : Int} (h0 : 0 ≤ i) (h1 : i < 700) : -128 ≤ M 1 i ∧ M 1 i ≤ 127 := by
  obtain ⟨j, rfl⟩ : ∃ j : Nat, i = j := ⟨i.toNat, by omega⟩
  have e : mEl 1 j = if j < 700 then some 2 else none := rfl
  exact h 1 j 2 (e.trans (if_pos (by omega)))
theorem imgR.rf {c : Int} {K : Nat} {sz : Int → Int} {M M' : mM} {n ro kb no fo A F nn N N' : Int} (e0 : M' n = M n) (e1 : M' (n + 1) = M (n + 1)) (e3 : M' (n + 3) = M (n + 3)) (e4 : M' (n + 4) = M (n + 4)) (e5 : M' (n + 5) = M (n + 5)) (e6 : M' 113 = M 113) (e7 : M' 115 = M 115) (e8 : M' 116 = M 116) (hr : ∀ i : Nat, i < 3 → M' (n + 2) i = M' 117 (fo + i) ∧ 0 ≤ M' (n + 2) i ∧ M' (n + 2) i ≤ N') (h : imgR c K sz M n ro kb no fo A F nn N) : imgR c K sz M' n ro kb no fo A F nn N' := by
  unfold imgR stkA at *
  rw [e0, e1, e3, e4, e5, e6, e7, e8]
  exact ⟨h.1, h.2.1, h.2.2.1, h.2.2.2.1, hr⟩
theorem rowOK.cg {c : Int} {K : Nat} {sz R R' : Int → Int} (hK : K ≤ 6) (h : rowOK c K sz R) (e : ∀ i : Int, 0 ≤ i → i < 79 → R' i = R i) : rowOK c K sz R' := by
  obtain ⟨g1, g2, g3, g4, g5⟩ := h
  refine ⟨fun s hs => by rw [e s (by omega) (by omega)]; exact g1 s hs, by rw [sg_congr (fun j hj => e j (by omega) (by omega))]; exact g2, by rw [e 6 (by omega) (by omega)]; exact g3, fun b s hb hs => ?_, fun b hb => ?_⟩
  · rw [e 6 (by omega) (by omega), e _ (by omega) (by omega)]; exact g4 b s hb hs
  · rw [sg_congr (g := fun s => sz s * R (7 + 6 * b + s)) (fun j hj => by show sz j * R' (7 + 6 * b + j) = _; rw [e _ (by omega) (by omega)])]; exact g5 b hb
theorem c_X7_beginWith {d k : Nat} {M : mM} {Q : mRes → mM → Prop} (hQ : ∀ M', frN [16, 17] M M' → M' 16 2 = 0 → M' 16 3 = 0 → (∀ i : Nat, i < 14 → M' 17 i = M 7 i) → Q (.inl none) M') : V d k qX7_beginWith 0 [mR 15 7 16, mR 1 14 7, mE 0] [] M Q := by
  have loop : ∀ (r j : Nat) (M' : mM), j + r = 14 → frN [16, 17] M M' → (∀ i : Nat, i < j → M' 17 i = M 7 i) → V d k qX7_beginWith 2 [mR 15 7 16, mR 1 14 7, mI j] [] M' Q := by
    intro r
    induction r with
    | zero =>
      intro j M' hj g h
      exact B_X7_beginWith_2 (Or.inl rfl) ⟨fun _ => hQ _ ((g.up (by simp)).up (by simp)) rfl rfl (fun i hi => h i (by omega)), fun z => by omega⟩
    | succ r ih =>
      intro j M' hj g h
      refine B_X7_beginWith_2 (Or.inl rfl) ⟨fun z => by omega, fun _ => ⟨fun z => by omega, fun _ => ⟨by omega, by omega, by omega, ih (j + 1) _ (by omega) (g.up (by simp)) (fun i hi => ?_)⟩⟩⟩
      show mUp M' 17 j (M' 7 j) 17 i = M 7 i
      by_cases e : i = j
      · subst e; rw [up_s, g 7 (by simp)]
      · rw [up_fld (by omega)]; exact h i (by omega)
  exact B_X7_beginWith_0 (Or.inl rfl) (loop 14 0 M (by omega) frN.rf (fun i hi => by omega))
/-- what the class has told -/
def goX (M : mM) (cap : Int) (kin : Nat) (sz R : Int → Int) : Prop := psOK (0, 1, cap, kin, sz, 0, R) ∧ M 8 0 = cap ∧ M 8 1 = kin ∧ (∀ s : Nat, s < kin → M 9 s = sz s) ∧ (∀ i : Nat, i < kin → M 11 i = orF (M 9) kin i) ∧ stk 17 M R ∧ (M 16 2 = 0 ∧ M 16 3 = 0) ∧ M 0 1 = 0 ∧ M 0 2 = -1 ∧ M 0 3 = 0
theorem c_X9_goods {d k : Nat} {M : mM} {Q : mRes → mM → Prop} {x : Int} (h1 : 0 ≤ M 0 1 ∧ M 0 1 ≤ 700) (h18 : 0 ≤ M 18 0 ∧ M 18 0 ≤ 100000) (hk : 1 ≤ k)
    (hE : ¬ (0 ≤ x ∧ x ≤ M 0 1) → Q (.inr 2) M)
    (hF : 0 ≤ x ∧ x ≤ M 0 1 → ∀ M', frN [0, 2, 3, 4, 7, 18] M M' → (rd (M 1) x (x.toNat + 1) ps0 0).1 ≠ 0 → M' 0 1 = 0 → M' 0 2 = (rd (M 1) x (x.toNat + 1) ps0 0).2.1 → M' 0 3 = M 0 3 → M' 18 = fset (M 18) 0 (M 18 0 + 1) → Q (.inl (some (mI (rd (M 1) x (x.toNat + 1) ps0 0).1))) M')
    (hG : 0 ≤ x ∧ x ≤ M 0 1 → ∀ (M' : mM) (cap : Int) (kin : Nat) (sz R : Int → Int), frN [0, 2, 3, 4, 7, 8, 9, 10, 11, 16, 17] M M' → rd (M 1) x (x.toNat + 1) ps0 0 = (0, -1, cap, kin, sz, R) → goX M' cap kin sz R → Q (.inl (some (mI 0))) M') : V (d + 9) k qX9_goods 0 [mR 17 15 0, mI x, mE 0] [] M Q := by
  refine B_X9_goods_0 ⟨fun c => ⟨by omega, by omega, hE (by omega)⟩, fun c => ⟨fun c2 => ?_, fun c2 => ⟨by omega, by omega, hE (by omega)⟩⟩⟩
  have hx : 0 ≤ x ∧ x ≤ M 0 1 := by omega
  have hF := hF hx
  have hG := hG hx
  refine c_X6_readText (T := M 1) rfl (by omega) (fun M1 r g hr hc => ?_)
  rw [← hr] at hF hG
  have g0 : ∀ i, M1 0 i = mUp M 0 1 0 0 i := fun i => by rw [g 0 (by simp)]
  have g18 : M1 18 = M 18 := (g 18 (by simp)).trans (up_row (by decide))
  have gM : frN [0, 2, 3, 4, 7] M M1 := fun n hn => (g n (fun z => hn (by simp at z ⊢; omega))).trans (up_row (fun z => hn (by simp [z])))
  have a01 : M1 0 1 = 0 := (g0 1).trans up_s
  have a03 : M1 0 3 = M 0 3 := (g0 3).trans (up_fld (by decide))
  rcases hc with ⟨r0, r2⟩ | ⟨r0, r2, cap, kin, sz, R, rX, rO, s1, s2, s3, s4⟩
  · refine B_X9_goods_39 ⟨fun z => absurd z r0, fun _ => ⟨by rw [g18]; omega, hF _ (((gM.w (fun n hn => by simp at hn ⊢; omega)).up (by simp)).up (by simp)) r0 a01 ?_ a03 ?_⟩⟩
    · rw [← r2]; rfl
    · show mUp (mUp M1 0 2 (M1 2 2)) 18 0 (M1 18 0 + 1) 18 = _
      rw [up_fs, up_row (by decide), g18]
  rw [r0]
  refine B_X9_goods_39 ⟨fun _ => ?_, fun z => absurd rfl z⟩
  have gM2 : frN [0, 2, 3, 4, 7] M (mUp M1 0 2 (M1 2 2)) := gM.up (by simp)
  have s1' : mUp M1 0 2 (M1 2 2) 3 0 = cap := s1
  have s2' : mUp M1 0 2 (M1 2 2) 3 1 = kin := s2
  have s3' : ∀ s : Nat, s < kin → mUp M1 0 2 (M1 2 2) 4 s = sz s := s3
  have s4' : stk 7 (mUp M1 0 2 (M1 2 2)) R := s4
  have a01' : mUp M1 0 2 (M1 2 2) 0 1 = 0 := a01
  have a02' : mUp M1 0 2 (M1 2 2) 0 2 = -1 := by rw [up_s]; exact r2
  revert gM2 s1' s2' s3' s4' a01' a02'
  generalize mUp M1 0 2 (M1 2 2) = M2
  intro gM2 s1' s2' s3' s4' a01' a02'
  refine B_X2_becomeLike_0 (n0 := 8) (a1 := 3) (by decide) (by decide) (B_X9_goods_84 ?_)
  have o4 := rO.2.2.2.1
  generalize hM3 : mCp (mCp (mCp (mUp (mUp M2 8 0 (M2 3 0)) 8 1 ((mUp M2 8 0 (M2 3 0)) 3 1)) (3 + 1) 0 (8 + 1) 0 6) (3 + 2) 0 (8 + 2) 0 6) (3 + 3) 0 (8 + 3) 0 6 = M3
  have r1 : ∀ n, ¬ (8 ≤ n ∧ n ≤ 11) → M3 n = M2 n := fun n hn => by rw [← hM3, cp_row (by omega), cp_row (by omega), cp_row (by omega), up_row (by omega), up_row (by omega)]
  have b0 : M3 8 0 = cap := by rw [← hM3, cp_row (by decide), cp_row (by decide), cp_row (by decide), up_fld (by decide), up_s]; exact s1'
  have b1 : M3 8 1 = kin := by rw [← hM3, cp_row (by decide), cp_row (by decide), cp_row (by decide), up_s, up_row (by decide)]; exact s2'
  have b9 : ∀ s : Nat, s < kin → M3 9 s = sz s := fun s hs => by
    rw [← hM3, cp_row (by decide), cp_row (by decide), show (9 : Int) = 8 + 1 by decide, cp_in (by omega), up_row (by decide), up_row (by decide), ← s3' s hs]
    show M2 4 (0 + ((s : Int) - 0)) = M2 4 s
    congr 1; omega
  have gM3 : frN [0, 2, 3, 4, 7, 8, 9, 10, 11] M M3 := fun n hn => by
    simp at hn
    rw [r1 n (by omega), gM2 n (by simp; omega)]
  refine c_X2_arrange (n0 := 8) (Or.inr (Or.inl rfl)) b1 o4 (fun M4 g4 h4 => B_X9_goods_91 (c_X7_beginWith (fun M5 g5 c1 c2 c3 => B_X9_goods_105 ?_)))
  have e4 : ∀ n, n ≠ 11 → M4 n = M3 n := fun n hn => g4 n (by simp; omega)
  have e5 : ∀ n, n ≠ 16 → n ≠ 17 → M5 n = M4 n := fun n h1 h2 => g5 n (by simp; omega)
  have e7 : M4 7 = M2 7 := (e4 7 (by decide)).trans (r1 7 (by omega))
  have e9 : M5 9 = M3 9 := (e5 9 (by decide) (by decide)).trans (e4 9 (by decide))
  have e8 : M5 8 = M3 8 := (e5 8 (by decide) (by decide)).trans (e4 8 (by decide))
  have e00 : M5 0 = M2 0 := ((e5 0 (by decide) (by decide)).trans (e4 0 (by decide))).trans (r1 0 (by omega))
  refine hG _ cap kin sz R (fun n hn => ?_) rX ⟨rO, ?_, ?_, fun s hs => ?_, fun i hi => ?_, ⟨?_, ?_, fun b hb => ?_⟩, ⟨c1, c2⟩, ?_, ?_, rfl⟩
  · simp at hn
    rw [up_row (by omega), e5 n (by omega) (by omega), e4 n (by omega), gM3 n (by simp; omega)]
  · show M5 8 0 = cap
    rw [e8]; exact b0
  · show M5 8 1 = kin
    rw [e8]; exact b1
  · show M5 9 s = sz s
    rw [e9]; exact b9 s hs
  · show M5 11 i = orF (M5 9) kin i
    rw [e5 11 (by decide) (by decide), e9]; exact h4 i hi
  · show M5 17 12 = _
    rw [← s4'.1, ← e7]; exact c3 12 (by omega)
  · show M5 17 13 = _
    rw [← s4'.2.1, ← e7]; exact c3 13 (by omega)
  · show M5 17 b = _
    rw [← s4'.2.2 b hb, ← e7]; exact c3 b (by omega)
  · show M5 0 1 = 0
    rw [e00]; exact a01'
  · show M5 0 2 = -1
    rw [e00]; exact a02'
/-- what the model has told -/
def goM (M : mM) (cap : Int) (kin : Nat) (sz R : Int → Int) : Prop := M 112 6 = cap ∧ M 112 7 = kin ∧ (∀ s : Nat, s < kin → M 114 s = sz s) ∧ (∀ i : Int, 0 ≤ i → i < 79 → M 113 i = R i) ∧ (M 112 8 = 0 ∧ M 112 9 = 0 ∧ M 112 10 = 0 ∧ M 112 14 = 0) ∧ M 112 5 = 0 ∧ M 112 16 = 0 ∧ M 112 17 = -1
theorem c_X10_goods {d k : Nat} {M : mM} {Q : mRes → mM → Prop} {T : Int → Int} {x : Int} (h1 : 0 ≤ M 112 16 ∧ M 112 16 ≤ 700) (h117 : 0 ≤ M 117 0 ∧ M 117 0 ≤ 100000) (hB : 0 ≤ x ∧ x ≤ M 112 16 → byR T x M)
    (hE : ¬ (0 ≤ x ∧ x ≤ M 112 16) → Q (.inl (some (mI 0))) (mUp (mUp M 112 5 0) 112 5 1))
    (hF : 0 ≤ x ∧ x ≤ M 112 16 → ∀ M', frM [117, 119, 120] [5, 16, 17, 18, 19, 20, 21, 22, 23, 24, 27, 28, 29] M M' → (rd T x (x.toNat + 1) ps0 0).1 ≠ 0 → M' 112 5 = 0 → M' 112 16 = 0 → M' 112 17 = (rd T x (x.toNat + 1) ps0 0).2.1 → M' 117 = fset (M 117) 0 (M 117 0 + 1) → Q (.inl (some (mI (rd T x (x.toNat + 1) ps0 0).1))) M')
    (hG : 0 ≤ x ∧ x ≤ M 112 16 → ∀ (M' : mM) (cap : Int) (kin : Nat) (sz R : Int → Int), frM [113, 114, 119, 120] [5, 6, 7, 8, 9, 10, 14, 16, 17, 18, 19, 20, 21, 22, 23, 24, 27, 28, 29] M M' → rd T x (x.toNat + 1) ps0 0 = (0, -1, cap, kin, sz, R) → goM M' cap kin sz R → (∀ i : Int, 80 ≤ i → M' 113 i = M 113 i) → Q (.inl (some (mI 0))) M') : V (d + 7) k qX10_goods 0 [mR 18 58 112, mI x, mE 0] [] M Q := by
  have he : ¬ (0 ≤ x ∧ x ≤ M 112 16) → V (d + 7) k qX10_goods 22 [mR 18 58 112, mI x, mE 0] [mR 18 58 112] (mUp M 112 5 0) Q := fun z =>
    B_X10_goods_22 (B_X10_goods_23 (c_X10_fine up_s (by decide) (fun _ => B_X10_goods_27 ⟨fun y => absurd rfl y, fun _ => hE z⟩) (fun y => absurd rfl y)))
  refine B_X10_goods_0 ⟨fun c => he (by omega), fun c => ⟨fun c2 => he (by omega), fun c2 => B_X10_goods_23 (c_X10_fine up_s (by decide) (fun y => absurd y (by decide)) (fun _ => B_X10_goods_27 ⟨fun _ => ?_, fun y => absurd y (by decide)⟩))⟩⟩
  have hx : 0 ≤ x ∧ x ≤ M 112 16 := by omega
  have hF := hF hx
  have hG := hG hx
  have hB := hB hx
  generalize hX : rd T x (x.toNat + 1) ps0 0 = X at *
  generalize hM1 : mUp (mUp (mUp (mUp (mUp (mUp (mUp (mUp (mUp M 112 5 0) 112 16 0) 112 20 x) 112 18 0) 112 24 0) 112 17 (-1)) 112 27 30) 112 29 0) 112 28 0 = M1
  have g1 : frM [119, 120] [5, 16, 17, 18, 19, 20, 21, 22, 23, 24, 27, 28, 29] M M1 := by
    rw [← hM1]
    exact ((((((((frM.rf.fl (by simp)).fl (by simp)).fl (by simp)).fl (by simp)).fl (by simp)).fl (by simp)).fl (by simp)).fl (by simp)).fl (by simp)
  have v5 : M1 112 5 = 0 := by rw [← hM1]; rfl
  have v16 : M1 112 16 = 0 := by rw [← hM1]; rfl
  have v20 : M1 112 20 = x := by rw [← hM1]; rfl
  have v18 : M1 112 18 = 0 := by rw [← hM1]; rfl
  have v24 : M1 112 24 = 0 := by rw [← hM1]; rfl
  have v17 : M1 112 17 = -1 := by rw [← hM1]; rfl
  have v27 : M1 112 27 = 30 := by rw [← hM1]; rfl
  have v29 : M1 112 29 = 0 := by rw [← hM1]; rfl
  have v28 : M1 112 28 = 0 := by rw [← hM1]; rfl
  clear hM1
  have loop : ∀ (r j : Nat) (M' : mM), j + r = 80 → frM [120] [] M1 M' → (∀ i : Nat, i < j → M' 120 i = 0) → V (d + 7) k qX10_goods 75 [mR 18 58 112, mI x, mI j] [] M' Q := by
    intro r
    induction r with
    | succ r ih =>
      intro j M' hj g h
      refine B_X10_goods_75 ⟨fun z => by omega, fun _ => ⟨by omega, by omega, ih (j + 1) _ (by omega) (g.up (by simp) (by decide)) (fun i hi => ?_)⟩⟩
      by_cases e : i = j
      · subst e; rw [up_s]
      · rw [up_fld (by omega)]; exact h i (by omega)
    | zero =>
      intro j M' hj g h
      obtain rfl : j = 80 := by omega
      have w : ∀ i, M' 112 i = M1 112 i := fun i => g.2 i (by simp)
      have gM : frM [119, 120] [5, 16, 17, 18, 19, 20, 21, 22, 23, 24, 27, 28, 29] M M' := g1.tr (g.w (fun n hn => by simp at hn ⊢; omega) (fun n hn => by simp at hn))
      have hB' : byR T x M' := by unfold byR; rw [gM.1 118 (by simp) (by decide)]; exact hB
      refine B_X10_goods_75 ⟨fun _ => ?_, fun z => absurd (show (80 : Int) ≤ 80 by decide) z⟩
      refine c_X10_go (d := d + 4) hB' (by omega) ((w 20).trans v20) ((w 24).trans v24) ((w 18).trans v18) (by omega) (fun M2 g2 t2 => ?_)
      have f2 := fr3.go g2
      have hD : mdR M2 ps0 := by
        refine ⟨?_, ?_, ?_, fun s hs => by omega, fun i h1 h2 h3 => ?_, ?_⟩
        · rw [g2.2 27 (by simp), w, v27]
        · rw [g2.2 28 (by simp), w, v28]; rfl
        · rw [g2.2 29 (by simp), w, v29]
        · rw [g2.1 120 (by simp) (by decide)]
          have := h i.toNat (by omega)
          rw [show ((i.toNat : Nat) : Int) = i by omega] at this
          exact this
        · rw [g2.2 17 (by simp), w, v17]
      refine l_X10_goods98 (d := d + 1) hB' (by omega) (X := X) (fun M3 f3 hc => ?_) x.toNat 0 (x.toNat + 1) 0 30 0 _ 0 _ M2 (by omega) (by omega) (by omega) (by omega) ps0_ok f2 t2 hD (by rw [g2.1 120 (by simp) (by decide)]; exact h 6 (by omega)) hX
      have gM3 : frM [119, 120] [5, 16, 17, 18, 19, 20, 21, 22, 23, 24, 27, 28, 29] M M3 := gM.tr (f3.w (fun n hn => hn) (fun n hn => by simp at hn ⊢; omega))
      have z5 : M3 112 5 = 0 := by rw [f3.2 5 (by simp), w, v5]
      have z16 : M3 112 16 = 0 := by rw [f3.2 16 (by simp), w, v16]
      have e117 : M3 117 = M 117 := gM3.1 117 (by simp) (by decide)
      rcases hc with ⟨hb, hXb⟩ | ⟨hb, cl, cap, kin, sz, size, R, hO, hD3, h36, hXr⟩
      · refine B_X10_goods_161 ⟨fun z => absurd z hb, fun _ => ⟨by rw [e117]; omega, ?_⟩⟩
        rw [hXb] at hF
        refine hF _ ((gM3.w (fun n hn => by simp at hn ⊢; omega) (fun n hn => hn)).up (by simp) (by decide)) hb z5 z16 rfl ?_
        rw [up_fs, e117]
      · obtain ⟨m1, m2, m3, m4, m5, m6⟩ := hD3
        refine B_X10_goods_161 ⟨fun _ => ?_, fun z => absurd hb z⟩
        generalize hM4 : mUp (mUp M3 112 6 (M3 112 27)) 112 7 (M3 112 28) = M4
        have g4 : frM [113, 114, 119, 120] [5, 6, 7, 8, 9, 10, 14, 16, 17, 18, 19, 20, 21, 22, 23, 24, 27, 28, 29] M M4 := by
          rw [← hM4]
          exact ((gM3.w (fun n hn => by simp at hn ⊢; omega) (fun n hn => by simp at hn ⊢; omega)).fl (by simp)).fl (by simp)
        have y6 : M4 112 6 = cap := by rw [← hM4]; exact m1
        have y7 : M4 112 7 = kin := by rw [← hM4]; exact m2
        have y5 : M4 112 5 = 0 := by rw [← hM4]; exact z5
        have y16 : M4 112 16 = 0 := by rw [← hM4]; exact z16
        have y17 : M4 112 17 = -1 := by rw [← hM4]; exact m6
        have y119 : M4 119 = M3 119 := by rw [← hM4, up_row (by decide), up_row (by decide)]
        have y120 : M4 120 = M3 120 := by rw [← hM4, up_row (by decide), up_row (by decide)]
        have y113 : M4 113 = M 113 := by rw [← hM4, up_row (by decide), up_row (by decide)]; exact gM3.1 113 (by simp) (by decide)
        clear hM4
        have o4 := hO.2.2.2.1
        have loopB : ∀ (r j : Nat) (M' : mM), j + r = 80 → frM [113, 114] [] M4 M' → (∀ i : Nat, i < j → M' 113 i = M3 120 i) → (∀ i : Int, 80 ≤ i → M' 113 i = M 113 i) → (∀ s : Nat, s < 6 → M' 114 s = M3 119 s) → V (d + 7) k qX10_goods 227 [mR 18 58 112, mI x, mI j] [] M' Q := by
          intro r
          induction r with
          | zero =>
            intro j M' hj g h ho h114
            have w4 : ∀ i, M' 112 i = M4 112 i := fun i => g.2 i (by simp)
            have gF : frM [113, 114, 119, 120] [5, 6, 7, 8, 9, 10, 14, 16, 17, 18, 19, 20, 21, 22, 23, 24, 27, 28, 29] M M' := g4.tr (g.w (fun n hn => by simp at hn ⊢; omega) (fun n hn => by simp at hn))
            refine B_X10_goods_227 ⟨fun _ => hG _ cap kin sz R ((((gF.fl (by simp)).fl (by simp)).fl (by simp)).fl (by simp)) hXr ⟨(w4 6).trans y6, (w4 7).trans y7, fun s hs => ?_, fun i h1 h2 => ?_, ⟨rfl, rfl, rfl, rfl⟩, (w4 5).trans y5, (w4 16).trans y16, (w4 17).trans y17⟩ ho, fun z => by omega⟩
            · exact (h114 s (by omega)).trans (m4 s hs)
            · have h3 := h i.toNat (by omega)
              rw [show ((i.toNat : Nat) : Int) = i by omega] at h3
              refine Eq.trans (b := M' 113 i) rfl (h3.trans ?_)
              by_cases e : i = 6
              · rw [e]; exact h36
              · exact m5 i h1 h2 e
          | succ r ih =>
            intro j M' hj g h ho h114
            refine B_X10_goods_227 ⟨fun z => by omega, fun _ => ⟨by omega, by omega, by omega, ih (j + 1) _ (by omega) (g.up (by simp) (by decide)) (fun i hi => ?_) (fun i hi => by rw [up_fld (by omega)]; exact ho i hi) h114⟩⟩
            by_cases e : i = j
            · subst e; rw [up_s, g.1 120 (by simp) (by decide), y120]
            · rw [up_fld (by omega)]; exact h i (by omega)
        have loopA : ∀ (r j : Nat) (M' : mM), j + r = 6 → frM [113, 114] [] M4 M' → M' 113 = M4 113 → (∀ s : Nat, s < j → M' 114 s = M3 119 s) → V (d + 7) k qX10_goods 201 [mR 18 58 112, mI x, mI j] [] M' Q := by
          intro r
          induction r with
          | zero =>
            intro j M' hj g h3 h
            exact B_X10_goods_201 ⟨fun _ => loopB 80 0 M' (by omega) g (fun i hi => by omega) (fun i hi => by rw [h3, y113]) (fun s hs => h s (by omega)), fun z => by omega⟩
          | succ r ih =>
            intro j M' hj g h3 h
            refine B_X10_goods_201 ⟨fun z => by omega, fun _ => ⟨by omega, by omega, by omega, ih (j + 1) _ (by omega) (g.up (by simp) (by decide)) ((up_row (by decide)).trans h3) (fun i hi => ?_)⟩⟩
            by_cases e : i = j
            · subst e; rw [up_s, g.1 119 (by simp) (by decide), y119]
            · rw [up_fld (by omega)]; exact h i (by omega)
        exact loopA 6 0 M4 (by omega) frM.rf rfl (fun s hs => by omega)
  exact loop 80 0 M1 (by omega) frM.rf (fun i hi => by omega)
