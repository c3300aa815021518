/-! the class reads the text -/
def clR (M : mM) : PS → Prop
  | (st, cl, cap, kin, sz, size, R) => M 2 3 = st ∧ M 2 4 = cl ∧ M 2 5 = R 6 ∧ M 2 6 = sg R kin ∧ (st = 3 → M 2 7 = size) ∧ M 3 0 = cap ∧ M 3 1 = kin ∧ (∀ s : Nat, s < kin → M 4 s = sz s) ∧ M 7 12 = pkL R ∧ ∀ b : Nat, b < 12 → M 7 b = pkL (fun s => R (7 + 6 * b + s))
/-- what the reader writes, its place aside -/
def fr2 (M M' : mM) : Prop := frN [2, 3, 4, 7] M M' ∧ M' 2 2 = M 2 2
theorem fr2.rf {M : mM} : fr2 M M := ⟨frN.rf, rfl⟩
def tkO (q t v w : Int) (s : PS) (rl : PS → Prop) (r : Int) : Prop := (r ≠ 0 ∧ ∀ k, sp k q t v w s = bad r q) ∨ (r = 0 ∧ ∃ s' : PS, psOK s' ∧ s'.2.1 ≤ s.2.1 + 1 ∧ rl s' ∧ ∀ k, sp k q t v w s = k s')
theorem c_X2_weightOfBin3 {d k : Nat} {M : mM} {Q : mRes → mM → Prop} {x : Int} {K : Nat} {f : Int → Int} (hK : M 3 1 = K) (hK6 : K ≤ 6) (hx : x = pkL f) (hf : ∀ s : Nat, s < 6 → 0 ≤ f s ∧ f s ≤ 127) (hz : ∀ s : Nat, s < K → 0 ≤ M 4 s ∧ M 4 s ≤ 99) (hQ : ∀ r, r = sg (fun s => M 4 s * f s) K → Q (.inl (some (mI r))) M) : V (d + 1) k qX2_weightOfBin 0 [mR 11 5 3, mL x, mE 0, mE 0, mE 0] [] M Q := by
  have hb : ∀ j : Nat, j < K → 0 ≤ (fun s => M 4 s * f s) j ∧ (fun s => M 4 s * f s) j ≤ 99 * 127 := fun j hj => mulp (hz j hj) (hf j (by omega))
  have loop : ∀ r j : Nat, j + r = K → V (d + 1) k qX2_weightOfBin 5 [mR 11 5 3, mL x, mE 0, mI (sg (fun s => M 4 s * f s) j), mI j] [] M Q := by
    intro r
    induction r with
    | zero =>
      intro j hj
      refine B_X2_weightOfBin_5 (n0 := 3) (by omega) ⟨fun c1 => hQ _ (by rw [show j = K by omega]), fun c1 => by omega⟩
    | succ r ih =>
      intro j hj
      have h1 : 0 ≤ M (3 + 1) j * f j ∧ M (3 + 1) j * f j ≤ 99 * 127 := hb j (by omega)
      have h2 := sg_bd (f := fun s => M 4 s * f s) (c := 99 * 127) (n := j) (fun i hi => hb i (by omega))
      refine B_X2_weightOfBin_5 (n0 := 3) (by omega) ⟨fun c1 => by omega, fun c1 => ⟨by omega, ?_⟩⟩
      refine c_X7_part hx (bnd7_of hf) (by omega) (fun r hr => ?_)
      subst hr
      refine B_X2_weightOfBin_28 (n0 := 3) (by omega) ⟨by omega, by omega, by omega, ?_⟩
      exact ih (j + 1) (by omega)
  exact B_X2_weightOfBin_0 (n0 := 3) (by omega) (loop K 0 (by omega))
theorem c_X6_isBlank {d k : Nat} {M : mM} {Q : mRes → mM → Prop} {T : Int → Int} {i x : Int} (hx : x = T i) (hQ : ∀ r, r = (if bl T i then 1 else 0) → Q (.inl (some (mI r))) M) : V d k qX6_isBlank 0 [mI x] [] M Q := by
  refine B_X6_isBlank_0 ⟨fun c1 => hQ _ ?_, fun c1 => ⟨fun c2 => hQ _ ?_, fun c2 => hQ _ ?_⟩⟩
  · rw [bl_t.mpr (by omega)]; rfl
  · rw [bl_f.mpr (by omega)]; rfl
  · rw [bl_t.mpr (by omega)]; rfl
theorem c_X6_isLetter {d k : Nat} {M : mM} {Q : mRes → mM → Prop} {T : Int → Int} {i x : Int} (hx : x = T i) (hQ : ∀ r, r = (if ltr T i then 1 else 0) → Q (.inl (some (mI r))) M) : V d k qX6_isLetter 0 [mI x] [] M Q := by
  refine B_X6_isLetter_0 ⟨fun c1 => hQ _ ?_, fun c1 => ⟨fun c2 => hQ _ ?_, fun c2 => hQ _ ?_⟩⟩
  · rw [ltr_f.mpr (by omega)]; rfl
  · rw [ltr_f.mpr (by omega)]; rfl
  · rw [ltr_t.mpr (by omega)]; rfl
theorem c_X6_isDigit {d k : Nat} {M : mM} {Q : mRes → mM → Prop} {T : Int → Int} {i x : Int} (hx : x = T i) (hQ : ∀ r, r = (if dg T i then 1 else 0) → Q (.inl (some (mI r))) M) : V d k qX6_isDigit 0 [mI x] [] M Q := by
  refine B_X6_isDigit_0 ⟨fun c1 => hQ _ ?_, fun c1 => ⟨fun c2 => hQ _ ?_, fun c2 => hQ _ ?_⟩⟩
  · rw [dg_f.mpr (by omega)]; rfl
  · rw [dg_f.mpr (by omega)]; rfl
  · rw [dg_t.mpr (by omega)]; rfl
theorem c_X6_endOfToken {d k : Nat} {M : mM} {Q : mRes → mM → Prop} {T : Int → Int} {q n : Int} (hT : M 1 = T) (hq : 0 ≤ q ∧ q < n) (hn : n ≤ 700) (hQ : ∀ r, max (q + 1) r = eT T n q → Q (.inl (some (mI r))) M) : V (d + 1) k qX6_endOfToken 0 [mR 2 700 1, mI q, mI n, mE 0] [] M Q := by
  subst hT
  have loopL : ∀ (r : Nat) (j : Int), q ≤ j → j ≤ n → n - j ≤ r → (∀ r, r = ro (ltr (M 1)) n j → Q (.inl (some (mI r))) M) → V (d + 1) k qX6_endOfToken 11 [mR 2 700 1, mI q, mI n, mI j] [] M Q := by
    intro r
    induction r with
    | zero =>
      intro j h1 h2 h3 hQ
      refine B_X6_endOfToken_11 ⟨fun c1 => hQ _ (ro_end (by omega)).symm, fun c1 => by omega⟩
    | succ r ih =>
      intro j h1 h2 h3 hQ
      refine B_X6_endOfToken_11 ⟨fun c1 => hQ _ (ro_end (by omega)).symm, fun c1 => ⟨by omega, c_X6_isLetter (T := M 1) (i := j) rfl (fun r hr => ?_)⟩⟩
      by_cases e : ltr (M 1) j = true
      · rw [if_pos e] at hr
        exact B_X6_endOfToken_22 ⟨fun z => by omega, fun _ => ⟨by omega, ih (j + 1) (by omega) (by omega) (by omega) (fun r hr => hQ r (by rw [ro_go (by omega) e]; exact hr))⟩⟩
      · rw [if_neg e] at hr
        exact B_X6_endOfToken_22 ⟨fun _ => hQ _ (ro_no (by simpa using e)).symm, fun z => absurd hr z⟩
  have loopD : ∀ (r : Nat) (j : Int), q ≤ j → j ≤ n → n - j ≤ r → (∀ r, r = ro (dg (M 1)) n j → Q (.inl (some (mI r))) M) → V (d + 1) k qX6_endOfToken 31 [mR 2 700 1, mI q, mI n, mI j] [] M Q := by
    intro r
    induction r with
    | zero =>
      intro j h1 h2 h3 hQ
      refine B_X6_endOfToken_31 ⟨fun c1 => hQ _ (ro_end (by omega)).symm, fun c1 => by omega⟩
    | succ r ih =>
      intro j h1 h2 h3 hQ
      refine B_X6_endOfToken_31 ⟨fun c1 => hQ _ (ro_end (by omega)).symm, fun c1 => ⟨by omega, c_X6_isDigit (T := M 1) (i := j) rfl (fun r hr => ?_)⟩⟩
      by_cases e : dg (M 1) j = true
      · rw [if_pos e] at hr
        exact B_X6_endOfToken_42 ⟨fun z => by omega, fun _ => ⟨by omega, ih (j + 1) (by omega) (by omega) (by omega) (fun r hr => hQ r (by rw [ro_go (by omega) e]; exact hr))⟩⟩
      · rw [if_neg e] at hr
        exact B_X6_endOfToken_42 ⟨fun _ => hQ _ (ro_no (by simpa using e)).symm, fun z => absurd hr z⟩
  refine B_X6_endOfToken_0 ⟨by omega, c_X6_isLetter (T := M 1) (i := q) rfl (fun r hr => ?_)⟩
  by_cases e : ltr (M 1) q = true
  · rw [if_pos e] at hr
    refine B_X6_endOfToken_8 ⟨fun z => by omega, fun _ => loopL (n - q).toNat q (by omega) (by omega) (by omega) (fun r hr => hQ r ?_)⟩
    have h1 := ro_b (P := ltr (M 1)) (show q + 1 ≤ n by omega)
    unfold eT
    rw [if_neg (by omega), if_pos e]
    rw [ro_go (by omega) e] at hr ⊢
    omega
  · rw [if_neg e] at hr
    refine B_X6_endOfToken_8 ⟨fun _ => loopD (n - q).toNat q (by omega) (by omega) (by omega) (fun r hr => hQ r ?_), fun z => absurd hr z⟩
    unfold eT
    rw [if_neg (by omega), if_neg e]
    by_cases e2 : dg (M 1) q = true
    · have h1 := ro_b (P := dg (M 1)) (show q + 1 ≤ n by omega)
      rw [if_pos e2]
      rw [ro_go (by omega) e2] at hr ⊢
      omega
    · rw [if_neg e2]
      rw [ro_no (by simpa using e2)] at hr
      omega
theorem c_X6_isWord {d k : Nat} {M : mM} {Q : mRes → mM → Prop} {T : Int → Int} {w : Nat} {q e : Int} (hT : M 1 = T) (hw : w < 3) (hq : 0 ≤ q) (hqe : q ≤ e) (he : e ≤ 700) (hQ : ∀ r, r = (if isW T w q e then 1 else 0) → Q (.inl (some (mI r))) M) : V (d + 5) k qX6_isWord 0 [mR 2 700 1, mI q, mI e, mE (w + 10), mE 0] [] M Q := by
  subst hT
  have hl : 3 ≤ sLen w ∧ sLen w ≤ 8 := by
    rcases (by omega : w = 0 ∨ w = 1 ∨ w = 2) with e | e | e <;> subst e <;> decide
  have loop : ∀ r j : Nat, (j : Int) + r = sLen w → e - q = sLen w → (∀ i : Nat, i < j → M 1 (q + i) = (sByt w i).toInt) → V (d + 5) k qX6_isWord 15 [mR 2 700 1, mI q, mI e, mE (w + 10), mI j] [] M Q := by
    intro r
    induction r with
    | zero =>
      intro j hj h1 h2
      refine B_X6_isWord_15 (V_wLen hw rfl dX6_isWord_18 (Nat.le_of_ble_eq_true rfl) (B_X6_isWord_21 ⟨fun _ => hQ _ ?_, fun c1 => by omega⟩))
      rw [isW_t.mpr ⟨h1, fun i hi => h2 i (by omega)⟩]; rfl
    | succ r ih =>
      intro j hj h1 h2
      refine B_X6_isWord_15 (V_wLen hw rfl dX6_isWord_18 (Nat.le_of_ble_eq_true rfl) (B_X6_isWord_21 ⟨fun c1 => by omega, fun _ => ⟨by omega, by omega, V_wChar hw (by omega) rfl dX6_isWord_33 (Nat.le_of_ble_eq_true rfl) (B_X6_isWord_36 ⟨fun c1 => ⟨by omega, ?_⟩, fun c1 => hQ _ ?_⟩)⟩⟩))
      · refine ih (j + 1) (by omega) h1 (fun i hi => ?_)
        by_cases e2 : i = j
        · subst e2; rw [c1, show ((i : Int)).toNat = i by omega]
        · exact h2 i (by omega)
      · have : isW (M 1) w q e = false := by
          rw [Bool.eq_false_iff]
          intro z
          have := (isW_t.mp z).2 j (by omega)
          exact c1 (by rw [this, show ((j : Int)).toNat = j by omega])
        rw [this]; rfl
  refine B_X6_isWord_0 ⟨by omega, V_wLen hw rfl dX6_isWord_4 (Nat.le_of_ble_eq_true rfl) (B_X6_isWord_7 ⟨fun c1 => loop (sLen w).toNat 0 (by omega) c1 (fun i hi => by omega), fun c1 => hQ _ ?_⟩)⟩
  have : isW (M 1) w q e = false := by
    rw [Bool.eq_false_iff]
    intro z
    exact c1 (isW_t.mp z).1
  rw [this]; rfl
section rdR
variable {d k : Nat} {M : mM} {Q : mRes → mM → Prop} {T : Int → Int} {st cl cap size q e t v : Int} {kin : Nat} {sz R : Int → Int}
theorem c_X6_takeWord (hO : psOK (0, cl, cap, kin, sz, size, R)) (hC : clR M (0, cl, cap, kin, sz, size, R)) (hT : M 1 = T) (hq : 0 ≤ q) (hqe : q ≤ e) (he : e ≤ 700) (ht : t ≠ 0)
    (hQ : ∀ M' r, fr2 M M' → tkO q t v (wT T q e) (0, cl, cap, kin, sz, size, R) (clR M') r → Q (.inl (some (mI r))) M') : V (d + 6) k qX6_takeWord 0 [mR 14 8 2, mR 2 700 1, mI q, mI e] [] M Q := by
  obtain ⟨r1, r2, r3, r4, r5, r6, r7, r8, r9, r10⟩ := hC
  have g3 := hO.2.2.2.2.2.2.2.2.2.2.2.2.1
  have f1 : ∀ x, frN [2, 3, 4, 7] M (mUp M 2 3 x) := fun x => frN.rf.up (by simp)
  refine B_X6_takeWord_0 (c_X6_isWord (w := 0) hT (by decide) hq hqe he (fun r hr => ?_))
  by_cases e0 : isW T 0 q e = true
  · have hw : wT T q e = 0 := by unfold wT; rw [if_pos e0]
    rw [hw] at hQ
    rw [if_pos e0] at hr
    subst hr
    refine B_X6_takeWord_8 ⟨fun h => absurd h (by decide), fun _ => ⟨fun h => hQ _ 0 ⟨f1 _, rfl⟩ (Or.inr ⟨rfl, _, ok_w0 hO (by omega), by show cl ≤ cl + 1; omega, ?_, fun k => sp_w0 ht rfl (by omega)⟩), fun h => hQ _ 4 ⟨f1 _, rfl⟩ (Or.inl ⟨by decide, fun k => sp_w0b ht rfl (by omega)⟩)⟩⟩
    exact ⟨rfl, r2, r3, r4, fun h => absurd h (by decide), r6, r7, r8, r9, r10⟩
  rw [if_neg e0] at hr
  subst hr
  refine B_X6_takeWord_8 ⟨fun _ => c_X6_isWord (w := 1) hT (by decide) hq hqe he (fun r hr => ?_), fun h => absurd rfl h⟩
  by_cases e1 : isW T 1 q e = true
  · have hw : wT T q e = 1 := by unfold wT; rw [if_neg e0, if_pos e1]
    rw [hw] at hQ
    rw [if_pos e1] at hr
    subst hr
    refine B_X6_takeWord_37 ⟨fun h => absurd h (by decide), fun _ => ⟨fun h => hQ _ 0 ⟨f1 _, rfl⟩ (Or.inr ⟨rfl, _, ok_w1 hO (by omega), by show cl ≤ cl + 1; omega, ?_, fun k => sp_w1 ht rfl (by omega)⟩), fun h => hQ _ 2 ⟨f1 _, rfl⟩ (Or.inl ⟨by decide, fun k => sp_w1b ht rfl (by omega)⟩)⟩⟩
    exact ⟨rfl, r2, r3, r4, fun h => absurd h (by decide), r6, r7, r8, r9, r10⟩
  rw [if_neg e1] at hr
  subst hr
  refine B_X6_takeWord_37 ⟨fun _ => c_X6_isWord (w := 2) hT (by decide) hq hqe he (fun r hr => ?_), fun h => absurd rfl h⟩
  by_cases e2 : isW T 2 q e = true
  · have hw : wT T q e = 2 := by unfold wT; rw [if_neg e0, if_neg e1, if_pos e2]
    rw [hw] at hQ
    rw [if_pos e2] at hr
    subst hr
    refine B_X6_takeWord_71 ⟨fun h => absurd h (by decide), fun _ => ⟨by omega, fun h => hQ _ 0 ⟨(f1 _).up (by simp), rfl⟩ (Or.inr ⟨rfl, _, ok_w2 hO (by omega), by show cl ≤ cl + 1; omega, ?_, fun k => sp_w2 ht rfl (by omega)⟩), fun h => hQ _ 2 ⟨(f1 _).up (by simp), rfl⟩ (Or.inl ⟨by decide, fun k => sp_w2b ht rfl (by omega)⟩)⟩⟩
    refine ⟨rfl, r2, ?_, ?_, fun h => absurd h (by decide), r6, r7, r8, ?_, fun b hb => ?_⟩
    · rw [fset_s, ← r3]; rfl
    · rw [sg_congr (g := R) (fun j hj => fset_n (by have := hO.2.2.2.1; omega))]; exact r4
    · rw [pkL_congr (g := R) (fun s hs => fset_n (by omega))]; exact r9
    · rw [pkL_congr (g := fun s => R (7 + 6 * b + s)) (fun s hs => fset_n (by omega))]; exact r10 b hb
  rw [if_neg e2] at hr
  subst hr
  have hw : wT T q e = -1 := by unfold wT; rw [if_neg e0, if_neg e1, if_neg e2]
  rw [hw] at hQ
  exact B_X6_takeWord_71 ⟨fun _ => hQ _ 1 fr2.rf (Or.inl ⟨by decide, fun k => sp_wn ht (by decide) (by decide) (by decide)⟩), fun h => absurd rfl h⟩
theorem c_X6_takeRest (hO : psOK (3, cl, cap, kin, sz, size, R)) (hC : clR M (3, cl, cap, kin, sz, size, R)) {w : Int} (hv : 0 ≤ v ∧ v ≤ 9999)
    (hQ : ∀ M' r, fr2 M M' → tkO q 2 v w (3, cl, cap, kin, sz, size, R) (clR M') r → Q (.inl (some (mI r))) M') : V (d + 1) k qX6_takeRest 0 [mR 14 8 2, mI v] [] M Q := by
  obtain ⟨r1, r2, r3, r4, r5, r6, r7, r8, r9, r10⟩ := hC
  have hrow := hO.2.2.2.2.2.2.2.2.2.2
  have hk := hO.2.2.2.2.2.2.2.2.2.1 (Or.inr rfl)
  have h0 := sg_bd (f := R) (c := 12) (n := kin) (fun j hj => by have := hrow.1 j (by omega); omega)
  refine B_X6_takeRest_0 ⟨fun c1 => hQ _ 2 fr2.rf (Or.inl ⟨by decide, fun k => sp_3b (Or.inl c1)⟩), fun c1 => ⟨by omega, fun c2 => hQ _ 2 fr2.rf (Or.inl ⟨by decide, fun k => sp_3b (Or.inr (by omega))⟩), fun c2 => ⟨fun c3 => ⟨by omega, by omega, ?_⟩, fun c3 => by omega⟩⟩⟩
  have hok := ok_rest hO (v := v) hv.1 (by omega)
  refine c_X7_one (by omega) (fun r hr => ?_)
  rw [show (M 3 1).toNat = kin by omega] at hr
  have e12 : pkL (fset R kin v) = M 7 12 + v * r := by
    rw [pkL_set hk, (hrow.1 kin hk).2.2 (Nat.le_refl _), r9, hr, Int.sub_zero]
  have b12 := pkL_bd hok.1.2.2.2.2.2.2.2.2.2.2.r7
  have br : 0 ≤ v * r ∧ v * r ≤ 12 * 34359738368 := by
    rw [hr]
    have hv12 : 0 ≤ v ∧ v ≤ 12 := by omega
    rcases lt6 hk with e | e | e | e | e | e <;> subst e <;> simp only [p7, reduceIte, Nat.reduceEqDiff] <;> omega
  have B := B_X6_takeRest_80 (d := d) (k := k) (Q := Q) (x1 := v) (sx0 := r) (sx1 := v) (sx2 := M 7 12) (sx3 := 12) (M := mUp (mUp M 2 6 (M 2 6 + v)) 4 (M 3 1) (M 2 7))
  refine B ⟨by omega, by omega, by omega, by show r32 (M 3 1 + 1); omega, hQ _ 0 ⟨((((frN.rf.up (by simp)).up (by simp)).up (by simp)).up (by simp)).up (by simp), rfl⟩ (Or.inr ⟨rfl, _, hok.1, by show cl ≤ cl + 1; omega, ?_, fun k => sp_3 (by omega)⟩)⟩
  refine ⟨rfl, r2, ?_, ?_, fun h => absurd h (by decide), r6, ?_, fun s hs => ?_, e12.symm, fun b hb => ?_⟩
  · rw [fset_n (by omega)]; exact r3
  · rw [hok.2, ← r4]; rfl
  · show M 3 1 + 1 = _
    rw [r7]; rfl
  · show mUp (mUp M 2 6 (M 2 6 + v)) 4 (M 3 1) (M 2 7) 4 s = _
    by_cases e : s = kin
    · subst e; rw [r7, up_s, fset_s]; exact r5 rfl
    · rw [up_fld (by omega), fset_n (by omega)]; exact r8 s (by omega)
  · show mUp (mUp (mUp M 2 6 (M 2 6 + v)) 4 (M 3 1) (M 2 7)) 7 12 (M 7 12 + v * r) 7 b = _
    rw [up_fld (by omega), pkL_congr (g := fun s => R (7 + 6 * b + s)) (fun s hs => fset_n (by omega))]
    exact r10 b hb
theorem c_X6_takeSort (hO : psOK (st, cl, cap, kin, sz, size, R)) (hC : clR M (st, cl, cap, kin, sz, size, R)) (hst : st = 4 ∨ st = 5) {w : Int} (hv : 0 ≤ v ∧ v ≤ 9999)
    (hQ : ∀ M' r, fr2 M M' → tkO q 2 v w (st, cl, cap, kin, sz, size, R) (clR M') r → Q (.inl (some (mI r))) M') : V (d + 2) k qX6_takeSort 0 [mR 14 8 2, mI v, mE 0] [] M Q := by
  obtain ⟨r1, r2, r3, r4, r5, r6, r7, r8, r9, r10⟩ := hC
  have hrow := hO.2.2.2.2.2.2.2.2.2.2
  have h7 := hO.2.2.2.2.2.2.1 hst
  have h5 := hO.2.2.2.2.1
  have h3 := hO.2.2.1
  have h4 := hO.2.2.2.1
  have h12 := hrow.2.2.1
  obtain ⟨b0, hb0⟩ : ∃ b : Nat, R 6 - 1 = b := ⟨(R 6 - 1).toNat, by omega⟩
  have eb : ∀ x, bnI R x = 7 + 6 * (b0 : Int) + x := fun x => by unfold bnI; rw [hb0]
  refine B_X6_takeSort_0 ⟨fun c1 => ⟨fun c2 => ⟨by omega, fun c3 => by omega, fun c3 => ⟨fun c4 => by omega, fun c4 => ⟨by omega, ?_⟩⟩⟩, fun c2 => hQ _ 3 fr2.rf (Or.inl ⟨by decide, fun k => sp_4b3 hst (by omega) (by omega)⟩)⟩, fun c1 => hQ _ 2 fr2.rf (Or.inl ⟨by decide, fun k => sp_4b2 hst (by omega)⟩)⟩
  have ei : M 2 5 - 1 = b0 := by omega
  rw [ei]
  refine c_X2_weightOfBin3 r7 h4 (r10 b0 (by omega)) (fun s hs => by have := hrow.2.2.2.1 b0 s (by omega) hs; omega) (fun s hs => by rw [r8 s hs]; have := h5 s hs; omega) (fun r hr => ?_)
  have hr2 : r = sg (fun s => sz s * R (bnI R s)) kin := by
    rw [hr]
    refine sg_congr (fun j hj => ?_)
    show M 4 j * R (7 + 6 * b0 + j) = _
    rw [r8 j hj, ← eb]
  have hwt := hrow.2.2.2.2 b0 (by omega)
  have hw0 : 0 ≤ r ∧ r ≤ 99 := by
    have e : r = sg (fun s => sz s * R (7 + 6 * b0 + s)) kin := by
      rw [hr2]; exact sg_congr (fun j hj => by show sz j * R (bnI R j) = _; rw [eb])
    have := sg_le (f := fun s => sz s * R (7 + 6 * b0 + s)) (n := 0) (m := kin) (by omega) (fun j hj => Int.mul_nonneg (by have := h5 j hj; omega) (by have := hrow.2.2.2.1 b0 j (by omega) (by omega); omega))
    have e0 : sg (fun s => sz s * R (7 + 6 * b0 + s)) 0 = 0 := rfl
    omega
  obtain ⟨s, rfl⟩ : ∃ s : Nat, v = s := ⟨v.toNat, by omega⟩
  have hsz := h5 s (by omega)
  have e4 := r8 s (by omega)
  refine B_X6_takeSort_51 ⟨by omega, by omega, fun c3 => ⟨by omega, ?_⟩, fun c3 => hQ _ 5 fr2.rf (Or.inl ⟨by decide, fun k => sp_4b5 hst (by omega) (by omega) (by omega)⟩)⟩
  have hok := ok_pc hO hst (v := s) (by omega) (by omega) (by omega)
  refine c_X7_one (by omega) (fun r' hr' => ?_)
  rw [show ((s : Int)).toNat = s by omega] at hr'
  have ep : pkL (fun j => fset R (bnI R s) (R (bnI R s) + 1) (7 + 6 * b0 + j)) = M 7 b0 + r' := by
    have e : pkL (fset (fun j => R (7 + 6 * b0 + j)) s (R (7 + 6 * b0 + s) + 1)) = _ := pkL_set (by omega)
    rw [r10 b0 (by omega), hr', show pkL (fun j => R (7 + 6 * b0 + j)) + p7 s = pkL (fun j => R (7 + 6 * b0 + j)) + (R (7 + 6 * b0 + s) + 1 - (fun j => R (7 + 6 * b0 + j)) s) * p7 s by
      show _ = _ + (R (7 + 6 * b0 + s) + 1 - R (7 + 6 * b0 + s)) * p7 s
      rw [show R (7 + 6 * b0 + s) + 1 - R (7 + 6 * b0 + s) = 1 by omega]; omega, ← e]
    refine pkL_congr (fun j hj => ?_)
    show fset R (bnI R s) (R (bnI R s) + 1) (7 + 6 * b0 + j) = _
    by_cases e : j = s
    · subst e; rw [eb, fset_s, fset_s]
    · rw [eb, fset_n (by omega), fset_n (by omega)]
  have bp := pkL_bd (rowOK.b7 hok.1.2.2.2.2.2.2.2.2.2.2 (b := b0) (by omega))
  refine B_X6_takeSort_84 ⟨by rw [← ep]; omega, by omega, hQ _ 0 ⟨(frN.rf.up (by simp)).up (by simp), rfl⟩ (Or.inr ⟨rfl, _, hok.1, by show cl ≤ cl + 1; omega, ?_, fun k => sp_4 hst (by omega) (by omega) (by omega)⟩)⟩
  refine ⟨rfl, r2, ?_, ?_, fun h => absurd h (by decide), r6, r7, r8, ?_, fun b hb => ?_⟩
  · rw [fset_n (by rw [eb]; omega)]; exact r3
  · rw [sg_congr (g := R) (fun j hj => fset_n (by rw [eb]; omega))]; exact r4
  · show mUp M 7 b0 (M 7 b0 + r') 7 12 = _
    rw [up_fld (by omega), pkL_congr (g := R) (fun j hj => fset_n (by rw [eb]; omega))]; exact r9
  · show mUp M 7 b0 (M 7 b0 + r') 7 b = _
    by_cases e : b = b0
    · subst e; rw [up_s]; exact ep.symm
    · rw [up_fld (by omega), pkL_congr (g := fun s => R (7 + 6 * b + s)) (fun j hj => fset_n (by rw [eb]; omega))]; exact r10 b hb
theorem c_X6_takeNumber (hO : psOK (st, cl, cap, kin, sz, size, R)) (hC : clR M (st, cl, cap, kin, sz, size, R)) (hst : 1 ≤ st ∧ st ≤ 5) {w : Int} (hv : 0 ≤ v ∧ v ≤ 9999)
    (hQ : ∀ M' r, fr2 M M' → tkO q 2 v w (st, cl, cap, kin, sz, size, R) (clR M') r → Q (.inl (some (mI r))) M') : V (d + 3) k qX6_takeNumber 0 [mR 14 8 2, mI v] [] M Q := by
  have r1 := hC.1
  refine B_X6_takeNumber_0 ⟨fun c1 => ?_, fun c1 => ?_, fun c1 => ?_, fun c1 => c_X6_takeSort hO hC (by omega) hv (fun M' r a b => B_X6_takeNumber_55 (hQ M' r a b))⟩
  · obtain rfl : st = 1 := by omega
    obtain ⟨r1, r2, r3, r4, r5, r6, r7, r8, r9, r10⟩ := hC
    refine B_X6_takeCapacity_0 ⟨fun c2 => B_X6_takeNumber_37 (hQ _ 2 fr2.rf (Or.inl ⟨by decide, fun k => sp_1b (by omega)⟩)), fun c2 => ⟨fun c3 => B_X6_takeNumber_37 (hQ _ 0 ⟨(frN.rf.up (by simp)).up (by simp), rfl⟩ (Or.inr ⟨rfl, _, ok_cap hO (v := v) (by omega), by show cl ≤ cl + 1; omega, ?_, fun k => sp_1 (by omega)⟩)), fun c3 => B_X6_takeNumber_37 (hQ _ 2 fr2.rf (Or.inl ⟨by decide, fun k => sp_1b (by omega)⟩))⟩⟩
    exact ⟨rfl, r2, r3, r4, fun h => absurd h (by decide), rfl, r7, r8, r9, r10⟩
  · obtain rfl : st = 2 := by omega
    obtain ⟨r1, r2, r3, r4, r5, r6, r7, r8, r9, r10⟩ := hC
    refine B_X6_takeSize_0 ⟨fun c2 => B_X6_takeNumber_43 (hQ _ 2 fr2.rf (Or.inl ⟨by decide, fun k => sp_2b (by omega)⟩)), fun c2 => ⟨fun c3 => B_X6_takeNumber_43 (hQ _ 0 ⟨(frN.rf.up (by simp)).up (by simp), rfl⟩ (Or.inr ⟨rfl, _, ok_size hO (v := v) (by omega), by show cl ≤ cl + 1; omega, ?_, fun k => sp_2 (by omega)⟩)), fun c3 => B_X6_takeNumber_43 (hQ _ 2 fr2.rf (Or.inl ⟨by decide, fun k => sp_2b (by omega)⟩))⟩⟩
    exact ⟨rfl, r2, r3, r4, fun _ => rfl, r6, r7, r8, r9, r10⟩
  · obtain rfl : st = 3 := by omega
    exact c_X6_takeRest hO hC hv (fun M' r a b => B_X6_takeNumber_49 (hQ M' r a b))
theorem c_X6_numberOf (hT : M 1 = T) (hq : 0 ≤ q) (he : q ≤ e ∧ e ≤ 700) (h3 : e - q ≤ 3) (hd : ∀ i : Int, q ≤ i → i < e → 48 ≤ T i ∧ T i ≤ 57) (hQ : Q (.inl (some (mI (nmF T q (e - q).toNat)))) M) : V d k qX6_numberOf 0 [mR 2 700 1, mI q, mI e, mE 0, mE 0] [] M Q := by
  subst hT
  have loop : ∀ r j : Nat, q + j + r = e → V d k qX6_numberOf 5 [mR 2 700 1, mI q, mI e, mI (nmF (M 1) q j), mI (q + j)] [] M Q := by
    intro r
    induction r with
    | zero =>
      intro j hj
      refine B_X6_numberOf_5 ⟨fun _ => ?_, fun c1 => by omega⟩
      rw [show (e - q).toNat = j by omega] at hQ; exact hQ
    | succ r ih =>
      intro j hj
      have h1 := nmF_b (T := M 1) (q := q) j (by omega) (fun i hi => hd _ (by omega) (by omega))
      have h2 := hd (q + j) (by omega) (by omega)
      refine B_X6_numberOf_5 ⟨fun c1 => by omega, fun _ => ⟨by omega, by omega, by omega, by omega, by omega, ?_⟩⟩
      have := ih (j + 1) (by omega)
      rw [show q + ((j + 1 : Nat) : Int) = q + j + 1 by omega] at this
      exact this
  have := loop (e - q).toNat 0 (by omega)
  rw [show q + ((0 : Nat) : Int) = q by omega] at this
  exact B_X6_numberOf_0 this
theorem c_X6_takeToken {n : Int} (hO : psOK (st, cl, cap, kin, sz, size, R)) (hC : clR M (st, cl, cap, kin, sz, size, R)) (hT : M 1 = T) (hq : 0 ≤ q ∧ q < n) (hn : n ≤ 700) (hcl : cl ≤ 700) (he : e = eT T n q)
    (hQ : ∀ M' r, fr2 M M' → tkO q (tT T n q) (vT T q e) (wT T q e) (st, cl, cap, kin, sz, size, R) (clR M') r → Q (.inl (some (mI r))) M') : V (d + 7) k qX6_takeToken 0 [mR 14 8 2, mR 2 700 1, mI q, mI e] [] M Q := by
  have heb := eT_b (T := T) hq.2
  rw [← he] at heb
  have ht0 : tT T n q ≠ 0 := by
    unfold tT; rw [if_neg (by omega)]; split <;> (try split) <;> (try split) <;> decide
  obtain ⟨r1, r2, r3, r4, r5, r6, r7, r8, r9, r10⟩ := id hC
  have o1 := hO.1
  have o2 := hO.2.1
  have t59 : T q = 59 ↔ tT T n q = 3 := by
    unfold tT
    rw [if_neg (by omega)]
    have a := @ltr_t T q
    have b := @dg_t T q
    split
    · rename_i z; have := a.mp z; omega
    · split
      · rename_i z; have := b.mp z; omega
      · split <;> omega
  have t48 : dg T q = true ↔ tT T n q = 2 := by
    unfold tT
    rw [if_neg (by omega)]
    have a := @ltr_t T q
    have b := @dg_t T q
    split
    · rename_i z; have := a.mp z; constructor
      · intro y; have := b.mp y; omega
      · intro y; omega
    · split
      · rename_i z; simp [z]
      · rename_i z; split <;> simp [z]
  have h57 : st ≠ 0 → ¬ ((st = 5 ∨ st = 6) ∧ tT T n q = 3) → V (d + 7) k qX6_takeToken 57 [mR 14 8 2, mR 2 700 1, mI q, mI e] [] M Q := by
    intro s0 s1
    refine B_X6_takeToken_57 ⟨fun c1 => hQ _ 1 fr2.rf (Or.inl ⟨by decide, fun k => sp_one s0 s1 (Or.inl (by omega))⟩), fun c1 => ⟨by omega, c_X6_isDigit (T := T) (i := q) (by rw [hT]) (fun r hr => ?_)⟩⟩
    by_cases ed : dg T q = true
    · rw [if_pos ed] at hr
      subst hr
      have hvb := vT_b hq.2 ed
      rw [← he] at hvb
      have t2 := t48.mp ed
      rw [t2] at hQ
      refine B_X6_takeToken_72 ⟨fun _ => ⟨by omega, fun c2 => ?_, fun c2 => ?_⟩, fun h => absurd h (by decide)⟩
      · have hd := eT_d hq.2 ed
        have ev : vT T q e = nmF T q (e - q).toNat := by unfold vT; rw [if_pos c2]
        refine c_X6_numberOf hT hq.1 (by omega) c2 (fun i h1 h2 => dg_t.mp (ro_in (n := n) h1 (by rw [← hd, ← he]; exact h2))) ?_
        rw [← ev]
        exact B_X6_takeToken_93 (c_X6_takeNumber hO hC (by omega) hvb (fun M' r a b => B_X6_takeToken_96 (hQ M' r a b)))
      · have ev : vT T q e = 9999 := by unfold vT; rw [if_neg c2]
        rw [ev] at hQ
        refine hQ _ 2 fr2.rf (Or.inl ⟨by decide, fun k => ?_⟩)
        rcases (by omega : st = 1 ∨ st = 2 ∨ st = 3 ∨ (st = 4 ∨ st = 5)) with z | z | z | z
        · subst z; exact sp_1b (by omega)
        · subst z; exact sp_2b (by have := hO.2.2.1; omega)
        · subst z; exact sp_3b (by omega)
        · exact sp_4b2 z (by omega)
    · rw [if_neg ed] at hr
      subst hr
      exact B_X6_takeToken_72 ⟨fun h => absurd rfl h, fun _ => hQ _ 1 fr2.rf (Or.inl ⟨by decide, fun k => sp_one s0 s1 (Or.inr (fun z => ed (t48.mpr z)))⟩)⟩
  have h40 : (st = 5 ∨ st = 6) → tT T n q = 3 → V (d + 7) k qX6_takeToken 40 [mR 14 8 2, mR 2 700 1, mI q, mI e] [] M Q := by
    intro s0 s1
    refine B_X6_takeToken_40 ⟨by omega, hQ _ 0 ⟨(frN.rf.up (by simp)).up (by simp), rfl⟩ (Or.inr ⟨rfl, _, ok_end hO, Int.le_refl _, ?_, fun k => sp_semi s0 s1⟩)⟩
    refine ⟨rfl, ?_, r3, r4, fun h => absurd h (by decide), r6, r7, r8, r9, r10⟩
    rw [← r2]; rfl
  have e1 : M 1 q = T q := by rw [hT]
  refine B_X6_takeToken_0 ⟨fun c1 => ⟨by omega, fun c2 => h57 (by omega) (fun z => c2 (by rw [e1]; exact t59.mpr z.2)), fun c2 => ⟨fun c3 => h40 (by omega) (t59.mp (by omega)), fun c3 => ⟨fun c4 => h57 (by omega) (by omega), fun c4 => h40 (by omega) (t59.mp (by omega))⟩⟩⟩, fun c1 => ?_⟩
  obtain rfl : st = 0 := by omega
  exact c_X6_takeWord hO hC hT hq.1 (by omega) (by omega) ht0 (fun M' r a b => B_X6_takeToken_14 (hQ M' r a b))
end rdR
theorem rd_s {T : Int → Int} {n p : Int} {f : Nat} {s : PS} : rd T n (f + 1) s p = sp (fun s' => rd T n f s' (eT T n (ro (bl T) n p))) (ro (bl T) n p) (tT T n (ro (bl T) n p)) (vT T (ro (bl T) n p) (eT T n (ro (bl T) n p))) (wT T (ro (bl T) n p) (eT T n (ro (bl T) n p))) s := rfl
theorem rd_bl {T : Int → Int} {n p : Int} {s : PS} (h : p < n) (hb : bl T p = true) : ∀ f : Nat, rd T n f s p = rd T n f s (p + 1)
  | 0 => rfl
  | f + 1 => by rw [rd_s, rd_s, ro_go h hb]
def ps0 : PS := (0, 0, 30, 0, fun _ => 0, 0, fun _ => 0)
theorem ps0_ok : psOK ps0 := by
  have z (x : Int) (hx : 0 ≤ x) : (fun _ : Int => (0 : Int)) x ≤ x := hx
  refine ⟨by omega, by omega, by omega, by omega, fun s hs => by omega, by omega, by omega, by omega, by omega, by omega, fun s hs => ⟨Int.le_refl 0, ?_, fun _ => rfl⟩, ?_, ⟨Int.le_refl 0, ?_⟩, fun b s hb hs => ⟨Int.le_refl 0, ?_, fun _ => rfl, fun _ => rfl⟩, fun b hb => ?_⟩
  · show (0 : Int) ≤ 12; decide
  · show (0 : Int) ≤ 24; decide
  · show (0 : Int) ≤ 12; decide
  · show (0 : Int) ≤ 99; decide
  · show (0 : Int) ≤ 30; decide
theorem c_X6_begin {d k : Nat} {M : mM} {Q : mRes → mM → Prop} (hQ : ∀ M', frN [2, 3, 4, 7] M M' → M' 2 2 = -1 → clR M' ps0 → Q (.inl none) M') : V d k qX6_begin 0 [mR 14 8 2, mE 0] [] M Q := by
  have loop : ∀ (r j : Nat) (M' : mM), j + r = 14 → frN [2, 3, 4, 7] M M' → M' 3 0 = 30 → M' 3 1 = 0 → (∀ i : Nat, i < j → M' 7 i = 0) → V d k qX6_begin 19 [mR 14 8 2, mI j] [] M' Q := by
    intro r
    induction r with
    | zero =>
      intro j M' hj g a b h
      refine B_X6_begin_19 ⟨fun _ => hQ _ (((((g.up (by simp)).up (by simp)).up (by simp)).up (by simp)).up (by simp)) rfl ⟨rfl, rfl, rfl, rfl, fun z => absurd z (by decide), a, b, fun s hs => by omega, ?_, fun i hi => ?_⟩, fun z => by omega⟩
      · exact (h 12 (by omega)).trans rfl
      · exact (h i (by omega)).trans rfl
    | succ r ih =>
      intro j M' hj g a b h
      refine B_X6_begin_19 ⟨fun z => by omega, fun _ => ⟨by omega, by omega, ih (j + 1) _ (by omega) (g.up (by simp)) a b (fun i hi => ?_)⟩⟩
      by_cases e : i = j
      · subst e; rw [up_s]
      · rw [up_fld (by omega)]; exact h i (by omega)
  exact B_X6_begin_0 (loop 14 0 _ (by omega) ((frN.rf.up (by simp)).up (by simp)) rfl rfl (fun i hi => by omega))
/-- the lot told -/
def finX (M : mM) (r : Rs) : Prop := ∃ (cap : Int) (kin : Nat) (sz R : Int → Int), r = (0, -1, cap, kin, sz, R) ∧ psOK (0, 1, cap, kin, sz, 0, R) ∧ M 3 0 = cap ∧ M 3 1 = kin ∧ (∀ s : Nat, s < kin → M 4 s = sz s) ∧ stk 7 M R
theorem c_X6_readText {d k : Nat} {M : mM} {Q : mRes → mM → Prop} {T : Int → Int} {n : Int} (hT : M 1 = T) (hn : 0 ≤ n ∧ n ≤ 700)
    (hQ : ∀ M' r, frN [2, 3, 4, 7] M M' → r = rd T n (n.toNat + 1) ps0 0 → (r.1 ≠ 0 ∧ M' 2 2 = r.2.1) ∨ (r.1 = 0 ∧ M' 2 2 = -1 ∧ finX M' r) → Q (.inl (some (mI r.1))) M') : V (d + 8) k qX6_readText 0 [mR 14 8 2, mR 2 700 1, mI n, mE 0, mE 0, mE 0, mE 0] [] M Q := by
  have loop : ∀ (r : Nat) (p : Int) (f : Nat) (s : PS) (M' : mM) (u5 u6 : mV), 0 ≤ p ∧ p ≤ n → n - p ≤ r → n - p < f → psOK s → clR M' s → s.2.1 ≤ p → frN [2, 3, 4, 7] M M' → M' 2 2 = -1 → rd T n f s p = rd T n (n.toNat + 1) ps0 0 → V (d + 8) k qX6_readText 14 [mR 14 8 2, mR 2 700 1, mI n, mI n, mI p, u5, u6] [] M' Q := by
    intro r
    induction r with
    | zero =>
      intro p f s M' u5 u6 hp h1 h2 hO hC hc g g2 hr
      obtain rfl : p = n := by omega
      obtain ⟨f, rfl⟩ : ∃ f' : Nat, f = f' + 1 := ⟨f - 1, by omega⟩
      obtain ⟨st, cl, cap, kin, sz, size, R⟩ := s
      have et : tT T p p = 0 := by unfold tT; rw [if_pos (Int.le_refl _)]
      rw [rd_s, ro_end (Int.le_refl _), et] at hr
      have o := hC.1
      obtain ⟨o1, o2, o3, o4, o5, o6, o7, o8, o9, o10, o11⟩ := id hO
      refine B_X6_readText_14 ⟨fun _ => ⟨fun c1 => ?_, fun c1 => ?_⟩, fun c1 => by omega⟩
      · obtain rfl : st = 0 := by omega
        rw [sp_end] at hr
        obtain ⟨r1, r2, r3, r4, r5, r6, r7, r8, r9, r10⟩ := hC
        exact hQ _ _ (g.up (by simp)) hr (Or.inr ⟨rfl, g2, cap, kin, sz, R, rfl, ⟨by omega, by omega, o3, o4, o5, by omega, by omega, by omega, by omega, by omega, o11⟩, r6, r7, r8, r9, r3, fun b hb => by rw [up_fld (by omega)]; exact r10 b hb⟩)
      · rw [sp_one (by omega) (by omega) (Or.inr (by decide))] at hr
        exact hQ _ _ (g.up (by simp)) hr (Or.inl ⟨by show (1 : Int) ≠ 0; decide, rfl⟩)
    | succ r ih =>
      intro p f s M' u5 u6 hp h1 h2 hO hC hc g g2 hr
      by_cases hpn : p = n
      · subst hpn
        exact ih p f s M' u5 u6 hp (by omega) h2 hO hC hc g g2 hr
      have hT' : M' 1 = T := by rw [g 1 (by simp)]; exact hT
      refine B_X6_readText_14 ⟨fun c1 => by omega, fun _ => ⟨by omega, by omega, c_X6_isBlank (T := T) (i := p) (by rw [hT']) (fun x hx => ?_)⟩⟩
      by_cases eb : bl T p = true
      · rw [if_pos eb] at hx
        exact B_X6_readText_33 ⟨fun _ => ih (p + 1) f s M' _ _ (by omega) (by omega) (by omega) hO hC (by omega) g g2 (by rw [← rd_bl (by omega) eb]; exact hr), fun z => by omega⟩
      · rw [if_neg eb] at hx
        refine B_X6_readText_33 ⟨fun z => absurd hx z, fun _ => c_X6_endOfToken hT' (by omega) hn.2 (fun e he => B_X6_readText_45 ?_)⟩
        rw [he]
        have heb := eT_b (T := T) (show p < n by omega)
        obtain ⟨f, rfl⟩ : ∃ f' : Nat, f = f' + 1 := ⟨f - 1, by omega⟩
        rw [rd_s, ro_no (by simpa using eb)] at hr
        obtain ⟨st, cl, cap, kin, sz, size, R⟩ := s
        refine c_X6_takeToken hO hC hT' (by omega) hn.2 (by have : cl ≤ p := hc; omega) rfl (fun M2 x g' hx => ?_)
        rcases hx with ⟨x0, hx⟩ | ⟨x0, s', k1, k2, k3, k4⟩
        · rw [hx] at hr
          exact B_X6_readText_59 ⟨fun z => absurd z x0, fun _ => hQ _ _ ((g.tr g'.1).up (by simp)) hr (Or.inl ⟨x0, rfl⟩)⟩
        · rw [k4] at hr
          exact B_X6_readText_59 ⟨fun _ => ih _ f s' M2 _ _ (by omega) (by omega) (by omega) k1 k3 (by have : cl ≤ p := hc; have : s'.2.1 ≤ cl + 1 := k2; omega) (g.tr g'.1) (by rw [g'.2]; exact g2) hr, fun z => absurd x0 z⟩
  refine B_X6_readText_0 (c_X6_begin (fun M' g g2 hC => B_X6_readText_4 ?_))
  rw [show min n 700 = n by omega]
  exact loop n.toNat 0 (n.toNat + 1) ps0 M' _ _ (by omega) (by omega) (by omega) ps0_ok hC (Int.le_refl _) g g2 rfl
