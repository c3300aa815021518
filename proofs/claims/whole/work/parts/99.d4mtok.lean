/-! the model reads a token -/
def byR (T : Int → Int) (n : Int) (M : mM) : Prop := ∀ i : Int, 0 ≤ i → i < n → (M 118 i = T i ∧ 0 ≤ T i) ∨ (T i < 0 ∧ 128 ≤ M 118 i)
def tkM (T : Int → Int) (n : Int) (M : mM) (p : Int) : Prop := M 112 20 = n ∧ M 112 24 = 0 ∧ M 112 19 = ro (bl T) n p ∧ M 112 18 = eT T n (ro (bl T) n p) ∧ M 112 21 = tT T n (ro (bl T) n p) ∧ (tT T n (ro (bl T) n p) = 2 → M 112 22 = vT T (ro (bl T) n p) (eT T n (ro (bl T) n p))) ∧ (tT T n (ro (bl T) n p) = 1 → M 112 23 = wT T (ro (bl T) n p) (eT T n (ro (bl T) n p)))
theorem c_X10_byteAt {d k : Nat} {M : mM} {Q : mRes → mM → Prop} {T : Int → Int} {n x : Int} (hB : byR T n M) (hn : n ≤ 700) (h20 : M 112 20 = n) (hx : 0 ≤ x) (hQ : ∀ r, ((n ≤ x ∧ r = 0) ∨ (x < n ∧ r = T x ∧ 0 ≤ r) ∨ (x < n ∧ T x < 0 ∧ 128 ≤ r)) → Q (.inl (some (mI r))) M) : V d k qX10_byteAt 0 [mR 18 58 112, mI x] [] M Q := by
  refine B_X10_byteAt_0 ⟨fun c1 => hQ _ (Or.inl ⟨by omega, rfl⟩), fun c1 => ⟨by omega, hQ _ ?_⟩⟩
  rcases hB x hx (by omega) with h | h
  · exact Or.inr (Or.inl ⟨by omega, h.1, by omega⟩)
  · exact Or.inr (Or.inr ⟨by omega, h.1, h.2⟩)
theorem c_X10_wordFrom {d k : Nat} {M : mM} {Q : mRes → mM → Prop} {T : Int → Int} {n q e : Int} (hB : byR T n M) (hn : n ≤ 700) (h20 : M 112 20 = n) (hq : 0 ≤ q ∧ q ≤ e ∧ e ≤ n) (hQ : Q (.inl (some (mI (wT T q e)))) M) : V (d + 1) k qX10_wordFrom 0 [mR 18 58 112, mI q, mI e, mE 0, mE 0, mE 0, mE 0] [] M Q := by
  have seg : ∀ (w o L : Nat), sLen w = L → L ≤ 8 → o + L < 18 → (∀ j : Nat, j < L → (mKn.getD (o + j) 0).toInt = (sByt w j).toInt ∧ (mKn.getD (o + j) 0).toInt ≠ 32 ∧ 0 ≤ (sByt w j).toInt ∧ (sByt w j).toInt < 128) → (mKn.getD (o + L) 0).toInt = 32 → (isW T w q e = true → Q (.inl (some (mI w))) M) → (isW T w q e = false → V (d + 1) k qX10_wordFrom 11 [mR 18 58 112, mI q, mI e, mI (w + 1), mI q, mI 1, mI ((o + L + 1 : Nat) : Int)] [] M Q) → w < 3 → V (d + 1) k qX10_wordFrom 11 [mR 18 58 112, mI q, mI e, mI w, mI q, mI 1, mI (o : Nat)] [] M Q := by
    intro w o L hL hL8 ho hk hs hy hno hw
    have loop : ∀ (r j : Nat) (x5 : Int), j + r = L → ((x5 = 1 ∧ ∀ i : Nat, i < j → q + i < e ∧ T (q + i) = (sByt w i).toInt) ∨ (x5 = 0 ∧ isW T w q e = false)) → V (d + 1) k qX10_wordFrom 11 [mR 18 58 112, mI q, mI e, mI w, mI (q + j), mI x5, mI ((o + j : Nat) : Int)] [] M Q := by
      intro r
      induction r with
      | zero =>
        intro j x5 hj h
        obtain rfl : j = L := by omega
        have e1 : (mKn.getD (((o + j : Nat) : Int)).toNat 0).toInt = 32 := by rw [show (((o + j : Nat) : Int)).toNat = o + j by omega]; exact hs
        have nx : ∀ z : isW T w q e = false, V (d + 1) k qX10_wordFrom 11 [mR 18 58 112, mI q, mI e, mI ((w : Int) + 1), mI q, mI 1, mI (((o + j : Nat) : Int) + 1)] [] M Q := fun z => by
          have := hno z
          rw [show ((o + j + 1 : Nat) : Int) = ((o + j : Nat) : Int) + 1 by omega] at this
          exact this
        refine B_X10_wordFrom_11 ⟨fun c => by omega, fun _ => ⟨by omega, fun c => absurd e1 c, fun _ => ⟨fun c => ⟨by omega, by omega, nx ?_⟩, fun c => ⟨fun c2 => ⟨by omega, by omega, nx ?_⟩, fun c2 => hy ?_⟩⟩⟩⟩
        · rcases h with h | h
          · omega
          · exact h.2
        · rw [Bool.eq_false_iff]; intro z; have := (isW_t.mp z).1; omega
        · rcases h with h | h
          · exact isW_t.mpr ⟨by omega, fun i hi => (h.2 i (by omega)).2⟩
          · omega
      | succ r ih =>
        intro j x5 hj h
        have hkj := hk j (by omega)
        have et : (((o + j : Nat) : Int)).toNat = o + j := by omega
        have e1 : ¬ (mKn.getD (((o + j : Nat) : Int)).toNat 0).toInt = 32 := by rw [et]; exact hkj.2.1
        have nx : ∀ x5 : Int, ((x5 = 1 ∧ ∀ i : Nat, i < j + 1 → q + i < e ∧ T (q + i) = (sByt w i).toInt) ∨ (x5 = 0 ∧ isW T w q e = false)) → V (d + 1) k qX10_wordFrom 11 [mR 18 58 112, mI q, mI e, mI w, mI (q + j + 1), mI x5, mI (((o + j : Nat) : Int) + 1)] [] M Q := fun x5 z => by
          have := ih (j + 1) x5 (by omega) z
          rw [show ((o + (j + 1) : Nat) : Int) = ((o + j : Nat) : Int) + 1 by omega, show q + ((j + 1 : Nat) : Int) = q + j + 1 by omega] at this
          exact this
        have no : ¬ (q + j < e ∧ T (q + j) = (sByt w j).toInt) → isW T w q e = false := fun z => by
          rw [Bool.eq_false_iff]; intro y
          have := isW_t.mp y
          exact z ⟨by omega, this.2 j (by omega)⟩
        refine B_X10_wordFrom_11 ⟨fun c => by omega, fun _ => ⟨by omega, fun _ => ⟨fun c => ⟨by omega, by omega, nx 0 (Or.inr ⟨rfl, ?_⟩)⟩, fun c => ⟨fun c2 => ⟨by omega, by omega, nx 0 (Or.inr ⟨rfl, no (by omega)⟩)⟩, fun c2 => c_X10_byteAt hB hn h20 (by omega) (fun b hb => ?_)⟩⟩, fun c => absurd c e1⟩⟩
        · rcases h with h | h
          · omega
          · exact h.2
        · have hk2 := hkj.1
          refine B_X10_wordFrom_73 ⟨by omega, fun c3 => ⟨by omega, by omega, nx 0 (Or.inr ⟨rfl, no ?_⟩)⟩, fun c3 => ⟨by omega, by omega, nx 1 (Or.inl ⟨rfl, fun i hi => ?_⟩)⟩⟩
          · rw [et, hk2] at c3; omega
          · rw [et, hk2] at c3
            by_cases e2 : i = j
            · subst e2; omega
            · rcases h with h | h
              · exact h.2 i (by omega)
              · omega
    have := loop L 0 1 (by omega) (Or.inl ⟨rfl, fun i hi => by omega⟩)
    rw [show q + ((0 : Nat) : Int) = q by omega] at this
    exact this
  refine B_X10_wordFrom_0 ?_
  refine seg 0 0 8 rfl (by decide) (by decide) (by decide) (by decide) (fun z => ?_) (fun z0 => ?_) (by decide)
  · have : wT T q e = 0 := by unfold wT; rw [if_pos z]
    rw [this] at hQ; exact hQ
  refine seg 1 9 4 rfl (by decide) (by decide) (by decide) (by decide) (fun z => ?_) (fun z1 => ?_) (by decide)
  · have : wT T q e = 1 := by unfold wT; rw [z0, z]; rfl
    rw [this] at hQ; exact hQ
  refine seg 2 14 3 rfl (by decide) (by decide) (by decide) (by decide) (fun z => ?_) (fun z2 => ?_) (by decide)
  · have : wT T q e = 2 := by unfold wT; rw [z0, z1, z]; rfl
    rw [this] at hQ; exact hQ
  have : wT T q e = -1 := by unfold wT; rw [z0, z1, z2]; rfl
  rw [this] at hQ
  exact B_X10_wordFrom_11 ⟨fun _ => hQ, fun c => absurd c (by decide)⟩
theorem c_X10_go {d k : Nat} {M : mM} {Q : mRes → mM → Prop} {T : Int → Int} {n p : Int} (hB : byR T n M) (hn : n ≤ 700) (h20 : M 112 20 = n) (h24 : M 112 24 = 0) (h18 : M 112 18 = p) (hp : 0 ≤ p ∧ p ≤ n)
    (hQ : ∀ M', frM [] [18, 19, 21, 22, 23] M M' → tkM T n M' p → Q (.inl none) M') : V (d + 2) k qX10_go 0 [mR 18 58 112, mE 0] [] M Q := by
  have fx : ∀ {M' : mM}, frM [] [18, 19, 21, 22, 23] M M' → byR T n M' ∧ M' 112 20 = n ∧ M' 112 24 = 0 := fun g => ⟨by unfold byR; rw [g.1 118 (by simp) (by decide)]; exact hB, by rw [g.2 20 (by simp)]; exact h20, by rw [g.2 24 (by simp)]; exact h24⟩
  have h50 : ∀ (M' : mM) (u : mV) (q : Int), frM [] [18, 19, 21, 22, 23] M M' → M' 112 18 = q → 0 ≤ q ∧ q ≤ n → q = ro (bl T) n p → V (d + 2) k qX10_go 50 [mR 18 58 112, u] [] M' Q := by
    intro M' u q g g18 hq hqe
    unfold tkM at hQ
    rw [← hqe] at hQ
    refine B_X10_go_50 ?_
    have g1 := g.fl (i := 19) (v := M' 112 18) (by simp)
    have a19 : mUp M' 112 19 (M' 112 18) 112 19 = q := by rw [up_s, g18]
    have a18 : mUp M' 112 19 (M' 112 18) 112 18 = q := g18
    revert g1 a19 a18
    generalize mUp M' 112 19 (M' 112 18) = M1
    intro g1 a19 a18
    obtain ⟨b1, b2, b3⟩ := fx g1
    refine c_X10_byteAt b1 hn b2 (by rw [g18]; omega) (fun r hr => ?_)
    rw [g18] at hr
    refine B_X10_go_66 ⟨fun c1 => ?_, fun c1 => hQ _ (((g1.fl (by simp)).fl (by simp)).fl (by simp)) ⟨b2, b3, a19, ?_, ?_, ?_, ?_⟩⟩
    · have hqn : q < n := by omega
      have g2 := (g1.fl (i := 23) (v := -1) (by simp)).fl (i := 22) (v := 0) (by simp)
      have c19 : mUp (mUp M1 112 23 (-1)) 112 22 0 112 19 = q := a19
      have c18 : mUp (mUp M1 112 23 (-1)) 112 22 0 112 18 = q := a18
      have c22 : mUp (mUp M1 112 23 (-1)) 112 22 0 112 22 = 0 := up_s
      revert g2 c19 c18 c22
      generalize mUp (mUp M1 112 23 (-1)) 112 22 0 = M2
      intro g2 c19 c18 c22
      have hltr : ltr T q = true ↔ (97 ≤ r ∧ r ≤ 122) := by rw [ltr_t]; omega
      have hdg : dg T q = true ↔ (48 ≤ r ∧ r ≤ 57) := by rw [dg_t]; omega
      have h255 : ltr T q = false → dg T q = false → V (d + 2) k qX10_go 255 [mR 18 58 112, mI r] [] M2 Q := fun z1 z2 => by
        have et : eT T n q = q + 1 := by unfold eT; rw [if_neg (by omega), z1, z2]; rfl
        have tt : tT T n q = if T q = 59 then 3 else 4 := by unfold tT; rw [if_neg (by omega), z1, z2]; rfl
        obtain ⟨b1, b2, b3⟩ := fx g2
        refine B_X10_go_255 ⟨by omega, fun c => hQ _ ((g2.fl (by simp)).fl (by simp)) ⟨b2, b3, c19, ?_, ?_, ?_, ?_⟩, fun c => hQ _ ((g2.fl (by simp)).fl (by simp)) ⟨b2, b3, c19, ?_, ?_, ?_, ?_⟩⟩
        · rw [et]; show M2 112 18 + 1 = _; rw [c18]
        · rw [tt, if_neg (by omega)]; exact up_s
        · rw [tt, if_neg (by omega)]; intro z; omega
        · rw [tt, if_neg (by omega)]; intro z; omega
        · rw [et]; show M2 112 18 + 1 = _; rw [c18]
        · rw [tt, if_pos (by omega)]; exact up_s
        · rw [tt, if_pos (by omega)]; intro z; omega
        · rw [tt, if_pos (by omega)]; intro z; omega
      have h103 : ltr T q = true → ∀ (rr : Nat) (p' : Int) (M3 : mM), q ≤ p' ∧ p' ≤ n → n - p' ≤ rr → frM [] [18, 19, 21, 22, 23] M M3 → M3 112 19 = q → M3 112 18 = p' → ro (ltr T) n p' = ro (ltr T) n q → V (d + 2) k qX10_go 103 [mR 18 58 112, mI r] [] M3 Q := by
        intro zl rr
        have et : eT T n q = ro (ltr T) n q := by unfold eT; rw [if_neg (by omega), zl]; rfl
        have tt : tT T n q = 1 := by unfold tT; rw [if_neg (by omega), zl]; rfl
        have fin : ∀ (p' : Int) (M3 : mM), q ≤ p' ∧ p' ≤ n → frM [] [18, 19, 21, 22, 23] M M3 → M3 112 19 = q → M3 112 18 = p' → p' = ro (ltr T) n q → V (d + 2) k qX10_go 114 [mR 18 58 112, mI r] [mI 0] M3 Q := by
          intro p' M3 hp' g3 h19 h18 hro
          obtain ⟨b1, b2, b3⟩ := fx (g3.fl (i := 21) (v := 1) (by simp))
          refine B_X10_go_114 ⟨fun _ => ?_, fun z => absurd rfl z⟩
          rw [h19, h18]
          refine c_X10_wordFrom b1 hn b2 (by omega) ?_
          refine B_X10_go_148 (hQ _ ((g3.fl (by simp)).fl (by simp)) ⟨b2, b3, h19, ?_, ?_, fun z => ?_, fun _ => ?_⟩)
          · rw [et, ← hro]; exact h18
          · rw [tt]; rfl
          · rw [tt] at z; omega
          · rw [up_s, et, hro]
        induction rr with
        | zero =>
          intro p' M3 hp' h1 g3 h19 h18 hro
          obtain ⟨b1, b2, b3⟩ := fx g3
          refine B_X10_go_103 (c_X10_byteAt b1 hn b2 (by omega) (fun b hb => B_X10_go_111 ?_))
          rw [h18] at hb
          have hf := fin p' M3 hp' g3 h19 h18 (by rw [← hro, ro_end (by omega)])
          exact B_X10_isLetter_0 ⟨fun _ => hf, fun c => ⟨fun _ => hf, fun c2 => by omega⟩⟩
        | succ rr ih =>
          intro p' M3 hp' h1 g3 h19 h18 hro
          obtain ⟨b1, b2, b3⟩ := fx g3
          refine B_X10_go_103 (c_X10_byteAt b1 hn b2 (by omega) (fun b hb => B_X10_go_111 ?_))
          rw [h18] at hb
          have hno : ¬ (97 ≤ b ∧ b ≤ 122) → V (d + 2) k qX10_go 114 [mR 18 58 112, mI r] [mI 0] M3 Q := fun z => by
            refine fin p' M3 hp' g3 h19 h18 ?_
            by_cases e : n ≤ p'
            · rw [← hro, ro_end e]
            · rw [← hro, ro_no (ltr_f.mpr (by omega))]
          refine B_X10_isLetter_0 ⟨fun c => hno (by omega), fun c => ⟨fun c2 => hno (by omega), fun c2 => B_X10_go_114 ⟨fun z => absurd z (by decide), fun _ => ⟨by omega, ?_⟩⟩⟩⟩
          refine ih (p' + 1) _ (by omega) (by omega) (g3.fl (by simp)) h19 (by rw [up_s, h18]) ?_
          rw [← ro_go (by omega) (ltr_t.mpr (by omega))]; exact hro
      have h166 : dg T q = true → ∀ (rr j : Nat) (M3 : mM), q + j ≤ n → n - (q + j) ≤ rr → frM [] [18, 19, 21, 22, 23] M M3 → M3 112 19 = q → M3 112 18 = q + j → M3 112 22 = (if (j : Int) ≤ 3 then nmF T q j else 9999) → (∀ i : Nat, i < j → 48 ≤ T (q + i) ∧ T (q + i) ≤ 57) → ro (dg T) n (q + j) = ro (dg T) n q → V (d + 2) k qX10_go 166 [mR 18 58 112, mI r] [] M3 Q := by
        intro zd rr
        have et := eT_d hqn zd
        have zl : ltr T q = false := ltr_f.mpr (by have := dg_t.mp zd; omega)
        have tt : tT T n q = 2 := by unfold tT; rw [if_neg (by omega), zl, zd]; rfl
        have fin : ∀ (j : Nat) (M3 : mM), frM [] [18, 19, 21, 22, 23] M M3 → M3 112 19 = q → M3 112 18 = q + j → M3 112 22 = (if (j : Int) ≤ 3 then nmF T q j else 9999) → q + j = ro (dg T) n q → Q (.inl none) (mUp M3 112 21 2) := by
          intro j M3 g3 h19 h18 h22 hro
          obtain ⟨b1, b2, b3⟩ := fx g3
          refine hQ _ (g3.fl (by simp)) ⟨b2, b3, h19, by rw [et, ← hro]; exact h18, by rw [tt]; rfl, fun _ => ?_, fun z => by rw [tt] at z; omega⟩
          show M3 112 22 = _
          rw [h22, et, ← hro]
          unfold vT
          rw [show q + (j : Int) - q = j by omega, show ((j : Int)).toNat = j by omega]
        induction rr with
        | zero =>
          intro j M3 hp' h1 g3 h19 h18 h22 hd hro
          obtain ⟨b1, b2, b3⟩ := fx g3
          refine B_X10_go_166 (c_X10_byteAt b1 hn b2 (by omega) (fun b hb => ?_))
          rw [h18] at hb
          exact B_X10_go_174 ⟨fun _ => fin j M3 g3 h19 h18 h22 (by rw [← hro, ro_end (by omega)]), fun c => by omega⟩
        | succ rr ih =>
          intro j M3 hp' h1 g3 h19 h18 h22 hd hro
          obtain ⟨b1, b2, b3⟩ := fx g3
          refine B_X10_go_166 (c_X10_byteAt b1 hn b2 (by omega) (fun b hb => ?_))
          rw [h18] at hb
          have hno : ¬ (48 ≤ b ∧ b ≤ 57) → Q (.inl none) (mUp M3 112 21 2) := fun z => by
            refine fin j M3 g3 h19 h18 h22 ?_
            by_cases e : n ≤ q + j
            · rw [← hro, ro_end e]
            · rw [← hro, ro_no (dg_f.mpr (by omega))]
          refine B_X10_go_174 ⟨fun c => hno (by omega), fun c => c_X10_byteAt b1 hn b2 (by omega) (fun b' hb' => ?_)⟩
          rw [h18] at hb'
          refine B_X10_go_187 ⟨fun c2 => hno (by omega), fun c2 => ?_⟩
          have hdj : 48 ≤ T (q + j) ∧ T (q + j) ≤ 57 ∧ q + j < n := by omega
          have hd' : ∀ i : Nat, i < j + 1 → 48 ≤ T (q + i) ∧ T (q + i) ≤ 57 := fun i hi => by
            by_cases e : i = j
            · subst e; omega
            · exact hd i (by omega)
          have ej : q + ((j + 1 : Nat) : Int) = q + j + 1 := by omega
          have hro' : ro (dg T) n (q + ((j + 1 : Nat) : Int)) = ro (dg T) n q := by
            rw [ej, ← ro_go (by omega) (dg_t.mpr (by omega))]; exact hro
          refine ⟨by omega, fun c3 => ⟨by omega, ih (j + 1) _ (by omega) (by omega) ((g3.fl (by simp)).fl (by simp)) h19 (by rw [up_s, h18, ej]) ?_ hd' hro'⟩, fun c3 => ?_⟩
          · rw [if_neg (by omega)]; rfl
          · rw [if_pos (by omega)] at h22
            have hb3 := nmF_b (T := T) (q := q) j (by omega) hd
            refine ⟨by omega, c_X10_byteAt b1 hn b2 (by omega) (fun x hx => ?_)⟩
            rw [h18] at hx
            refine B_X10_go_221 ⟨by omega, by omega, by omega, ih (j + 1) _ (by omega) (by omega) ((g3.fl (by simp)).fl (by simp)) h19 (by rw [up_s, h18, ej]) ?_ hd' hro'⟩
            rw [if_pos (by omega)]
            show 10 * M3 112 22 + x - 48 = 10 * nmF T q j + T (q + j) - 48
            omega
      have e255 : ¬ (97 ≤ r ∧ r ≤ 122) → ¬ (48 ≤ r ∧ r ≤ 57) → V (d + 2) k qX10_go 255 [mR 18 58 112, mI r] [] M2 Q := fun z1 z2 => h255 (by rw [Bool.eq_false_iff]; exact fun y => z1 (hltr.mp y)) (by rw [Bool.eq_false_iff]; exact fun y => z2 (hdg.mp y))
      have h100 : ¬ (97 ≤ r ∧ r ≤ 122) → V (d + 2) k qX10_go 100 [mR 18 58 112, mI r] [mI 0] M2 Q := fun z1 => by
        refine B_X10_go_100 ⟨fun _ => ⟨fun c2 => e255 z1 (by omega), fun c2 => ⟨fun c3 => e255 z1 (by omega), fun c3 => ?_⟩⟩, fun z => absurd rfl z⟩
        have e0 : q + ((0 : Nat) : Int) = q := by omega
        exact h166 (hdg.mpr (by omega)) (n - q).toNat 0 M2 (by omega) (by omega) g2 c19 (by rw [e0]; exact c18) (by rw [if_pos (by decide)]; exact c22) (fun i hi => by omega) (by rw [e0])
      refine B_X10_isLetter_0 ⟨fun c => h100 (by omega), fun c => ⟨fun c2 => h100 (by omega), fun c2 => B_X10_go_100 ⟨fun z => absurd z (by decide), fun _ => h103 (hltr.mpr (by omega)) (n - q).toNat q M2 (by omega) (by omega) g2 c19 c18 rfl⟩⟩⟩
    · unfold eT; rw [if_pos (by omega)]; exact a18
    · unfold tT; rw [if_pos (by omega)]; exact up_s
    · unfold tT; rw [if_pos (by omega)]; intro z; omega
    · unfold tT; rw [if_pos (by omega)]; intro z; omega
  have loop : ∀ (r : Nat) (p' : Int) (M' : mM), 0 ≤ p' ∧ p' ≤ n → n - p' ≤ r → frM [] [18, 19, 21, 22, 23] M M' → M' 112 18 = p' → ro (bl T) n p' = ro (bl T) n p → V (d + 2) k qX10_go 0 [mR 18 58 112, mE 0] [] M' Q := by
    intro r
    induction r with
    | zero =>
      intro p' M' hp' h1 g g18 hro
      obtain ⟨b1, b2, b3⟩ := fx g
      exact B_X10_go_0 ⟨fun _ => h50 M' _ p' g g18 hp' (by rw [← hro, ro_end (by omega)]), fun c => by omega⟩
    | succ r ih =>
      intro p' M' hp' h1 g g18 hro
      obtain ⟨b1, b2, b3⟩ := fx g
      refine B_X10_go_0 ⟨fun _ => h50 M' _ p' g g18 hp' (by rw [← hro, ro_end (by omega)]), fun c => c_X10_byteAt b1 hn b2 (by omega) (fun b hb => ?_)⟩
      rw [g18] at hb
      have go1 : (T p' = 32 ∨ T p' = 10) → V (d + 2) k qX10_go 0 [mR 18 58 112, mE 0] [] (mUp M' 112 18 (M' 112 18 + 1)) Q := fun z =>
        ih (p' + 1) _ (by omega) (by omega) (g.fl (by simp)) (by rw [up_s, g18]) (by rw [← ro_go (by omega) (bl_t.mpr z)]; exact hro)
      refine B_X10_go_19 ⟨fun c2 => ⟨by omega, go1 (by omega)⟩, fun c2 => c_X10_byteAt b1 hn b2 (by omega) (fun b' hb' => ?_)⟩
      rw [g18] at hb'
      exact B_X10_go_32 ⟨fun c3 => h50 M' _ p' g g18 hp' (by rw [← hro, ro_no (bl_f.mpr (by omega))]), fun c3 => ⟨by omega, go1 (by omega)⟩⟩
  exact loop (n - p).toNat p M hp (by omega) frM.rf h18 rfl
