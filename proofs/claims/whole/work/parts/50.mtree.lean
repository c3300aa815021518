/-! the model's tree: a node met -/
def trM (M : mM) (st : tS) : Prop := M 112 44 = st.1 ∧ M 112 45 = st.2.1 ∧ M 112 46 = st.2.2.1 ∧ M 112 47 = st.2.2.2.1 ∧ M 112 48 = st.2.2.2.2.1 ∧ M 112 49 = st.2.2.2.2.2.1 ∧ ∀ i : Int, 0 ≤ i → i < 6 * st.1 → M 129 i = st.2.2.2.2.2.2 i
theorem boundF_bd {c : Int} {K : Nat} {sz mn : Int → Int} (h : LotOK c K sz mn) : 0 ≤ boundF c K sz mn ∧ boundF c K sz mn ≤ 299376 := by
  have h1 := wtF_bd h
  have h2 := rUp_bd (n := wtF K sz mn) (b := c) h1.1
  have h3 := bst_val (f := splitF c K sz mn) (lo := 0) (c / 2).toNat
  have h4 := bst_val (f := stepF c K sz mn) (lo := 1) 19
  have h5 := splitF_bd (a := (bst (splitF c K sz mn) 0 (c / 2).toNat).1) h
  have h6 := stepF_bd (kk := (bst (stepF c K sz mn) 1 19).1) h (by omega)
  unfold boundF areaF tSp tSt
  rw [h3.1, h4.1]
  omega
set_option maxHeartbeats 2000000 in
theorem c_X10_meets {c : Int} {K : Nat} {sz od : Int → Int} {d k n dep : Nat} {lf path : Int → Int} {st : tS} {M : mM} {Q : mRes → mM → Prop} (hc1 : 1 ≤ c) (hd : dep ≤ 24) (hc : M 112 33 = c) (hK : M 112 7 = K) (h122 : M 122 = sz) (h123 : M 123 = od) (hlf : ∀ s : Int, 0 ≤ s → s < 6 → M 127 (6 * dep + s) = lf s) (hG : GLok c K sz lf od) (hpath : ∀ i : Int, 0 ≤ i → i < 6 * (dep : Int) → M 128 i = path i) (hT : trM M st) (hO : tOK st) (hcut : st.2.2.2.2.2.1 = 0)
    (k0 : ∀ M', frM [129] [40, 44, 45, 46, 47, 48, 49] M M' → trM M' (meetT c K sz od (n + 1) dep lf path st) → (60 ≤ st.2.1 ∨ flF od lf K 0 = -1 ∨ st.1 - dep ≤ boundF c K sz lf) → Q (.inl (some (mI 0))) M')
    (k1 : ∀ M', frM [129, 130] [40, 44, 45, 46, 47, 48, 49] M M' → trM M' (st.1, st.2.1 + 1, st.2.2.1, st.2.2.2.1, max st.2.2.2.2.1 dep, st.2.2.2.2.2.1, st.2.2.2.2.2.2) → M' 130 dep = 0 → (∀ i : Int, i ≠ dep → M' 130 i = M 130 i) → ¬ 60 ≤ st.2.1 → flF od lf K 0 ≠ -1 → ¬ (st.1 - dep ≤ boundF c K sz lf) → Q (.inl (some (mI 1))) M') :
    V (d + 4) k qX10_meets 0 [mR 18 58 112, mI dep, mE 0, mE 0] [] M Q := by
  have hK6 : K ≤ 6 := hG.2.1
  obtain ⟨t1, t2, t3, t4, t5, t6, t7⟩ := hT
  obtain ⟨a1, a2, a3, a4, a5, a6⟩ := hO
  have eT : meetT c K sz od (n + 1) dep lf path st = (if 60 ≤ st.2.1 then (st.1, st.2.1, st.2.2.1, st.2.2.2.1, st.2.2.2.2.1, 1, st.2.2.2.2.2.2)
    else if flF od lf K 0 = -1 then (if (dep : Int) < st.1 then (dep, st.2.1 + 1, st.2.2.1, st.2.2.2.1 + 1, max st.2.2.2.2.1 dep, st.2.2.2.2.2.1, path) else (st.1, st.2.1 + 1, st.2.2.1, st.2.2.2.1, max st.2.2.2.2.1 dep, st.2.2.2.2.2.1, st.2.2.2.2.2.2))
    else if st.1 - dep ≤ boundF c K sz lf then (st.1, st.2.1 + 1, st.2.2.1 + 1, st.2.2.2.1, max st.2.2.2.2.1 dep, st.2.2.2.2.2.1, st.2.2.2.2.2.2)
    else brT (fun p st => meetT c K sz od n (dep + 1) (lfN od lf K p) (pthN od path K dep p) st) (brL c K sz od lf) (st.1, st.2.1 + 1, st.2.2.1, st.2.2.2.1, max st.2.2.2.2.1 dep, st.2.2.2.2.2.1, st.2.2.2.2.2.2)) := rfl
  rw [eT] at k0
  clear eT
  have Bk := B_X10_meets_0 (d := d + 3) (k := k) (M := M) (Q := Q) (x1 := dep)
  rw [t2] at Bk
  refine Bk ⟨fun c1 => ?_, fun c1 => ?_⟩
  · rw [if_neg (by omega)] at k0
    have Bk := B_X10_meets_15 (d := d + 3) (k := k) (M := M) (Q := Q) (x1 := dep) (u2 := mE 0) (u3 := mE 0) (sx0 := 0)
    rw [t2, t5] at Bk
    refine Bk ⟨by omega, fun _ => ⟨by omega, c_X10_greater (fun r hr => ?_)⟩, fun z => (z rfl).elim⟩
    subst hr
    refine B_X10_meets_46 ⟨by omega, ?_⟩
    generalize hM1 : mUp (mUp (mUp M 112 49 0) 112 45 (st.2.1 + 1)) 112 48 (max st.2.2.2.2.1 (dep : Int)) = M1
    have r1 : ∀ n, n ≠ 112 → M1 n = M n := fun n hn => by rw [← hM1, up_row hn, up_row hn, up_row hn]
    have f1 : ∀ i, i ≠ 49 → i ≠ 45 → i ≠ 48 → M1 112 i = M 112 i := fun i h1 h2 h3 => by rw [← hM1, up_fld h3, up_fld h2, up_fld h1]
    have f49 : M1 112 49 = 0 := by rw [← hM1, up_fld (by decide), up_fld (by decide), up_s]
    have f45 : M1 112 45 = st.2.1 + 1 := by rw [← hM1, up_fld (by decide), up_s]
    have f48 : M1 112 48 = max st.2.2.2.2.1 (dep : Int) := by rw [← hM1, up_s]
    have fr1 : frM [129] [40, 44, 45, 46, 47, 48, 49] M M1 := ⟨fun n _ h2 => r1 n h2, fun i hi => f1 i (by simp at hi; omega) (by simp at hi; omega) (by simp at hi; omega)⟩
    have e44 : M1 112 44 = st.1 := by rw [f1 44 (by decide) (by decide) (by decide)]; exact t1
    have e46 : M1 112 46 = st.2.2.1 := by rw [f1 46 (by decide) (by decide) (by decide)]; exact t3
    have e47 : M1 112 47 = st.2.2.2.1 := by rw [f1 47 (by decide) (by decide) (by decide)]; exact t4
    have mlf : ∀ s : Nat, s < K → (fun s => M1 127 (6 * dep + s)) s = lf s := fun s hs => by
      show M1 127 (6 * dep + s) = lf s
      rw [r1 127 (by decide)]; exact hlf s (by omega) (by omega)
    have m123 : M1 123 = od := by rw [r1 123 (by decide)]; exact h123
    have m122 : M1 122 = sz := by rw [r1 122 (by decide)]; exact h122
    have efl : flF od (fun s => M1 127 (6 * dep + s)) K 0 = flF od lf K 0 := flF_cg (fun j h1 h2 => hG.at (P := fun s => (fun s => M1 127 (6 * dep + s)) s = lf s) mlf (by omega))
    have ebd : boundF c K sz (fun s => M1 127 (6 * dep + s)) = boundF c K sz lf := boundF_cg mlf
    have hG1 : GLok c K sz (fun s => M1 127 (6 * dep + s)) od := hG.cg mlf
    refine c_X10_firstLeft (by rw [f1 7 (by decide) (by decide) (by decide)]; exact hK) hK6 (by omega) (fun i hi => by rw [m123]; have := hG.o hi; omega) (fun r hr => ?_)
    rw [m123, efl] at hr
    have Bk := B_X10_meets_59 (d := d + 3) (k := k) (M := M1) (Q := Q) (x1 := dep) (x2 := 6 * dep) (u3 := mE 0) (sx0 := r)
    rw [e44, e47] at Bk
    refine Bk ⟨fun c3 => ?_, fun c3 => ⟨fun c4 => ⟨by omega, ?_⟩, fun c4 => ?_⟩⟩
    · rw [if_neg (by omega)] at k0
      refine c_X10_bounds (c := c) (K := K) (by rw [f1 33 (by decide) (by decide) (by decide)]; exact hc) (by rw [f1 7 (by decide) (by decide) (by decide)]; exact hK) (by rw [m122]; exact hG1.lot hc1) (by omega) (by decide) (by decide) (fun q t hq => ?_)
      rw [m122, ebd] at hq
      have Bk := B_X10_meets_125 (d := d + 3) (k := k) (M := mUp M1 112 40 t) (Q := Q) (x1 := dep) (x2 := 6 * dep) (u3 := mE 0) (sx0 := q) (sx1 := dep)
      rw [up_fld (by decide), up_fld (by decide), e44, e46] at Bk
      have hqb : q = boundF c K sz lf := hq
      refine Bk ⟨?_, fun c5 => ⟨by omega, ?_⟩, fun c5 => ⟨by omega, ?_⟩⟩
      · have := boundF_bd (hG.lot hc1); omega
      · refine k1 _ (((fr1.fl (by simp)).w (S' := [129, 130]) (fun n hn => by simp at hn ⊢; omega) (fun _ h => h)).up (by simp) (by decide)) ⟨?_, ?_, ?_, ?_, ?_, ?_, fun i h1 h2 => ?_⟩ up_s (fun i hi => by rw [up_fld hi, up_row (by decide), r1 130 (by decide)]) (by omega) (by omega) (by omega)
        · rw [up_row (by decide), up_fld (by decide)]; exact e44
        · rw [up_row (by decide), up_fld (by decide)]; exact f45
        · rw [up_row (by decide), up_fld (by decide)]; exact e46
        · rw [up_row (by decide), up_fld (by decide)]; exact e47
        · rw [up_row (by decide), up_fld (by decide)]; exact f48
        · rw [up_row (by decide), up_fld (by decide), f49]; exact hcut.symm
        · rw [up_row (by decide), up_row (by decide), r1 129 (by decide)]; exact t7 i h1 h2
      · rw [if_pos (by omega)] at k0
        refine k0 _ ((fr1.fl (by simp)).fl (by simp)) ⟨?_, ?_, ?_, ?_, ?_, ?_, fun i h1 h2 => ?_⟩ (by omega)
        · rw [up_fld (by decide), up_fld (by decide)]; exact e44
        · rw [up_fld (by decide), up_fld (by decide)]; exact f45
        · rw [up_s]
        · rw [up_fld (by decide), up_fld (by decide)]; exact e47
        · rw [up_fld (by decide), up_fld (by decide)]; exact f48
        · rw [up_fld (by decide), up_fld (by decide), f49]; exact hcut.symm
        · rw [up_row (by decide), up_row (by decide), r1 129 (by decide)]; exact t7 i h1 h2
    · rw [if_pos (by omega), if_pos c4] at k0
      have loop : ∀ (r j : Nat) (M' : mM), (j : Int) + r = 6 * dep → (∀ n, n ≠ 129 → M' n = (mUp (mUp M1 112 44 dep) 112 47 (st.2.2.2.1 + 1)) n) → (∀ i : Int, 0 ≤ i → i < j → M' 129 i = path i) → V (d + 4) k qX10_meets 90 [mR 18 58 112, mI dep, mI (6 * dep), mI j] [] M' Q := by
        intro r
        induction r with
        | zero =>
          intro j M' hj g1 g2
          have g112 := g1 112 (by decide)
          refine B_X10_meets_90 ⟨fun c5 => k0 M' ⟨fun n h1 h2 => ?_, fun i hi => ?_⟩ ⟨?_, ?_, ?_, ?_, ?_, ?_, fun i h1 h2 => g2 i h1 ?_⟩ (by omega), fun c5 => by omega⟩
          · rw [g1 n (by simp at h1; omega), up_row h2, up_row h2]; exact r1 n h2
          · simp at hi
            rw [g112, up_fld (by omega), up_fld (by omega)]; exact f1 i (by omega) (by omega) (by omega)
          · rw [g112, up_fld (by decide), up_s]
          · rw [g112, up_fld (by decide), up_fld (by decide)]; exact f45
          · rw [g112, up_fld (by decide), up_fld (by decide)]; exact e46
          · rw [g112, up_s]
          · rw [g112, up_fld (by decide), up_fld (by decide)]; exact f48
          · rw [g112, up_fld (by decide), up_fld (by decide), f49]; exact hcut.symm
          · have h2' : i < 6 * (dep : Int) := h2
            omega
        | succ r ih =>
          intro j M' hj g1 g2
          refine B_X10_meets_90 ⟨fun c5 => by omega, fun c5 => ⟨by omega, by omega, by omega, ih (j + 1) _ (by omega) (fun n hn => by rw [up_row hn]; exact g1 n hn) (fun i h1 h2 => ?_)⟩⟩
          by_cases e : i = j
          · rw [e, up_s, g1 128 (by decide), up_row (by decide), up_row (by decide), r1 128 (by decide)]; exact hpath j (by omega) (by omega)
          · rw [up_fld e]; exact g2 i h1 (by omega)
      exact loop (6 * dep) 0 _ (by omega) (fun _ _ => rfl) (fun i h1 h2 => by omega)
    · rw [if_pos (by omega), if_neg c4] at k0
      exact k0 M1 fr1 ⟨e44, f45, e46, e47, f48, by rw [f49]; exact hcut.symm, fun i h1 h2 => by rw [r1 129 (by decide)]; exact t7 i h1 h2⟩ (by omega)
  · rw [if_pos (by omega)] at k0
    refine B_X10_meets_15 ⟨by omega, fun z => by omega, fun _ => k0 _ (frM.rf.fl (by simp)) ⟨?_, ?_, ?_, ?_, ?_, ?_, fun i h1 h2 => ?_⟩ (by omega)⟩
    · rw [up_fld (by decide)]; exact t1
    · rw [up_fld (by decide)]; exact t2
    · rw [up_fld (by decide)]; exact t3
    · rw [up_fld (by decide)]; exact t4
    · rw [up_fld (by decide)]; exact t5
    · rw [up_s]
    · rw [up_row (by decide)]; exact t7 i h1 h2
