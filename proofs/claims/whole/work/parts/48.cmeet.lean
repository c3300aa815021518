/-! the class's tree: meet and branch -/
set_option maxHeartbeats 4000000 in
theorem c_X8_meet {c : Int} {K : Nat} {sz od : Int → Int} {d : Nat} (hc1 : 1 ≤ c) : ∀ (n dep : Nat) (lf path : Int → Int) (st : tS) (M : mM) (Q : mRes → mM → Prop) (k : Nat), dep + n = 24 → 1 ≤ n → M 12 0 = c → M 12 1 = K → M 13 = sz → M 15 = od → (∀ s : Int, 0 ≤ s → s < 6 → M (39 + dep) s = lf s) → GLok c K sz lf od → (∀ s : Nat, s < 6 → -1000 * (dep : Int) ≤ lf s ∧ lf s ≤ 24) → (∀ (b : Nat) (s : Int), b < dep → 0 ≤ s → s < 6 → M (65 + b) s = path (6 * b + s)) → trC M st → tOK st → st.2.2.2.2.2.1 = 0 →
    (∀ M', frT dep M M' → trC M' (meetT c K sz od n dep lf path st) → Q (.inl none) M') → V (d + 2 * n + 4) k qX8_meet 0 [mR 16 10 32, mR 11 5 12, mI dep, mE 0] [] M Q
  | 0, _, _, _, _, _, _, _, _, h, _, _, _, _, _, _, _, _, _, _, _, _ => by omega
  | n + 1, dep, lf, path, st, M, Q, k, hdn, _, h120, h121, h13, h15, hlf, hG, hlf24, hpath, hT, hO, hcut, hQ => by
    have hK6 : K ≤ 6 := hG.2.1
    obtain ⟨t1, t2, t3, t4, t5, t6, t7⟩ := hT
    have hO' := hO
    obtain ⟨a1, a2, a3, a4, a5, a6⟩ := hO'
    have eT : meetT c K sz od (n + 1) dep lf path st = (if 60 ≤ st.2.1 then (st.1, st.2.1, st.2.2.1, st.2.2.2.1, st.2.2.2.2.1, 1, st.2.2.2.2.2.2)
      else if flF od lf K 0 = -1 then (if (dep : Int) < st.1 then (dep, st.2.1 + 1, st.2.2.1, st.2.2.2.1 + 1, max st.2.2.2.2.1 dep, st.2.2.2.2.2.1, path) else (st.1, st.2.1 + 1, st.2.2.1, st.2.2.2.1, max st.2.2.2.2.1 dep, st.2.2.2.2.2.1, st.2.2.2.2.2.2))
      else if st.1 - dep ≤ boundF c K sz lf then (st.1, st.2.1 + 1, st.2.2.1 + 1, st.2.2.2.1, max st.2.2.2.2.1 dep, st.2.2.2.2.2.1, st.2.2.2.2.2.2)
      else brT (fun p st => meetT c K sz od n (dep + 1) (lfN od lf K p) (pthN od path K dep p) st) (brL c K sz od lf) (st.1, st.2.1 + 1, st.2.2.1, st.2.2.2.1, max st.2.2.2.2.1 dep, st.2.2.2.2.2.1, st.2.2.2.2.2.2)) := rfl
    rw [eT] at hQ
    clear eT
    have hlfK : ∀ s : Nat, s < K → M (39 + dep) s = lf s := fun s hs => hlf s (by omega) (by omega)
    have Bk := B_X8_meet_0 (d := d + 2 * n + 5) (k := k) (M := M) (Q := Q) (x2 := dep)
    rw [t2, t5] at Bk
    refine Bk ⟨fun c1 => by omega, fun c1 => ⟨fun c2 => ⟨fun c3 => ⟨by omega, by omega, ?_⟩, fun c3 => ?_⟩, fun c2 => by omega⟩⟩
    · rw [if_neg (by omega)] at hQ
      generalize hM1 : mUp (mUp M 32 2 (st.2.1 + 1)) 32 5 (max st.2.2.2.2.1 (dep : Int)) = M1
      have r1 : ∀ n, n ≠ 32 → M1 n = M n := fun n hn => by rw [← hM1, up_row hn, up_row hn]
      generalize hst1 : ((st.1, st.2.1 + 1, st.2.2.1, st.2.2.2.1, max st.2.2.2.2.1 (dep : Int), st.2.2.2.2.2.1, st.2.2.2.2.2.2) : tS) = st1 at hQ
      have T1 : trC M1 st1 := by
        rw [← hM1, ← hst1]
        exact ⟨by rw [up_fld (by decide), up_fld (by decide)]; exact t1, by rw [up_fld (by decide), up_s], by rw [up_fld (by decide), up_fld (by decide)]; exact t3, by rw [up_fld (by decide), up_fld (by decide)]; exact t4, by rw [up_s], by rw [up_fld (by decide), up_fld (by decide)]; exact t6, fun i h1 h2 => by rw [up_row (by decide), up_row (by decide)]; exact t7 i h1 h2⟩
      have s1 : st1.1 = st.1 := by rw [← hst1]
      have s2 : st1.2.1 = st.2.1 + 1 := by rw [← hst1]
      have s3 : st1.2.2.1 = st.2.2.1 := by rw [← hst1]
      have s4 : st1.2.2.2.1 = st.2.2.2.1 := by rw [← hst1]
      have s6 : st1.2.2.2.2.2.1 = 0 := by rw [← hst1]; exact hcut
      have O1 : tOK st1 := by
        rw [← hst1]
        refine ⟨⟨?_, ?_⟩, ⟨?_, ?_⟩, ⟨?_, ?_⟩, ⟨?_, ?_⟩, ⟨?_, ?_⟩, a6⟩ <;> simp only [] <;> omega
      have m12 : M1 12 = M 12 := r1 12 (by decide)
      have m13 : M1 13 = sz := by rw [r1 13 (by decide)]; exact h13
      have m15 : M1 15 = od := by rw [r1 15 (by decide)]; exact h15
      have mlf : ∀ s : Nat, s < K → M1 (39 + dep) s = lf s := fun s hs => by rw [r1 (39 + dep) (by omega)]; exact hlfK s hs
      have hG1 : GLok c K sz (M1 (39 + dep)) od := hG.cg mlf
      have efl : flF od (M1 (39 + dep)) K 0 = flF od lf K 0 := flF_cg (fun j h1 h2 => hG.at (P := fun s => M1 (39 + dep) s = lf s) mlf (by omega))
      have ebd : boundF c K sz (M1 (39 + dep)) = boundF c K sz lf := boundF_cg mlf
      have ezl : zl K sz (M1 (39 + dep)) od = zl K sz lf od := zl_cg hG mlf
      have fr1 : frT dep M M1 := fun n h1 _ _ _ => r1 n h1
      refine c_X8_firstLeft (by rw [m12]; exact h121) hK6 (fun i hi => by rw [m15]; have := hG.o hi; omega) (fun r hr => ?_)
      rw [m15, efl] at hr
      have Bk := B_X8_meet_58 (d := d + 2 * n + 5) (k := k) (M := M1) (Q := Q) (x2 := dep) (u3 := mE 0) (sx0 := r)
      rw [T1.1] at Bk
      refine Bk ⟨fun c4 => ⟨by omega, by omega, ?_⟩, fun c4 => ?_⟩
      · rw [if_neg (by omega)] at hQ
        refine c_X0_reaches (c := c) (by rw [m12]; exact h120) (by rw [m12]; exact h121) (by rw [m13]; exact hG1.lot hc1) (fun q hq => ?_)
        rw [m13, ebd, s1] at hq
        by_cases hbd : st.1 - dep ≤ boundF c K sz lf
        · rw [if_pos hbd] at hQ hq
          subst hq
          have Bk := B_X8_meet_87 (d := d + 2 * n + 5) (k := k) (M := M1) (Q := Q) (x2 := dep) (x3 := r) (sx0 := 1)
          rw [T1.2.2.1, s3] at Bk
          refine Bk ⟨fun c5 => by omega, fun c5 => ⟨by omega, B_X8_meet_110 (hQ _ (fun n h1 h2 h3 h4 => by rw [up_row h1]; exact r1 n h1) ?_)⟩⟩
          have T1' := T1
          rw [← hst1] at T1'
          obtain ⟨y1, y2, y3, y4, y5, y6, y7⟩ := T1'
          exact ⟨by rw [up_fld (by decide)]; exact y1, by rw [up_fld (by decide)]; exact y2, by rw [up_s], by rw [up_fld (by decide)]; exact y4, by rw [up_fld (by decide)]; exact y5, by rw [up_fld (by decide)]; exact y6, fun i h1 h2 => by rw [up_row (by decide)]; exact y7 i h1 h2⟩
        · rw [if_neg hbd] at hQ hq
          subst hq
          have hne : flF od lf K 0 ≠ -1 := by omega
          have hb1 := hG.b1 hc1 hne
          have hn1 : 1 ≤ n := by omega
          have hr6 : 0 ≤ r ∧ r < 6 := by
            rcases flF_spec (od := od) (lf := lf) (r := K) (i := 0) (fun j h1 h2 => (hG.o (by omega)).1) with ⟨h1, _⟩ | ⟨j, h1, h2, h3, h4, h5⟩
            · exact (hne h1).elim
            · have := hG.o (i := j) (by omega)
              omega
          refine B_X8_meet_87 ⟨fun c5 => ?_, fun c5 => (c5 rfl).elim⟩
          obtain ⟨B0, hb1', hb2, hb3, hb4⟩ := hG.pc
          have hzl : zOK (zl K sz lf od) := hG.zOK (r := K) (i := 0) (by omega)
          have hflt : mxs (zl K sz lf od) c = gr (zl K sz lf od) c :: B0.filter (fun q => mx (zl K sz lf od) c q && true) := by
            unfold mxs
            have := mx_filter (l := zl K sz lf od) (fr := c) hzl hG.1.1 (P := fun _ => true)
            rw [this, hb1']
            exact flt_hd (P := fun q => mx (zl K sz lf od) c q && true) (by show (mx (zl K sz lf od) c (gr (zl K sz lf od) c) && true) = true; rw [mx_gr hzl hG.1.1]; rfl)
          have hpair := mxs_dn hG hne
          unfold brL at hQ
          rw [hflt] at hQ hpair
          rw [← hr] at hQ hpair
          have loop : ∀ (m : Nat) (B : List (List Int)), B.length < m → ∀ (p : List Int) (M' : mM) (tn : Nat) (st' : tS) (u6 : mV), frT dep M1 M' → ptR K od p (M' (65 + dep)) → mx (zl K sz lf od) c p = true → (∀ q, q ∈ p :: B → isP (zl K sz lf od) c q) → Ch (nc (zl K sz lf od) c) (p :: B) → B.length < 100000 → trC M' st' → tOK st' → st'.2.2.2.2.2.1 = 0 → (tn : Int) ≤ st'.2.1 →
              (p :: B.filter (fun q => mx (zl K sz lf od) c q && true)).Pairwise (fun p q => ¬ 0 < rwF od p K r → ¬ 0 < rwF od q K r) →
              (∀ M'', frT dep M M'' → trC M'' (brT (fun p st => meetT c K sz od n (dep + 1) (lfN od lf K p) (pthN od path K dep p) st) ((p :: B.filter (fun q => mx (zl K sz lf od) c q && true)).filter (fun p => decide (0 < rwF od p K r))) st') → Q (.inl none) M'') →
              V (d + 2 * n + 5) 0 qX8_branch 23 [mR 16 10 32, mR 11 5 12, mI dep, mI r, mR 0 6 (65 + dep), mI tn, u6] [] M' (mAft (d + 2 * n + 5 + 1) k qX8_meet 110 [mR 16 10 32, mR 11 5 12, mI dep, mI r] [] Q) := by
            intro m
            induction m with
            | zero => intro B hB; omega
            | succ m ih =>
              intro B hBm p M' tn st' u6 g1 g2 g3 g4 g5 g6 T' O' cut' htn hpw hQ'
              have w12 : M' 12 = M 12 := by rw [g1 12 (by decide) (by decide) (by omega) (by omega)]; exact m12
              have w13 : M' 13 = sz := by rw [g1 13 (by decide) (by decide) (by omega) (by omega)]; exact m13
              have w15 : M' 15 = od := by rw [g1 15 (by decide) (by decide) (by omega) (by omega)]; exact m15
              have w39 : M' (39 + dep) = M1 (39 + dep) := g1 (39 + dep) (by omega) (by omega) (by omega) (by omega)
              have hrw := ptR_rw hG g2
              have hPp := g4 p List.mem_cons_self
              have hbd6 : ∀ s : Nat, s < 6 → 0 ≤ rwF od p K s ∧ rwF od p K s ≤ 24 := fun s hs => by
                rw [← hrw s hs]
                by_cases e : s < K
                · have h1 := ptR_bd hG g2 hPp s e
                  have h2 := (hG.lot hc1).2.2.2 s e
                  omega
                · rw [g2.2 s (by omega) hs]; omega
              obtain ⟨rn, hrn⟩ : ∃ rn : Nat, r = rn := ⟨r.toNat, by omega⟩
              have hrr : M' (65 + dep) r = rwF od p K r := by rw [hrn]; exact hrw rn (by omega)
              have hpw' : (p :: B.filter (fun q => mx (zl K sz lf od) c q && true)).Pairwise (fun p q => decide (0 < rwF od p K r) = false → decide (0 < rwF od q K r) = false) := hpw.imp (fun {a b} h z => decide_eq_false (h (of_decide_eq_false z)))
              have Bk := B_X8_branch_23 (d := d + 2 * n + 4) (k := 0) (M := M') (Q := mAft (d + 2 * n + 5 + 1) k qX8_meet 110 [mR 16 10 32, mR 11 5 12, mI dep, mI r] [] Q) (x2 := dep) (x3 := r) (a4 := 65 + dep) (x5 := tn) (u6 := u6)
              rw [hrr] at Bk
              have hO60 := O'.2.1
              refine Bk ⟨fun c6 => by omega, fun c6 => ⟨hr6, fun c7 => B_X8_meet_110 (hQ' M' (fr1.tr g1) ?_), fun c7 => ?_⟩⟩
              · rw [dn_nil hpw' (decide_eq_false (by omega))]; exact T'
              · have hpos : decide (0 < rwF od p K r) = true := decide_eq_true (by omega)
                rw [flt_hd (P := fun p => decide (0 < rwF od p K r)) hpos] at hQ'
                have hmo := meetT_ok (c := c) (K := K) (sz := sz) (od := od) n (dep + 1) (lfN od lf K p) (pthN od path K dep p) st' (by omega) O' cut'
                have cpy : ∀ (rr s : Nat) (M2 : mM), s + rr = 6 → (∀ n, n ≠ 39 + ((dep : Int) + 1) → M2 n = M' n) → (∀ i : Int, 0 ≤ i → i < s → M2 (39 + ((dep : Int) + 1)) i = lfN od lf K p i) → V (d + 2 * n + 5) 0 qX8_branch 40 [mR 16 10 32, mR 11 5 12, mI dep, mI r, mR 0 6 (65 + dep), mI tn, mI s] [] M2 (mAft (d + 2 * n + 5 + 1) k qX8_meet 110 [mR 16 10 32, mR 11 5 12, mI dep, mI r] [] Q) := by
                  intro rr
                  induction rr with
                  | zero =>
                    intro s M2 hs f1 f2
                    have x32 : M2 32 = M' 32 := f1 32 (by omega)
                    have x33 : M2 33 = M' 33 := f1 33 (by omega)
                    have T2 : trC M2 st' := by
                      obtain ⟨y1, y2, y3, y4, y5, y6, y7⟩ := T'
                      exact ⟨by rw [x32]; exact y1, by rw [x32]; exact y2, by rw [x32]; exact y3, by rw [x32]; exact y4, by rw [x32]; exact y5, by rw [x32]; exact y6, by rw [x33]; exact y7⟩
                    refine B_X8_branch_40 ⟨fun c8 => ⟨by omega, ?_⟩, fun c8 => by omega⟩
                    refine c_X8_meet hc1 n (dep + 1) (lfN od lf K p) (pthN od path K dep p) st' M2 _ 0 (by omega) hn1 (by rw [f1 12 (by omega), w12]; exact h120) (by rw [f1 12 (by omega), w12]; exact h121) (by rw [f1 13 (by omega)]; exact w13) (by rw [f1 15 (by omega)]; exact w15) (fun i h1 h2 => f2 i h1 (by omega)) (hG.nxt g2 hPp) (fun s hs => by have h1 := hbd6 s hs; have h2 := hlf24 s hs; unfold lfN; omega) (fun b i h1 h2 h3 => ?_) T2 O' cut' (fun M3 e1 e2 => ?_)
                    · rw [f1 (65 + b) (by omega)]
                      unfold pthN
                      by_cases e : b = dep
                      · subst e
                        obtain ⟨i', hi'⟩ : ∃ i' : Nat, i = i' := ⟨i.toNat, by omega⟩
                        rw [if_pos (by omega), hi', show 6 * (b : Int) + i' - 6 * b = i' by omega]
                        exact hrw i' (by omega)
                      · rw [if_neg (by omega), g1 (65 + b) (by omega) (by omega) (by omega) (by omega), r1 (65 + b) (by omega)]
                        exact hpath b i (by omega) h2 h3
                    · generalize hst2 : meetT c K sz od n (dep + 1) (lfN od lf K p) (pthN od path K dep p) st' = st2 at *
                      have z1 : frT dep M1 M3 := fun n h1 h2 h3 h4 => by rw [e1 n h1 h2 (by omega) (by omega), f1 n (by omega)]; exact g1 n h1 h2 h3 h4
                      have z65 : M3 (65 + dep) = M' (65 + dep) := by rw [e1 (65 + dep) (by omega) (by omega) (by omega) (by omega), f1 (65 + dep) (by omega)]
                      have hbr : brT (fun p st => meetT c K sz od n (dep + 1) (lfN od lf K p) (pthN od path K dep p) st) (p :: (B.filter (fun q => mx (zl K sz lf od) c q && true)).filter (fun p => decide (0 < rwF od p K r))) st' = if st2.2.2.2.2.2.1 = 0 then brT (fun p st => meetT c K sz od n (dep + 1) (lfN od lf K p) (pthN od path K dep p) st) ((B.filter (fun q => mx (zl K sz lf od) c q && true)).filter (fun p => decide (0 < rwF od p K r))) st2 else st2 := by
                        rw [← hst2]; rfl
                      rw [hbr] at hQ'
                      have Bk := B_X8_branch_87 (d := d + 2 * n + 4) (k := 0) (M := M3) (Q := mAft (d + 2 * n + 5 + 1) k qX8_meet 110 [mR 16 10 32, mR 11 5 12, mI dep, mI r] [] Q) (x2 := dep) (x3 := r) (a4 := 65 + dep) (x5 := tn) (x6 := s)
                      rw [e2.2.2.2.2.2.1] at Bk
                      refine Bk ⟨fun c9 => B_X8_meet_110 (hQ' M3 (fr1.tr z1) (by rw [if_neg c9]; exact e2)), fun c9 => ⟨by omega, ?_⟩⟩
                      rw [if_pos c9] at hQ'
                      have v12 : M3 12 = M 12 := by rw [z1 12 (by decide) (by decide) (by omega) (by omega)]; exact m12
                      have G := @c_X5_goOn0 (d + 2 * n + 2) 0 M3 (mAft (d + 2 * n + 4 + 1) 0 qX8_branch 106 [mR 16 10 32, mR 11 5 12, mI dep, mI r, mR 0 6 (65 + dep), mI tn, mI s] [] (mAft (d + 2 * n + 5 + 1) k qX8_meet 110 [mR 16 10 32, mR 11 5 12, mI dep, mI r] [] Q)) (39 + dep) (65 + dep) c K sz (M1 (39 + dep)) od B p (by omega) hG1
                      simp only [ezl] at G
                      refine G (by rw [z1 13 (by decide) (by decide) (by omega) (by omega)]; exact m13) (by rw [z1 15 (by decide) (by decide) (by omega) (by omega)]; exact m15) (z1 (39 + dep) (by omega) (by omega) (by omega) (by omega)) (by rw [v12]; exact h120) (by rw [v12]; exact h121) (by rw [z65]; exact g2) g4 g5 g6 (fun M4 b B' j1 j2 j3 j4 j5 j6 j7 => B_X8_branch_106 ⟨fun _ => ⟨by omega, ?_⟩, fun z => by omega⟩) (fun M4 j1 j2 => B_X8_branch_106 ⟨fun z => (z rfl).elim, fun _ => B_X8_meet_110 ?_⟩)
                      · have hfb : B.filter (fun q => mx (zl K sz lf od) c q && true) = b :: B'.filter (fun q => mx (zl K sz lf od) c q && true) := by
                          rw [j7 (fun _ => true)]
                          exact flt_hd (P := fun q => mx (zl K sz lf od) c q && true) (by show (mx (zl K sz lf od) c b && true) = true; rw [j3]; rfl)
                        have y32 := j1 32 (by simp; omega)
                        have y33 := j1 33 (by simp; omega)
                        refine ih B' (by omega) b M4 (tn + 1) st2 _ (z1.tr (fun n h1 h2 h3 h4 => j1 n (by simp; omega))) j2 j3 j4 j5 (by omega) ?_ hmo.1 c9 (by have := hmo.2.2.2 hn1 c9; omega) ?_ ?_
                        · obtain ⟨y1, y2, y3, y4, y5, y6, y7⟩ := e2
                          exact ⟨by rw [y32]; exact y1, by rw [y32]; exact y2, by rw [y32]; exact y3, by rw [y32]; exact y4, by rw [y32]; exact y5, by rw [y32]; exact y6, by rw [y33]; exact y7⟩
                        · rw [← hfb]; exact (List.pairwise_cons.mp hpw).2
                        · rw [← hfb]; exact hQ'
                      · have y32 := j1 32 (by simp; omega)
                        have y33 := j1 33 (by simp; omega)
                        refine hQ' M4 (fr1.tr (z1.tr (fun n h1 h2 h3 h4 => j1 n (by simp; omega)))) ?_
                        rw [j2 (fun _ => true)]
                        obtain ⟨y1, y2, y3, y4, y5, y6, y7⟩ := e2
                        exact ⟨by rw [y32]; exact y1, by rw [y32]; exact y2, by rw [y32]; exact y3, by rw [y32]; exact y4, by rw [y32]; exact y5, by rw [y32]; exact y6, by rw [y33]; exact y7⟩
                  | succ rr ihr =>
                    intro s M2 hs f1 f2
                    have hb6 := hbd6 s (by omega)
                    have x39 : M2 (39 + dep) s = lf s := by rw [f1 (39 + dep) (by omega), w39, r1 (39 + dep) (by omega)]; exact hlf s (by omega) (by omega)
                    have x65 : M2 (65 + dep) s = rwF od p K s := by rw [f1 (65 + dep) (by omega)]; exact hrw s (by omega)
                    have Bk := B_X8_branch_40 (d := d + 2 * n + 4) (k := 0) (M := M2) (Q := mAft (d + 2 * n + 5 + 1) k qX8_meet 110 [mR 16 10 32, mR 11 5 12, mI dep, mI r] [] Q) (x2 := dep) (x3 := r) (a4 := 65 + dep) (x5 := tn) (x6 := s)
                    rw [x39, x65] at Bk
                    have hlb := hlf24 s (by omega)
                    refine Bk ⟨fun c8 => by omega, fun c8 => ⟨by omega, by omega, by omega, by omega, by omega, by omega, by omega, by omega, ihr (s + 1) _ (by omega) (fun n hn => by rw [up_row hn]; exact f1 n hn) (fun i h1 h2 => ?_)⟩⟩
                    by_cases e : i = s
                    · rw [e, up_s]; rfl
                    · rw [up_fld e]; exact f2 i h1 (by omega)
                exact cpy 6 0 M' (by omega) (fun n _ => rfl) (fun i h1 h2 => by omega)
          refine B_X8_branch_0 ⟨by omega, by omega, c_X5_begin (by omega) m13 m15 rfl hG1 (by rw [m12]; exact h120) (by rw [m12]; exact h121) (fun M2 q1 q2 => B_X8_branch_20 ?_)⟩
          rw [ezl] at q2
          refine loop (B0.length + 1) B0 (by omega) _ M2 0 st1 _ (fun n h1 h2 h3 h4 => q1 n (by simp; omega)) q2 (mx_gr hzl hG.1.1) hb3 hb2 (by omega) ?_ O1 s6 (by omega) hpair hQ
          obtain ⟨y1, y2, y3, y4, y5, y6, y7⟩ := T1
          have e32 := q1 32 (by simp; omega)
          have e33 := q1 33 (by simp; omega)
          exact ⟨by rw [e32]; exact y1, by rw [e32]; exact y2, by rw [e32]; exact y3, by rw [e32]; exact y4, by rw [e32]; exact y5, by rw [e32]; exact y6, by rw [e33]; exact y7⟩
      · have hr1 : flF od lf K 0 = -1 := by
          rcases flF_spec (od := od) (lf := lf) (r := K) (i := 0) (fun j h1 h2 => (hG.o (by omega)).1) with ⟨h1, _⟩ | ⟨j, h1, h2, h3, h4, h5⟩
          · exact h1
          · have := hG.o (i := j) (by omega)
            omega
        rw [if_pos hr1] at hQ
        refine c_X8_finish (path := path) T1 (by omega) (by omega) (fun b s h1 h2 h3 => by rw [r1 _ (by omega)]; exact hpath b s h1 h2 h3) (fun M' q1 q2 => B_X8_meet_68 (B_X8_meet_110 (hQ M' (fun n h1 h2 h3 h4 => by rw [q1 n h1 h2]; exact r1 n h1) ?_)))
        rw [s1] at q2
        rw [← hst1] at q2 ⊢
        exact q2
    · rw [if_pos (by omega)] at hQ
      refine hQ _ (fun n h1 h2 h3 h4 => up_row h1) ⟨by rw [up_fld (by decide)]; exact t1, by rw [up_fld (by decide)]; exact t2, by rw [up_fld (by decide)]; exact t3, by rw [up_fld (by decide)]; exact t4, by rw [up_fld (by decide)]; exact t5, by rw [up_s], fun i h1 h2 => by rw [up_row (by decide)]; exact t7 i h1 h2⟩
