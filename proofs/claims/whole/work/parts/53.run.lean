/-! the model's tree: its levels -/
def frR (dep : Nat) (M M' : mM) : Prop := (∀ n, n ≠ 112 → n ≠ 127 → n ≠ 128 → n ≠ 129 → n ≠ 130 → M' n = M n) ∧ (∀ i, i ∉ ([40, 44, 45, 46, 47, 48, 49] : List Int) → M' 112 i = M 112 i) ∧ (∀ i : Int, i < 6 * (dep : Int) + 6 → M' 127 i = M 127 i) ∧ (∀ i : Int, i < 6 * (dep : Int) → M' 128 i = M 128 i) ∧ ∀ i : Int, i < dep → M' 130 i = M 130 i
theorem frR.tr {dep : Nat} {M M' M'' : mM} (h : frR dep M M') (h' : frR dep M' M'') : frR dep M M'' :=
  ⟨fun n a b c d e => (h'.1 n a b c d e).trans (h.1 n a b c d e), fun i hi => (h'.2.1 i hi).trans (h.2.1 i hi), fun i hi => (h'.2.2.1 i hi).trans (h.2.2.1 i hi), fun i hi => (h'.2.2.2.1 i hi).trans (h.2.2.2.1 i hi), fun i hi => (h'.2.2.2.2 i hi).trans (h.2.2.2.2 i hi)⟩
theorem frR.w {dep : Nat} {M M' : mM} (h : frR (dep + 1) M M') : frR dep M M' := ⟨h.1, h.2.1, fun i hi => h.2.2.1 i (by omega), fun i hi => h.2.2.2.1 i (by omega), fun i hi => h.2.2.2.2 i (by omega)⟩
theorem frC.R {dep : Nat} {M M' : mM} (h : frC dep M M') : frR dep M M' := ⟨fun n _ _ a _ b => h.1 n a b, fun i _ => by rw [h.1 112 (by decide) (by decide)], fun i _ => by rw [h.1 127 (by decide) (by decide)], fun i hi => h.2.1 i (by omega), fun i hi => h.2.2 i (by omega)⟩
theorem frM.R {dep : Nat} {M M' : mM} (h : frM [129] [40, 44, 45, 46, 47, 48, 49] M M') : frR dep M M' := ⟨fun n a _ _ b _ => h.1 n (by simp; omega) a, fun i hi => h.2 i hi, fun i _ => by rw [h.1 127 (by simp) (by decide)], fun i _ => by rw [h.1 128 (by simp) (by decide)], fun i _ => by rw [h.1 130 (by simp) (by decide)]⟩
theorem ptR_cg {c : Int} {K : Nat} {sz mn od f g : Int → Int} {p : List Int} (hG : GLok c K sz mn od) (h : ∀ s : Int, 0 ≤ s → s < 6 → g s = f s) (hR : ptR K od p f) : ptR K od p g := by
  have hK := hG.2.1
  refine ⟨?_, fun s h1 h2 => by rw [h s (by omega) (by omega)]; exact hR.2 s h1 h2⟩
  rw [← hR.1]
  exact lst_congr (fun j h1 h2 => by have := hG.o (i := j) (by omega); exact h _ (by omega) (by omega))
theorem lvl_cg {c : Int} {K : Nat} {sz od lf : Int → Int} {dep : Nat} {M M' : mM} {rem : List (List Int)} (hG : GLok c K sz lf od) (h1 : ∀ s : Int, 0 ≤ s → s < 6 → M' 128 (6 * (dep : Int) + s) = M 128 (6 * (dep : Int) + s)) (h2 : M' 130 dep = M 130 dep) (h : lvl c K sz od lf dep M rem) : lvl c K sz od lf dep M' rem := by
  rcases h with ⟨a, b⟩ | ⟨a, q, D, l1, l2, l3, l4, l5⟩
  · exact Or.inl ⟨by rw [h2]; exact a, b⟩
  · exact Or.inr ⟨by rw [h2]; exact a, q, D, ptR_cg hG h1 l1, l2, l3, l4, l5⟩
theorem lfN_bd {c : Int} {K : Nat} {sz od lf f : Int → Int} {p : List Int} (hc1 : 1 ≤ c) (hG : GLok c K sz lf od) (hR : ptR K od p f) (hP : isP (zl K sz lf od) c p) (hb : ∀ s : Nat, s < 6 → 0 ≤ lf s ∧ lf s ≤ 24) : ∀ s : Nat, s < 6 → (0 ≤ rwF od p K s ∧ rwF od p K s ≤ 24) ∧ 0 ≤ lfN od lf K p s ∧ lfN od lf K p s ≤ 24 := fun s hs => by
  have hrw := ptR_rw hG hR s hs
  have h0 := hb s hs
  by_cases e : s < K
  · have h1 := ptR_bd hG hR hP s e
    unfold lfN
    rw [← hrw]; omega
  · have h1 := hR.2 s (by omega) hs
    unfold lfN
    rw [← hrw, h1]; omega
theorem trM_cg {M M' : mM} {st : tS} (h1 : ∀ i : Int, 44 ≤ i → i ≤ 49 → M' 112 i = M 112 i) (h2 : M' 129 = M 129) (h : trM M st) : trM M' st :=
  ⟨by rw [h1 44 (by decide) (by decide)]; exact h.1, by rw [h1 45 (by decide) (by decide)]; exact h.2.1, by rw [h1 46 (by decide) (by decide)]; exact h.2.2.1, by rw [h1 47 (by decide) (by decide)]; exact h.2.2.2.1, by rw [h1 48 (by decide) (by decide)]; exact h.2.2.2.2.1, by rw [h1 49 (by decide) (by decide)]; exact h.2.2.2.2.2.1, by rw [h2]; exact h.2.2.2.2.2.2⟩
set_option maxHeartbeats 4000000 in
theorem l_X10_proves {c : Int} {K : Nat} {sz od : Int → Int} {d k : Nat} {Q : mRes → mM → Prop} (hc1 : 1 ≤ c) : ∀ (n dep : Nat) (lf path : Int → Int), dep + n + 1 = 24 → 1 ≤ n → GLok c K sz lf od → (∀ s : Nat, s < 6 → 0 ≤ lf s ∧ lf s ≤ 24) → flF od lf K 0 ≠ -1 → ∀ (rem : List (List Int)) (st : tS) (M : mM) (u2 u3 : mV), M 112 33 = c → M 112 7 = K → M 122 = sz → M 123 = od → (∀ s : Int, 0 ≤ s → s < 6 → M 127 (6 * (dep : Int) + s) = lf s) → (∀ i : Int, 0 ≤ i → i < 6 * (dep : Int) → M 128 i = path i) → trM M st → tOK st → st.2.2.2.2.2.1 = 0 → lvl c K sz od lf dep M rem →
    (∀ M' u2 u3, frR dep M M' → trM M' (brT (fun p st => meetT c K sz od n (dep + 1) (lfN od lf K p) (pthN od path K dep p) st) rem st) → tOK (brT (fun p st => meetT c K sz od n (dep + 1) (lfN od lf K p) (pthN od path K dep p) st) rem st) → (brT (fun p st => meetT c K sz od n (dep + 1) (lfN od lf K p) (pthN od path K dep p) st) rem st).2.2.2.2.2.1 = 0 → V (d + 5) k qX10_proves 141 [mR 18 58 112, mI ((dep : Int) + (-1)), u2, u3] [] M' Q) →
    (∀ M', frR dep M M' → trM M' (brT (fun p st => meetT c K sz od n (dep + 1) (lfN od lf K p) (pthN od path K dep p) st) rem st) → (brT (fun p st => meetT c K sz od n (dep + 1) (lfN od lf K p) (pthN od path K dep p) st) rem st).2.2.2.2.2.1 ≠ 0 → Q (.inl (some (mI (M' 112 44)))) M') →
    V (d + 5) k qX10_proves 141 [mR 18 58 112, mI dep, u2, u3] [] M Q
  | 0, _, _, _, _, h, _, _, _ => by omega
  | n + 1, dep, lf, path, hdn, _, hG, hb, hfl => by
    have hK6 : K ≤ 6 := hG.2.1
    intro rem
    induction rem with
    | nil =>
      intro st M u2 u3 h33 hK h122 h123 hlf hpath hT hO hcut hL k0 k1
      have Bk := B_X10_proves_141 (d := d + 4) (k := k) (M := M) (Q := Q) (x1 := dep) (u2 := u2) (u3 := u3)
      rw [hT.2.2.2.2.2.1, hcut] at Bk
      refine Bk ⟨fun z => by omega, fun _ => ⟨fun z => (z rfl).elim, fun _ => c_X10_chooses (by omega) hG h33 hK h122 h123 hlf hfl hL (fun M' p rem' _ z => by cases z) (fun M' f1 _ => B_X10_proves_157 ⟨fun z => (z rfl).elim, fun _ => ⟨by omega, k0 M' _ _ f1.R ?_ hO hcut⟩⟩)⟩⟩
      exact trM_cg (fun i _ _ => by rw [f1.1 112 (by decide) (by decide)]) (f1.1 129 (by decide) (by decide)) hT
    | cons p rem ih =>
      intro st M u2 u3 h33 hK h122 h123 hlf hpath hT hO hcut hL k0 k1
      have eb : brT (fun p st => meetT c K sz od (n + 1) (dep + 1) (lfN od lf K p) (pthN od path K dep p) st) (p :: rem) st = if (meetT c K sz od (n + 1) (dep + 1) (lfN od lf K p) (pthN od path K dep p) st).2.2.2.2.2.1 = 0 then brT (fun p st => meetT c K sz od (n + 1) (dep + 1) (lfN od lf K p) (pthN od path K dep p) st) rem (meetT c K sz od (n + 1) (dep + 1) (lfN od lf K p) (pthN od path K dep p) st) else meetT c K sz od (n + 1) (dep + 1) (lfN od lf K p) (pthN od path K dep p) st := rfl
      rw [eb] at k0 k1
      clear eb
      have hmo := meetT_ok (c := c) (K := K) (sz := sz) (od := od) (n + 1) (dep + 1) (lfN od lf K p) (pthN od path K dep p) st (by omega) hO hcut
      have Bk := B_X10_proves_141 (d := d + 4) (k := k) (M := M) (Q := Q) (x1 := dep) (u2 := u2) (u3 := u3)
      rw [hT.2.2.2.2.2.1, hcut] at Bk
      refine Bk ⟨fun z => by omega, fun _ => ⟨fun z => (z rfl).elim, fun _ => c_X10_chooses (by omega) hG h33 hK h122 h123 hlf hfl hL (fun M1 p' rem' f1 z g2 g3 g4 => ?_) (fun M' f1 z => by cases z)⟩⟩
      injection z with z1 z2
      subst z1; subst z2
      have hbd := lfN_bd hc1 hG g2 g3 hb
      have hrw := ptR_rw hG g2
      have hG2 := hG.nxt g2 g3
      have T1 : trM M1 st := trM_cg (fun i _ _ => by rw [f1.1 112 (by decide) (by decide)]) (f1.1 129 (by decide) (by decide)) hT
      have a112 : M1 112 = M 112 := f1.1 112 (by decide) (by decide)
      have a127 : M1 127 = M 127 := f1.1 127 (by decide) (by decide)
      refine B_X10_proves_157 ⟨fun _ => ⟨by omega, ?_⟩, fun z => by omega⟩
      have cpy : ∀ (rr s : Nat) (M2 : mM), s + rr = 6 → (∀ n, n ≠ 127 → M2 n = M1 n) → (∀ i : Int, i < 6 * (dep : Int) + 6 → M2 127 i = M1 127 i) → (∀ i : Int, 0 ≤ i → i < s → M2 127 (6 * (dep : Int) + 6 + i) = lfN od lf K p i) → V (d + 5) k qX10_proves 173 [mR 18 58 112, mI dep, mI (6 * dep), mI s] [] M2 Q := by
        intro rr
        induction rr with
        | zero =>
          intro s M2 hs e1 e2 e3
          have fr2 : frR dep M M2 := f1.R.tr ⟨fun n _ a _ _ _ => e1 n a, fun i _ => by rw [e1 112 (by decide)], e2, fun i _ => by rw [e1 128 (by decide)], fun i _ => by rw [e1 130 (by decide)]⟩
          have T2 : trM M2 st := trM_cg (fun i _ _ => by rw [e1 112 (by decide)]) (e1 129 (by decide)) T1
          have b112 : M2 112 = M 112 := by rw [e1 112 (by decide), a112]
          -- back at this level, with the rest of its branches
          have back : ∀ (M3 : mM) (u2 u3 : mV), frR dep M M3 → (∀ s : Int, 0 ≤ s → s < 6 → M3 128 (6 * (dep : Int) + s) = M1 128 (6 * (dep : Int) + s)) → M3 130 dep = M1 130 dep → trM M3 (meetT c K sz od (n + 1) (dep + 1) (lfN od lf K p) (pthN od path K dep p) st) → (meetT c K sz od (n + 1) (dep + 1) (lfN od lf K p) (pthN od path K dep p) st).2.2.2.2.2.1 = 0 → V (d + 5) k qX10_proves 141 [mR 18 58 112, mI dep, u2, u3] [] M3 Q := by
            intro M3 v2 v3 j1 j2 j3 j4 j5
            rw [if_pos j5] at k0 k1
            exact ih _ M3 v2 v3 (by rw [j1.2.1 33 (by simp)]; exact h33) (by rw [j1.2.1 7 (by simp)]; exact hK) (by rw [j1.1 122 (by decide) (by decide) (by decide) (by decide) (by decide)]; exact h122) (by rw [j1.1 123 (by decide) (by decide) (by decide) (by decide) (by decide)]; exact h123) (fun s h1 h2 => by rw [j1.2.2.1 _ (by omega)]; exact hlf s h1 h2) (fun i h1 h2 => by rw [j1.2.2.2.1 i h2]; exact hpath i h1 h2) j4 hmo.1 j5 (lvl_cg hG j2 j3 g4) (fun M' v2 v3 q1 q2 q3 q4 => k0 M' v2 v3 (j1.tr q1) q2 q3 q4) (fun M' q1 q2 q3 => k1 M' (j1.tr q1) q2 q3)
          refine B_X10_proves_173 ⟨fun _ => ⟨by omega, ?_⟩, fun z => by omega⟩
          refine c_X10_meets (n := n) (dep := dep + 1) (lf := lfN od lf K p) (path := pthN od path K dep p) (st := st) hc1 (by omega) (by rw [b112]; exact h33) (by rw [b112]; exact hK) (by rw [e1 122 (by decide), f1.1 122 (by decide) (by decide)]; exact h122) (by rw [e1 123 (by decide), f1.1 123 (by decide) (by decide)]; exact h123) (fun i h1 h2 => by rw [show 6 * ((dep + 1 : Nat) : Int) + i = 6 * (dep : Int) + 6 + i by omega]; exact e3 i h1 (by omega)) hG2 (fun i h1 h2 => ?_) T2 hO hcut (fun M3 q1 q2 q3 => B_X10_proves_220 ⟨fun _ => ?_, fun z => (z rfl).elim⟩) (fun M3 q1 q2 q3 q4 q5 q6 q7 => B_X10_proves_220 ⟨fun z => by omega, fun _ => ⟨by omega, ?_⟩⟩)
          · rw [e1 128 (by decide)]
            unfold pthN
            by_cases e : 6 * (dep : Int) ≤ i
            · obtain ⟨i', hi'⟩ : ∃ i' : Nat, i - 6 * (dep : Int) = i' := ⟨(i - 6 * (dep : Int)).toNat, by omega⟩
              rw [if_pos e, hi', ← hrw i' (by omega)]
              show M1 128 i = M1 128 (6 * (dep : Int) + i')
              congr 1; omega
            · rw [if_neg e, f1.2.1 i (by omega)]; exact hpath i h1 (by omega)
          · have fr3 : frR dep M M3 := fr2.tr q1.R
            by_cases hcu : (meetT c K sz od (n + 1) (dep + 1) (lfN od lf K p) (pthN od path K dep p) st).2.2.2.2.2.1 = 0
            · exact back M3 _ _ fr3 (fun s h1 h2 => by rw [q1.1 128 (by simp) (by decide), e1 128 (by decide)]) (by rw [q1.1 130 (by simp) (by decide), e1 130 (by decide)]) q2 hcu
            · rw [if_neg hcu] at k1
              have Bk := B_X10_proves_141 (d := d + 4) (k := k) (M := M3) (Q := Q) (x1 := dep) (u2 := mI (6 * (dep : Int))) (u3 := mI (s : Int))
              rw [q2.2.2.2.2.2.1] at Bk
              exact Bk ⟨fun z => by omega, fun _ => ⟨fun _ => k1 M3 fr3 q2 hcu, fun z => (hcu z).elim⟩⟩
          · have hb1 := hG2.b1 hc1 q6
            have hst := hO.1
            have hq7 : ¬ (st.1 - ((dep : Int) + 1) ≤ boundF c K sz (lfN od lf K p)) := q7
            have hn1 : 1 ≤ n := by omega
            have a6 := hO
            obtain ⟨y1, y2, y3, y4, y5, y6⟩ := a6
            have O1 : tOK (st.1, st.2.1 + 1, st.2.2.1, st.2.2.2.1, max st.2.2.2.2.1 ((dep + 1 : Nat) : Int), st.2.2.2.2.2.1, st.2.2.2.2.2.2) := by
              refine ⟨⟨?_, ?_⟩, ⟨?_, ?_⟩, ⟨?_, ?_⟩, ⟨?_, ?_⟩, ⟨?_, ?_⟩, y6⟩ <;> simp only [] <;> omega
            have eT : meetT c K sz od (n + 1) (dep + 1) (lfN od lf K p) (pthN od path K dep p) st = brT (fun p' st => meetT c K sz od n (dep + 1 + 1) (lfN od (lfN od lf K p) K p') (pthN od (pthN od path K dep p) K (dep + 1) p') st) (brL c K sz od (lfN od lf K p)) (st.1, st.2.1 + 1, st.2.2.1, st.2.2.2.1, max st.2.2.2.2.1 ((dep + 1 : Nat) : Int), st.2.2.2.2.2.1, st.2.2.2.2.2.2) := by
              show (if 60 ≤ st.2.1 then _ else if flF od (lfN od lf K p) K 0 = -1 then _ else if st.1 - ((dep + 1 : Nat) : Int) ≤ boundF c K sz (lfN od lf K p) then _ else _) = _
              rw [if_neg q5, if_neg q6, if_neg q7]
            have fr3 : frR dep M M3 := fr2.tr ⟨fun n a _ _ b c => q1.1 n (by simp; omega) a, fun i hi => q1.2 i hi, fun i _ => by rw [q1.1 127 (by simp) (by decide)], fun i _ => by rw [q1.1 128 (by simp) (by decide)], fun i hi => q4 i (by omega)⟩
            have m128 : M3 128 = M1 128 := by rw [q1.1 128 (by simp) (by decide), e1 128 (by decide)]
            refine l_X10_proves hc1 n (dep + 1) (lfN od lf K p) (pthN od path K dep p) (by omega) hn1 hG2 (fun s hs => (hbd s hs).2) q6 (brL c K sz od (lfN od lf K p)) _ M3 _ _ (by rw [fr3.2.1 33 (by simp)]; exact h33) (by rw [fr3.2.1 7 (by simp)]; exact hK) (by rw [fr3.1 122 (by decide) (by decide) (by decide) (by decide) (by decide)]; exact h122) (by rw [fr3.1 123 (by decide) (by decide) (by decide) (by decide) (by decide)]; exact h123) (fun i h1 h2 => by rw [q1.1 127 (by simp) (by decide), show 6 * ((dep + 1 : Nat) : Int) + i = 6 * (dep : Int) + 6 + i by omega]; exact e3 i h1 (by omega)) (fun i h1 h2 => ?_) q2 O1 hcut (Or.inl ⟨q3, rfl⟩) (fun M4 v2 v3 w1 w2 w3 w4 => ?_) (fun M4 w1 w2 w3 => ?_)
            · rw [m128]
              unfold pthN
              by_cases e : 6 * (dep : Int) ≤ i
              · obtain ⟨i', hi'⟩ : ∃ i' : Nat, i - 6 * (dep : Int) = i' := ⟨(i - 6 * (dep : Int)).toNat, by omega⟩
                rw [if_pos e, hi', ← hrw i' (by omega)]
                show M1 128 i = M1 128 (6 * (dep : Int) + i')
                congr 1; omega
              · rw [if_neg e, f1.2.1 i (by omega)]; exact hpath i h1 (by omega)
            · rw [← eT] at w2 w4
              rw [show ((dep + 1 : Nat) : Int) + (-1) = dep by omega]
              exact back M4 v2 v3 (fr3.tr w1.w) (fun s h1 h2 => by rw [w1.2.2.2.1 _ (by omega), m128]) (by rw [w1.2.2.2.2 dep (by omega), q4 dep (by omega), e1 130 (by decide)]) w2 w4
            · rw [← eT] at w2 w3
              rw [if_neg w3] at k1
              exact k1 M4 (fr3.tr w1.w) w2 w3
        | succ rr ihr =>
          intro s M2 hs e1 e2 e3
          have h1 := hbd s (by omega)
          have h2 := hb s (by omega)
          have x127 : M2 127 (6 * (dep : Int) + s) = lf s := by rw [e2 _ (by omega), a127]; exact hlf s (by omega) (by omega)
          have x128 : M2 128 (6 * (dep : Int) + s) = rwF od p K s := by rw [e1 128 (by decide)]; exact hrw s (by omega)
          have Bk := B_X10_proves_173 (d := d + 4) (k := k) (M := M2) (Q := Q) (x1 := dep) (x2 := 6 * dep) (x3 := s)
          rw [x127, x128] at Bk
          refine Bk ⟨fun z => by omega, fun _ => ⟨by omega, by omega, by omega, by omega, by omega, by omega, by omega, by omega, by omega, ihr (s + 1) _ (by omega) (fun n hn => by rw [up_row hn]; exact e1 n hn) (fun i hi => by rw [up_fld (by omega)]; exact e2 i hi) (fun i h3 h4 => ?_)⟩⟩
          by_cases e : i = s
          · rw [e, up_s]; rfl
          · rw [up_fld (by omega)]; exact e3 i h3 (by omega)
      exact cpy 6 0 M1 (by omega) (fun n _ => rfl) (fun i _ => rfl) (fun i h1 h2 => by omega)
