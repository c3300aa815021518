/-! the model's tree: chooses -/
/-- where a level stands: the branches that are still to be met -/
def lvl (c : Int) (K : Nat) (sz od lf : Int → Int) (dep : Nat) (M : mM) (rem : List (List Int)) : Prop :=
  (M 130 dep = 0 ∧ rem = brL c K sz od lf) ∨ (M 130 dep ≠ 0 ∧ ∃ q D, ptR K od q (fun s => M 128 (6 * (dep : Int) + s)) ∧ (∀ p, p ∈ q :: D → isP (zl K sz lf od) c p) ∧ Ch (nx (zl K sz lf od) c) (q :: D) ∧ (q :: D).Pairwise (fun p q => ¬ 0 < rwF od p K (flF od lf K 0) → ¬ 0 < rwF od q K (flF od lf K 0)) ∧ rem = ffL (zl K sz lf od) c K od (flF od lf K 0) D)
def frC (dep : Nat) (M M' : mM) : Prop := (∀ n, n ≠ 128 → n ≠ 130 → M' n = M n) ∧ (∀ i : Int, ¬ (6 * (dep : Int) ≤ i ∧ i < 6 * (dep : Int) + 6) → M' 128 i = M 128 i) ∧ ∀ i : Int, i ≠ dep → M' 130 i = M 130 i
theorem brL_ff {c : Int} {K : Nat} {sz od lf : Int → Int} : brL c K sz od lf = ffL (zl K sz lf od) c K od (flF od lf K 0) (pats (zl K sz lf od) c) := rfl
theorem frP_C {dep : Nat} {M M' : mM} {v : Int} (h : frP (6 * (dep : Int)) (mUp M 130 dep v) M') : frC dep M M' := ⟨fun n h1 h2 => by rw [h.1 n h1, up_row h2], fun i hi => by rw [h.2 i hi, up_row (by decide)], fun i hi => by rw [h.1 130 (by decide), up_fld hi]⟩
theorem frP_C2 {dep : Nat} {M M1 M' : mM} {v : Int} (h0 : frP (6 * (dep : Int)) M M1) (h : frP (6 * (dep : Int)) (mUp M1 130 dep v) M') : frC dep M M' := ⟨fun n h1 h2 => by rw [h.1 n h1, up_row h2, h0.1 n h1], fun i hi => by rw [h.2 i hi, up_row (by decide), h0.2 i hi], fun i hi => by rw [h.1 130 (by decide), up_fld hi, h0.1 130 (by decide)]⟩
set_option maxHeartbeats 2000000 in
theorem c_X10_chooses {d k dep : Nat} {M : mM} {Q : mRes → mM → Prop} {c : Int} {K : Nat} {sz lf od : Int → Int} {rem : List (List Int)} (hd : dep ≤ 24) (hG : GLok c K sz lf od) (h33 : M 112 33 = c) (hK : M 112 7 = K) (h122 : M 122 = sz) (h123 : M 123 = od) (hlf : ∀ s : Int, 0 ≤ s → s < 6 → M 127 (6 * (dep : Int) + s) = lf s) (hf : flF od lf K 0 ≠ -1) (hL : lvl c K sz od lf dep M rem)
    (k1 : ∀ M' p rem', frC dep M M' → rem = p :: rem' → ptR K od p (fun s => M' 128 (6 * (dep : Int) + s)) → isP (zl K sz lf od) c p → lvl c K sz od lf dep M' rem' → Q (.inl (some (mI 1))) M')
    (k0 : ∀ M', frC dep M M' → rem = [] → Q (.inl (some (mI 0))) M') : V (d + 4) k qX10_chooses 0 [mR 18 58 112, mI dep, mE 0, mE 0, mE 0] [] M Q := by
  have hK6 : K ≤ 6 := hG.2.1
  have mlf : ∀ s : Nat, s < K → (fun s => M 127 (6 * (dep : Int) + s)) s = lf s := fun s hs => hlf s (by omega) (by omega)
  have hG' : GLok c K sz (fun s => M 127 (6 * (dep : Int) + s)) od := hG.cg mlf
  have ezl : zl K sz (fun s => M 127 (6 * (dep : Int) + s)) od = zl K sz lf od := zl_cg hG mlf
  have efl : flF od (fun s => M 127 (6 * (dep : Int) + s)) K 0 = flF od lf K 0 := flF_cg (fun j h1 h2 => hG.at (P := fun s => (fun s => M 127 (6 * (dep : Int) + s)) s = lf s) mlf (by omega))
  have hr6 : 0 ≤ flF od lf K 0 ∧ flF od lf K 0 < 6 := by
    rcases flF_spec (od := od) (lf := lf) (r := K) (i := 0) (fun j h1 h2 => (hG.o (by omega)).1) with ⟨h1, _⟩ | ⟨j, h1, h2, h3, h4, h5⟩
    · exact (hf h1).elim
    · have := hG.o (i := j) (by omega)
      omega
  have hpair := pats_rw hG hf
  have go : ∀ (M1 : mM) (q : List Int) (D : List (List Int)), frP (6 * (dep : Int)) M M1 → ptR K od q (fun s => M1 128 (6 * (dep : Int) + s)) → (∀ p, p ∈ q :: D → isP (zl K sz lf od) c p) → Ch (nx (zl K sz lf od) c) (q :: D) → (q :: D).Pairwise (fun p q => ¬ 0 < rwF od p K (flF od lf K 0) → ¬ 0 < rwF od q K (flF od lf K 0)) → rem = ffL (zl K sz lf od) c K od (flF od lf K 0) (q :: D) → V (d + 4) k qX10_chooses 54 [mR 18 58 112, mI dep, mI (6 * dep), mI (flF od lf K 0), mI 1] [] M1 Q := by
    intro M1 q D f1 f2 f3 f4 f5 f6
    refine B_X10_chooses_54 ⟨by omega, ?_⟩
    have L := l_X10_chooses (d := d + 1) (k := k) (dep := dep) (Q := Q) (c := c) (r := flF od lf K 0) (K := K) (sz := sz) (lf := fun s => M 127 (6 * (dep : Int) + s)) (od := od) hd hG' hr6 D q (mUp M1 130 dep 1)
    simp only [ezl] at L
    have n112 : mUp M1 130 dep 1 112 = M 112 := by rw [up_row (by decide), f1.1 112 (by decide)]
    refine L (by rw [n112]; exact h33) (by rw [n112]; exact hK) (by rw [up_row (by decide), f1.1 122 (by decide)]; exact h122) (by rw [up_row (by decide), f1.1 123 (by decide)]; exact h123) (fun s => by rw [up_row (by decide), f1.1 127 (by decide)]) (by rw [show (fun s => mUp M1 130 dep 1 128 (6 * (dep : Int) + s)) = (fun s => M1 128 (6 * (dep : Int) + s)) from funext fun s => by rw [up_row (by decide)]]; exact f2) f3 f4 f5 (fun M' q' D' e1 e2 e3 e4 e5 e6 => ?_) (fun M' e1 e2 => ?_)
    · refine k1 M' q' _ (frP_C2 f1 e1) (by rw [f6]; exact e6) e2 (e3 q' List.mem_cons_self) (Or.inr ⟨?_, q', D', e2, e3, e4, e5, rfl⟩)
      rw [e1.1 130 (by decide), up_s]; decide
    · exact k0 M' (frP_C2 f1 e1) (by rw [f6]; exact e2)
  refine B_X10_chooses_0 ⟨by omega, c_X10_firstLeft hK hK6 (by omega) (fun i hi => by rw [h123]; have := hG.o hi; omega) (fun r hr => ?_)⟩
  rw [h123, efl] at hr
  subst hr
  have Bk := B_X10_chooses_10 (d := d + 3) (k := k) (M := M) (Q := Q) (x1 := dep) (x2 := 6 * dep) (u3 := mE 0) (u4 := mE 0) (sx0 := flF od lf K 0)
  rw [h33] at Bk
  refine Bk ⟨by omega, fun c1 => ?_, fun c1 => ?_⟩
  · rcases hL with ⟨hl1, hl2⟩ | ⟨hl1, _⟩
    · obtain ⟨B0, hb1, hb2, hb3, hb4⟩ := hG.ps
      have Bg := @c_X10_begins (d + 1) 0 168 M (mAft (d + 3 + 1) k qX10_chooses 54 [mR 18 58 112, mI dep, mI (6 * dep), mI (flF od lf K 0), mI 1] [] Q) 127 (6 * dep) c K sz (fun s => M 127 (6 * (dep : Int) + s)) od (by decide) (by omega) h122 h123 (fun _ => rfl) hG' hK
      rw [ezl] at Bg
      refine Bg (fun M1 f1 f2 => ?_)
      rw [hb1] at hpair
      exact go M1 _ B0 f1 f2 hb3 hb2 hpair (by rw [hl2, brL_ff, hb1])
    · exact (hl1 c1).elim
  · rcases hL with ⟨hl1, _⟩ | ⟨hl1, q, D, l1, l2, l3, l4, l5⟩
    · exact (c1 hl1).elim
    · have St := @c_X10_steps (d + 1) 0 168 M (mAft (d + 3 + 1) k qX10_chooses 36 [mR 18 58 112, mI dep, mI (6 * dep), mI (flF od lf K 0), mI 1] [] Q) 127 (6 * dep) c K sz (fun s => M 127 (6 * (dep : Int) + s)) od q D (by decide) (by omega) h122 h123 (fun _ => rfl) hG' hK l1
      rw [ezl] at St
      refine St (l2 q List.mem_cons_self) l3 (fun M1 b B' f1 f2 f3 => B_X10_chooses_36 ?_) (fun f3 => B_X10_chooses_36 (B_X10_chooses_54 ⟨by omega, B_X10_chooses_61 ⟨fun _ => B_X10_chooses_111 ⟨fun _ => k0 _ ?_ ?_, fun z => (z rfl).elim⟩, fun z => (z rfl).elim⟩⟩))
      · subst f3
        exact go M1 b B' f1 f2 (fun p hp => l2 p (List.mem_cons_of_mem _ hp)) l3.2 (List.pairwise_cons.mp l4).2 l5
      · exact frP_C2 (frP.rf) frP.rf
      · rw [l5, f3]; rfl
