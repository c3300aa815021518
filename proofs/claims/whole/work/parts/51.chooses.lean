/-! the model's tree: the next branch -/
theorem pats_rw {c : Int} {K : Nat} {sz lf od : Int → Int} (hG : GLok c K sz lf od) (hf : flF od lf K 0 ≠ -1) : (pats (zl K sz lf od) c).Pairwise (fun p q => ¬ 0 < rwF od p K (flF od lf K 0) → ¬ 0 < rwF od q K (flF od lf K 0)) := by
  rcases flF_spec (od := od) (lf := lf) (r := K) (i := 0) (fun j h1 h2 => (hG.o (by omega)).1) with ⟨h1, _⟩ | ⟨j, h1, h2, h3, h4, h5⟩
  · exact (hf h1).elim
  · have hp := pats_dn (l := zl K sz lf od) (fr := c) j (hG.zOK (r := K) (i := 0) (by omega)) hG.1.1 (fun i hi x hx => by
      have e : (zl K sz lf od)[i]? = some (zmF (fun j => sz (od j)) (fun j => lf (od j)) ((0 + i : Nat) : Int)) := lst_idx (by omega)
      rw [e] at hx
      injection hx with hx
      subst hx
      have h6 := h5 i (by omega) hi
      have h7 := hG.m (i := i) (by omega)
      show lf (od ((0 + i : Nat) : Int)) = 0
      rw [show 0 + i = i by omega]; omega)
    refine hp.imp (fun {p q} h => ?_)
    rw [h3, rwF_at hG.2.2.2.2.2.2.1 j (by omega), rwF_at hG.2.2.2.2.2.2.1 j (by omega)]
    unfold dn at h
    omega
/-- the branches of a list of patterns -/
def ffL (l : zL) (c : Int) (K : Nat) (od : Int → Int) (r : Int) (L : List (List Int)) : List (List Int) := (L.filter (fun q => mx l c q && true)).filter (fun p => decide (0 < rwF od p K r))
theorem ffL_no {l : zL} {c r : Int} {K : Nat} {od : Int → Int} : ∀ {L : List (List Int)}, (∀ q, q ∈ L → ¬ 0 < rwF od q K r) → ffL l c K od r L = [] := fun {L} h => by
  unfold ffL
  rw [List.filter_eq_nil_iff]
  intro q hq
  have := h q (List.mem_filter.mp hq).1
  simp; omega
theorem ffL_skip {l : zL} {c r : Int} {K : Nat} {od : Int → Int} {q : List Int} {L : List (List Int)} (h : mx l c q = false) : ffL l c K od r (q :: L) = ffL l c K od r L := by
  unfold ffL; rw [List.filter_cons_of_neg (by simp [h])]
theorem ffL_hit {l : zL} {c r : Int} {K : Nat} {od : Int → Int} {q : List Int} {L : List (List Int)} (h : mx l c q = true) (h2 : 0 < rwF od q K r) : ffL l c K od r (q :: L) = q :: ffL l c K od r L := by
  unfold ffL
  rw [flt_hd (P := fun q => mx l c q && true) (by show (mx l c q && true) = true; rw [h]; rfl)]
  exact flt_hd (P := fun p => decide (0 < rwF od p K r)) (decide_eq_true h2)
set_option maxHeartbeats 2000000 in
theorem l_X10_chooses {d k dep : Nat} {Q : mRes → mM → Prop} {c r : Int} {K : Nat} {sz lf od : Int → Int} (hd : dep ≤ 24) (hG : GLok c K sz lf od) (hr : 0 ≤ r ∧ r < 6) : ∀ (D : List (List Int)) (q : List Int) (M : mM), M 112 33 = c → M 112 7 = K → M 122 = sz → M 123 = od → (∀ s, M 127 (6 * (dep : Int) + s) = lf s) → ptR K od q (fun s => M 128 (6 * (dep : Int) + s)) → (∀ p, p ∈ q :: D → isP (zl K sz lf od) c p) → Ch (nx (zl K sz lf od) c) (q :: D) → (q :: D).Pairwise (fun p q => ¬ 0 < rwF od p K r → ¬ 0 < rwF od q K r) →
    (∀ M' q' D', frP (6 * dep) M M' → ptR K od q' (fun s => M' 128 (6 * (dep : Int) + s)) → (∀ p, p ∈ q' :: D' → isP (zl K sz lf od) c p) → Ch (nx (zl K sz lf od) c) (q' :: D') → (q' :: D').Pairwise (fun p q => ¬ 0 < rwF od p K r → ¬ 0 < rwF od q K r) → ffL (zl K sz lf od) c K od r (q :: D) = q' :: ffL (zl K sz lf od) c K od r D' → Q (.inl (some (mI 1))) M') →
    (∀ M', frP (6 * dep) M M' → ffL (zl K sz lf od) c K od r (q :: D) = [] → Q (.inl (some (mI 0))) M') →
    V (d + 3) k qX10_chooses 61 [mR 18 58 112, mI dep, mI (6 * dep), mI r, mI 1] [] M Q := by
  intro D
  induction D with
  | nil =>
    intro q M h33 hK h122 h123 hlf g2 g4 g5 g6 k1 k0
    obtain ⟨rn, hrn⟩ : ∃ rn : Nat, r = rn := ⟨r.toNat, by omega⟩
    have hrr : M 128 (6 * dep + r) = rwF od q K r := by rw [hrn]; exact ptR_rw hG g2 rn (by omega)
    have hPq := g4 q List.mem_cons_self
    have Bk := B_X10_chooses_61 (d := d + 2) (k := k) (M := M) (Q := Q) (x1 := dep) (x2 := 6 * dep) (x3 := r) (x4 := 1)
    have B2 := B_X10_chooses_111 (d := d + 2) (k := k) (M := M) (Q := Q) (x1 := dep) (x2 := 6 * dep) (x3 := r) (x4 := 1)
    rw [hrr, h33] at Bk
    rw [hrr] at B2
    refine Bk ⟨fun z => by omega, fun _ => ⟨by omega, by omega, fun c2 => B2 ⟨fun z => by omega, fun _ => ⟨by omega, by omega, fun _ => k0 M frP.rf (ffL_no (fun p hp => ?_)), fun z => by omega⟩⟩, fun c2 => c_X10_isMaximal (by omega) h122 hlf hG hK g2 hPq (fun hm => ?_) (fun hm => ?_)⟩⟩
    · rw [List.mem_singleton] at hp; subst hp; omega
    · refine B_X10_chooses_90 ⟨fun _ => B2 ⟨fun z => by omega, fun _ => ⟨by omega, by omega, fun z => by omega, fun _ => k1 M q [] frP.rf g2 g4 g5 g6 (ffL_hit hm (by omega))⟩⟩, fun z => by omega⟩
    · have B3 := B_X10_chooses_90 (d := d + 2) (k := k) (M := M) (Q := Q) (x1 := dep) (x2 := 6 * dep) (x3 := r) (x4 := 1) (sx0 := 0)
      rw [h33] at B3
      refine B3 ⟨fun z => (z rfl).elim, fun _ => c_X10_steps (by decide) (by omega) h122 h123 hlf hG hK g2 hPq g5 (fun M' b B' _ _ z => by cases z) (fun _ => B_X10_chooses_106 (B_X10_chooses_61 ⟨fun _ => B_X10_chooses_111 ⟨fun _ => k0 M frP.rf (by rw [ffL_skip hm]; rfl), fun z => (z rfl).elim⟩, fun z => (z rfl).elim⟩))⟩
  | cons b D ih =>
    intro q M h33 hK h122 h123 hlf g2 g4 g5 g6 k1 k0
    obtain ⟨rn, hrn⟩ : ∃ rn : Nat, r = rn := ⟨r.toNat, by omega⟩
    have hrr : M 128 (6 * dep + r) = rwF od q K r := by rw [hrn]; exact ptR_rw hG g2 rn (by omega)
    have hPq := g4 q List.mem_cons_self
    have Bk := B_X10_chooses_61 (d := d + 2) (k := k) (M := M) (Q := Q) (x1 := dep) (x2 := 6 * dep) (x3 := r) (x4 := 1)
    have B2 := B_X10_chooses_111 (d := d + 2) (k := k) (M := M) (Q := Q) (x1 := dep) (x2 := 6 * dep) (x3 := r) (x4 := 1)
    rw [hrr, h33] at Bk
    rw [hrr] at B2
    refine Bk ⟨fun z => by omega, fun _ => ⟨by omega, by omega, fun c2 => B2 ⟨fun z => by omega, fun _ => ⟨by omega, by omega, fun _ => k0 M frP.rf (ffL_no (fun p hp => ?_)), fun z => by omega⟩⟩, fun c2 => c_X10_isMaximal (by omega) h122 hlf hG hK g2 hPq (fun hm => ?_) (fun hm => ?_)⟩⟩
    · cases hp with
      | head => omega
      | tail _ hp => exact (List.pairwise_cons.mp g6).1 p hp (by omega)
    · refine B_X10_chooses_90 ⟨fun _ => B2 ⟨fun z => by omega, fun _ => ⟨by omega, by omega, fun z => by omega, fun _ => k1 M q (b :: D) frP.rf g2 g4 g5 g6 (ffL_hit hm (by omega))⟩⟩, fun z => by omega⟩
    · have B3 := B_X10_chooses_90 (d := d + 2) (k := k) (M := M) (Q := Q) (x1 := dep) (x2 := 6 * dep) (x3 := r) (x4 := 1) (sx0 := 0)
      rw [h33] at B3
      rw [ffL_skip hm] at k1 k0
      refine B3 ⟨fun z => (z rfl).elim, fun _ => c_X10_steps (by decide) (by omega) h122 h123 hlf hG hK g2 hPq g5 (fun M' b' B' f1 f2 z => B_X10_chooses_106 ?_) (fun z => by cases z)⟩
      injection z with z1 z2
      subst z1; subst z2
      exact ih b M' (by rw [f1.1 112 (by decide)]; exact h33) (by rw [f1.1 112 (by decide)]; exact hK) (by rw [f1.1 122 (by decide)]; exact h122) (by rw [f1.1 123 (by decide)]; exact h123) (fun s => by rw [f1.1 127 (by decide)]; exact hlf s) f2 (fun p hp => g4 p (List.mem_cons_of_mem _ hp)) g5.2 (List.pairwise_cons.mp g6).2 (fun M2 q' D' e1 e2 e3 e4 e5 e6 => k1 M2 q' D' (f1.tr e1) e2 e3 e4 e5 e6) (fun M2 e1 e2 => k0 M2 (f1.tr e1) e2)
