/-! patterns as the class steps them -/
/-- goods: a room, sizes, numbers, an order -/
def GLok (c : Int) (K : Nat) (sz mn od : Int → Int) : Prop := (0 ≤ c ∧ c ≤ 99) ∧ K ≤ 6 ∧ (∀ s : Nat, s < K → 1 ≤ sz s ∧ sz s ≤ 99) ∧ (∀ s : Nat, s < K → 0 ≤ mn s) ∧ sg mn K ≤ 24 ∧ (∀ i : Nat, i < K → 0 ≤ od i ∧ od i < K) ∧ (∀ i j : Nat, i < j → j < K → od i ≠ od j) ∧ (∀ s : Nat, s < K → ∃ i : Nat, i < K ∧ od i = s) ∧ (∀ g : Int → Int, sg (fun i => g (od i)) K = sg g K)
def zl (K : Nat) (sz mn od : Int → Int) : zL := lst (zmF (fun j => sz (od j)) (fun j => mn (od j))) K 0
theorem GLok.z {c : Int} {K : Nat} {sz mn od : Int → Int} (h : GLok c K sz mn od) {i : Nat} (hi : i < K) : 1 ≤ sz (od i) ∧ sz (od i) ≤ 99 := by
  have h1 := h.2.2.2.2.2.1 i hi
  obtain ⟨n, hn⟩ : ∃ n : Nat, od i = n := ⟨(od i).toNat, by omega⟩
  rw [hn]; exact h.2.2.1 n (by omega)
theorem GLok.m {c : Int} {K : Nat} {sz mn od : Int → Int} (h : GLok c K sz mn od) {i : Nat} (hi : i < K) : 0 ≤ mn (od i) := by
  have h1 := h.2.2.2.2.2.1 i hi
  obtain ⟨n, hn⟩ : ∃ n : Nat, od i = n := ⟨(od i).toNat, by omega⟩
  rw [hn]; exact h.2.2.2.1 n (by omega)
theorem GLok.o {c : Int} {K : Nat} {sz mn od : Int → Int} (h : GLok c K sz mn od) {i : Nat} (hi : i < K) : 0 ≤ od i ∧ od i < K := h.2.2.2.2.2.1 i hi
theorem GLok.n {c : Int} {K : Nat} {sz mn od : Int → Int} (h : GLok c K sz mn od) {i j : Nat} (hi : i < K) (hj : j < K) (hn : i ≠ j) : od i ≠ od j := by
  have h1 := h.2.2.2.2.2.2.1
  by_cases e : i < j
  · exact h1 i j e hj
  · exact fun z => h1 j i (by omega) hi z.symm
theorem GLok.zOK {c : Int} {K : Nat} {sz mn od : Int → Int} (h : GLok c K sz mn od) {r i : Nat} (hr : i + r ≤ K) : zOK (lst (zmF (fun j => sz (od j)) (fun j => mn (od j))) r i) :=
  lst_zOK (fun j h1 h2 => ⟨(h.z (i := j) (by omega)).1, h.m (by omega)⟩)
set_option maxHeartbeats 1000000 in
theorem c_X5_fillFrom {d k : Nat} {M : mM} {Q : mRes → mM → Prop} {a2 a3 c : Int} {K fm : Nat} {sz mn od : Int → Int} (ha : a3 ≠ 12 ∧ a3 ≠ 13 ∧ a3 ≠ 15 ∧ a3 ≠ a2) (h13 : M 13 = sz) (h15 : M 15 = od) (h2 : M a2 = mn) (hG : GLok c K sz mn od) (hc : M 12 0 = c) (hK : M 12 1 = K) (hf : fm ≤ K)
    (hp : ∀ j : Nat, j < fm → 0 ≤ M a3 (od j)) (hw : sg (fun j => M a3 (od j) * sz (od j)) fm ≤ c)
    (hQ : ∀ M', frN [a3] M M' → (∀ j : Nat, j < fm → M' a3 (od j) = M a3 (od j)) → (∀ s, (∀ j : Nat, j < K → od j ≠ s) → M' a3 s = M a3 s) → lst (fun j => M' a3 (od j)) (K - fm) fm = gr (lst (zmF (fun j => sz (od j)) (fun j => mn (od j))) (K - fm) fm) (c - sg (fun j => M a3 (od j) * sz (od j)) fm) → Q (.inl (some (mI (c - sg (fun j => M' a3 (od j) * sz (od j)) K)))) M') :
    V (d + 1) k qX5_fillFrom 0 [mR 11 5 12, mR 0 6 a2, mR 0 6 a3, mI fm, mE 0, mE 0, mE 0] [] M Q := by
  have hK6 : K ≤ 6 := hG.2.1
  have hc9 := hG.1
  have out : ∀ {M' : mM}, frN [a3] M M' → M' 12 0 = c ∧ M' 12 1 = K ∧ M' 13 = sz ∧ M' 15 = od ∧ M' a2 = mn := fun g => by
    have e := g 12 (by simp; omega)
    exact ⟨by rw [e]; exact hc, by rw [e]; exact hK, by rw [g 13 (by simp; omega)]; exact h13, by rw [g 15 (by simp; omega)]; exact h15, by rw [g a2 (by simp; omega)]; exact h2⟩
  have fil : ∀ (r i : Nat) (u : mV) (M' : mM), i + r = K → fm ≤ i → frN [a3] M M' → (∀ j : Nat, j < i → 0 ≤ M' a3 (od j)) → sg (fun j => M' a3 (od j) * sz (od j)) i ≤ c → 0 ≤ sg (fun j => M' a3 (od j) * sz (od j)) i →
      (∀ M'', frN [a3] M M'' → (∀ j : Nat, j < i → M'' a3 (od j) = M' a3 (od j)) → (∀ s, (∀ j : Nat, j < K → od j ≠ s) → M'' a3 s = M' a3 s) → lst (fun j => M'' a3 (od j)) r i = gr (lst (zmF (fun j => sz (od j)) (fun j => mn (od j))) r i) (c - sg (fun j => M' a3 (od j) * sz (od j)) i) → Q (.inl (some (mI (c - sg (fun j => M'' a3 (od j) * sz (od j)) K)))) M'') →
      V (d + 1) k qX5_fillFrom 9 [mR 11 5 12, mR 0 6 a2, mR 0 6 a3, mI fm, mI (c - sg (fun j => M' a3 (od j) * sz (od j)) i), mI i, u] [] M' Q := by
    intro r
    induction r with
    | zero =>
      intro i u M' hi hfi g1 g2 g3 g4 hQ'
      obtain ⟨o1, o2, o3, o4, o5⟩ := out g1
      have e : i = K := by omega
      subst e
      refine B_X5_fillFrom_9 ⟨fun c1 => hQ' M' g1 (fun _ _ => rfl) (fun _ _ => rfl) rfl, fun c1 => by omega⟩
    | succ r ih =>
      intro i u M' hi hfi g1 g2 g3 g4 hQ'
      obtain ⟨o1, o2, o3, o4, o5⟩ := out g1
      have hz := hG.z (i := i) (by omega)
      have hm := hG.m (i := i) (by omega)
      have ho := hG.o (i := i) (by omega)
      generalize hS : sg (fun j => M' a3 (od j) * sz (od j)) i = S at *
      have hv := vmax (z := sz (od i)) (m := mn (od i)) (fr := c - S) hz.1 hm (by omega)
      generalize hve : min (mn (od i)) ((c - S) / sz (od i)) = v at *
      have hv0 : 0 ≤ v * sz (od i) := Int.mul_nonneg hv.1 (by omega)
      have B := B_X5_fillFrom_9 (d := d) (k := k) (M := M') (Q := Q) (a2 := a2) (a3 := a3) (x3 := fm) (x4 := c - S) (x5 := i) (u6 := u)
      simp only [o2, o3, o4, o5] at B
      refine B ⟨fun c1 => by omega, fun c1 => ⟨by omega, fun c2 => by omega, fun c2 => ⟨by omega, by omega, c_X2_cut (by omega) (fun q hq => ?_)⟩⟩⟩
      rw [if_neg (by omega)] at hq
      subst hq
      refine B_X5_fillFrom_52 ⟨by omega, ?_⟩
      rw [hve]
      have B := B_X5_fillFrom_56 (d := d) (k := k) (M := mUp M' a3 (od i) v) (Q := Q) (a2 := a2) (a3 := a3) (x3 := fm) (x4 := c - S) (x5 := i) (x6 := od i)
      rw [up_s, up_row (show (13 : Int) ≠ a3 by omega), o3] at B
      have g1' : frN [a3] M (mUp M' a3 (od i) v) := g1.up (by simp)
      have e1 : ∀ j : Nat, j < K → j ≠ i → mUp M' a3 (od i) v a3 (od j) = M' a3 (od j) := fun j hj hj2 => up_fld (hG.n hj (by omega) hj2)
      have eS : sg (fun j => mUp M' a3 (od i) v a3 (od j) * sz (od j)) (i + 1) = S + v * sz (od i) := by
        show sg (fun j => mUp M' a3 (od i) v a3 (od j) * sz (od j)) i + mUp M' a3 (od i) v a3 (od i) * sz (od i) = _
        rw [up_s, ← hS, sg_congr (g := fun j => M' a3 (od j) * sz (od j)) (fun j hj => by
          show mUp M' a3 (od i) v a3 (od j) * sz (od j) = _
          rw [e1 j (by omega) (by omega)])]
      refine B ⟨by omega, by omega, by omega, by omega, by omega, ?_⟩
      have ih2 := ih (i + 1) (mI (od i)) _ (by omega) (by omega) g1' (fun j hj => ?_) (by rw [eS]; omega) (by rw [eS]; omega) (fun M'' q1 q2 q3 q4 => hQ' M'' q1 (fun j hj => ?_) (fun s hs => ?_) ?_)
      · rw [eS, show c - (S + v * sz (od i)) = c - S - v * sz (od i) by omega] at ih2
        exact ih2
      · by_cases e : j = i
        · subst e; rw [up_s]; exact hv.1
        · rw [e1 j (by omega) e]; exact g2 j (by omega)
      · rw [q2 j (by omega), e1 j (by omega) (by omega)]
      · rw [q3 s hs]; exact up_fld (fun z => hs i (by omega) z.symm)
      · show M'' a3 (od i) :: lst (fun j => M'' a3 (od j)) r (i + 1) = min (mn (od i)) ((c - S) / sz (od i)) :: gr _ (c - S - min (mn (od i)) ((c - S) / sz (od i)) * sz (od i))
        rw [q4, q2 i (by omega), up_s, hve, eS, show c - (S + v * sz (od i)) = c - S - v * sz (od i) by omega]
  have hnn : ∀ i : Nat, i ≤ fm → 0 ≤ sg (fun j => M a3 (od j) * sz (od j)) i := fun i hi => by
    have := sg_le (f := fun j => M a3 (od j) * sz (od j)) (n := 0) (m := i) (by omega) (fun j hj => Int.mul_nonneg (hp j (by omega)) (by have := hG.z (i := j) (by omega); omega))
    exact this
  have pre : ∀ (r i : Nat) (u : mV), i + r = fm → V (d + 1) k qX5_fillFrom 9 [mR 11 5 12, mR 0 6 a2, mR 0 6 a3, mI fm, mI (c - sg (fun j => M a3 (od j) * sz (od j)) i), mI i, u] [] M Q := by
    intro r
    induction r with
    | zero =>
      intro i u hi
      have e : i = fm := by omega
      subst e
      exact fil (K - i) i u M (by omega) (by omega) frN.rf hp hw (hnn i (by omega)) hQ
    | succ r ih =>
      intro i u hi
      have hz := hG.z (i := i) (by omega)
      have ho := hG.o (i := i) (by omega)
      have hle := sg_le (f := fun j => M a3 (od j) * sz (od j)) (n := i + 1) (m := fm) (by omega) (fun j hj => Int.mul_nonneg (hp j (by omega)) (by have := hG.z (i := j) (by omega); omega))
      have e : sg (fun j => M a3 (od j) * sz (od j)) (i + 1) = sg (fun j => M a3 (od j) * sz (od j)) i + M a3 (od i) * sz (od i) := rfl
      have h0 : 0 ≤ M a3 (od i) * sz (od i) := Int.mul_nonneg (hp i (by omega)) (by omega)
      have hn := hnn i (by omega)
      have ih := ih (i + 1) (mI (od i)) (by omega)
      rw [e, show c - (sg (fun j => M a3 (od j) * sz (od j)) i + M a3 (od i) * sz (od i)) = c - sg (fun j => M a3 (od j) * sz (od j)) i - M a3 (od i) * sz (od i) by omega] at ih
      have B := B_X5_fillFrom_9 (d := d) (k := k) (M := M) (Q := Q) (a2 := a2) (a3 := a3) (x3 := fm) (x4 := c - sg (fun j => M a3 (od j) * sz (od j)) i) (x5 := i) (u6 := u)
      simp only [hK, h13, h15, h2] at B
      refine B ⟨fun c1 => by omega, fun c1 => ⟨by omega, fun c2 => ?_, fun c2 => by omega⟩⟩
      have B := B_X5_fillFrom_56 (d := d) (k := k) (M := M) (Q := Q) (a2 := a2) (a3 := a3) (x3 := fm) (x4 := c - sg (fun j => M a3 (od j) * sz (od j)) i) (x5 := i) (x6 := od i)
      simp only [h13] at B
      exact B ⟨by omega, by omega, by omega, by omega, by omega, ih⟩
  have B := B_X5_fillFrom_0 (d := d) (k := k) (M := M) (Q := Q) (a2 := a2) (a3 := a3) (x4 := fm)
  rw [hc] at B
  have := pre fm 0 (mE 0) (by omega)
  rw [show c - sg (fun j => M a3 (od j) * sz (od j)) 0 = c by show c - 0 = c; omega] at this
  exact B this
theorem pw_lst {zz mm pp : Int → Int} : ∀ {r i : Nat}, pw (lst (zmF zz mm) r i) (lst pp r i) = sg (fun j => pp j * zz j) (i + r) - sg (fun j => pp j * zz j) i
  | 0, i => by show (0 : Int) = _; rw [show i + 0 = i by omega]; omega
  | r + 1, i => by
    show pp i * zz i + pw (lst (zmF zz mm) r (i + 1)) (lst pp r (i + 1)) = _
    rw [pw_lst, show i + 1 + r = i + (r + 1) by omega, show sg (fun j => pp j * zz j) (i + 1) = sg (fun j => pp j * zz j) i + pp i * zz i from rfl]
    omega
theorem mxA_lst {zz mm pp : Int → Int} {fre : Int} : ∀ {r i : Nat}, mxA (lst (zmF zz mm) r i) fre (lst pp r i) = true ↔ ∀ j : Nat, i ≤ j → j < i + r → ¬ (pp j < mm j ∧ zz j ≤ fre)
  | 0, i => ⟨fun _ j h1 h2 => by omega, fun _ => rfl⟩
  | r + 1, i => by
    have e : mxA (lst (zmF zz mm) (r + 1) i) fre (lst pp (r + 1) i) = (!(decide (pp i < mm i) && decide (zz i ≤ fre)) && mxA (lst (zmF zz mm) r (i + 1)) fre (lst pp r (i + 1))) := rfl
    rw [e, Bool.and_eq_true, mxA_lst]
    constructor
    · rintro ⟨h1, h2⟩ j h3 h4
      by_cases e : j = i
      · subst e
        rintro ⟨z1, z2⟩
        rw [decide_eq_true z1, decide_eq_true z2] at h1
        cases h1
      · exact h2 j (by omega) (by omega)
    · intro h
      refine ⟨?_, fun j h1 h2 => h j (by omega) (by omega)⟩
      have h1 := h i (by omega) (by omega)
      by_cases z1 : pp i < mm i
      · by_cases z2 : zz i ≤ fre
        · exact (h1 ⟨z1, z2⟩).elim
        · rw [decide_eq_false z2]; simp
      · rw [decide_eq_false z1]; rfl
theorem isP_lst {zz mm pp : Int → Int} {c : Int} : ∀ {r i : Nat}, isP (lst (zmF zz mm) r i) (c - sg (fun j => pp j * zz j) i) (lst pp r i) → ∀ j : Nat, i ≤ j → j < i + r → 0 ≤ pp j ∧ pp j ≤ mm j ∧ sg (fun j => pp j * zz j) (j + 1) ≤ c
  | 0, i, _, j, h1, h2 => by omega
  | r + 1, i, h, j, h1, h2 => by
    obtain ⟨a1, a2, a3, a4⟩ := h
    have e : sg (fun j => pp j * zz j) (i + 1) = sg (fun j => pp j * zz j) i + pp i * zz i := rfl
    have a3' : pp i * zz i ≤ c - sg (fun j => pp j * zz j) i := a3
    by_cases e2 : j = i
    · subst e2; exact ⟨a1, a2, by rw [e]; omega⟩
    · refine isP_lst (r := r) (i := i + 1) ?_ j (by omega) (by omega)
      rw [e, show c - (sg (fun j => pp j * zz j) i + pp i * zz i) = c - sg (fun j => pp j * zz j) i - pp i * zz i by omega]
      exact a4
theorem c_X5_isMaximal {d k : Nat} {M : mM} {Q : mRes → mM → Prop} {a2 a3 fre : Int} {K : Nat} (hK : M 12 1 = K) (hK6 : K ≤ 6) (h1 : (∀ s : Nat, s < K → ¬ (M a3 s < M a2 s ∧ M 13 s ≤ fre)) → Q (.inl (some (mI 1))) M) (h0 : (∃ s : Nat, s < K ∧ (M a3 s < M a2 s ∧ M 13 s ≤ fre)) → Q (.inl (some (mI 0))) M) : V d k qX5_isMaximal 0 [mR 11 5 12, mR 0 6 a2, mR 0 6 a3, mI fre, mE 0] [] M Q := by
  have loop : ∀ r j : Nat, j + r = K → (∀ s : Nat, s < j → ¬ (M a3 s < M a2 s ∧ M 13 s ≤ fre)) → V d k qX5_isMaximal 3 [mR 11 5 12, mR 0 6 a2, mR 0 6 a3, mI fre, mI j] [] M Q := by
    intro r
    induction r with
    | zero =>
      intro j hj g
      have e : j = K := by omega
      subst e
      refine B_X5_isMaximal_3  ⟨fun c1 => ?_, fun c1 => ⟨?_, ?_, fun c2 => ⟨?_, ?_⟩, fun c2 => ⟨?_, fun c3 => ⟨?_, ?_⟩, fun c3 => ?_⟩⟩⟩ <;> try omega
      · exact h1 g
    | succ r ih =>
      intro j hj g
      have nxt : ¬ (M a3 j < M a2 j ∧ M 13 j ≤ fre) → V d k qX5_isMaximal 3 [mR 11 5 12, mR 0 6 a2, mR 0 6 a3, mI fre, mI ((j : Int) + 1)] [] M Q := fun z => ih (j + 1) (by omega) (fun s hs => by
        by_cases e : s = j
        · subst e; exact z
        · exact g s (by omega))
      refine B_X5_isMaximal_3  ⟨fun c1 => ?_, fun c1 => ⟨?_, ?_, fun c2 => ⟨?_, ?_⟩, fun c2 => ⟨?_, fun c3 => ⟨?_, ?_⟩, fun c3 => ?_⟩⟩⟩ <;> try omega
      · exact nxt (by omega)
      · exact nxt (by omega)
      · exact h0 ⟨j, by omega, by omega, by omega⟩
  exact B_X5_isMaximal_0 (loop K 0 (by omega) (fun s hs => by omega))
/-- a row holds a pattern -/
def ptR (K : Nat) (od : Int → Int) (p : List Int) (f : Int → Int) : Prop := lst (fun j => f (od j)) K 0 = p ∧ ∀ s : Nat, K ≤ s → s < 6 → f s = 0
theorem GLok.out {c : Int} {K : Nat} {sz mn od : Int → Int} (h : GLok c K sz mn od) {s : Nat} (hs : K ≤ s) : ∀ j : Nat, j < K → od j ≠ s := fun j hj => by
  have := h.o hj
  omega
theorem c_X5_begin {d k : Nat} {M : mM} {Q : mRes → mM → Prop} {a2 a3 c : Int} {K : Nat} {sz mn od : Int → Int} (ha : a3 ≠ 12 ∧ a3 ≠ 13 ∧ a3 ≠ 15 ∧ a3 ≠ a2) (h13 : M 13 = sz) (h15 : M 15 = od) (h2 : M a2 = mn) (hG : GLok c K sz mn od) (hc : M 12 0 = c) (hK : M 12 1 = K)
    (hQ : ∀ M', frN [a3] M M' → ptR K od (gr (zl K sz mn od) c) (M' a3) → Q (.inl none) M') : V (d + 2) k qX5_begin 0 [mR 11 5 12, mR 0 6 a2, mR 0 6 a3, mE 0] [] M Q := by
  have loop : ∀ (r j : Nat) (M' : mM), j + r = 6 → frN [a3] M M' → (∀ s : Nat, s < j → M' a3 s = 0) → V (d + 2) k qX5_begin 2 [mR 11 5 12, mR 0 6 a2, mR 0 6 a3, mI j] [] M' Q := by
    intro r
    induction r with
    | zero =>
      intro j M' hj g1 g2
      have e := g1 12 (by simp; omega)
      have hf := c_X5_fillFrom (d := d) (k := 0) (M := M') (Q := mAft (d + 1 + 1) k qX5_begin 25 [mR 11 5 12, mR 0 6 a2, mR 0 6 a3, mI j] [] Q) (fm := 0) ha (by rw [g1 13 (by simp; omega)]; exact h13) (by rw [g1 15 (by simp; omega)]; exact h15) (by rw [g1 a2 (by simp; omega)]; exact h2) hG (by rw [e]; exact hc) (by rw [e]; exact hK) (by omega) (fun j hj => by omega) (by show (0 : Int) ≤ c; exact hG.1.1) (fun M'' q1 q2 q3 q4 => B_X5_begin_25 (hQ M'' (g1.tr q1) ⟨?_, fun s hs hs2 => ?_⟩))
      · refine B_X5_begin_2 ⟨fun c1 => hf, fun c1 => by omega⟩
      · rw [show c - sg (fun j => M' a3 (od j) * sz (od j)) 0 = c by show c - 0 = c; omega] at q4
        exact q4
      · rw [q3 s (hG.out hs)]; exact g2 s (by omega)
    | succ r ih =>
      intro j M' hj g1 g2
      refine B_X5_begin_2 ⟨fun c1 => by omega, fun c1 => ⟨by omega, by omega, ih (j + 1) _ (by omega) (g1.up (by simp)) (fun s hs => ?_)⟩⟩
      by_cases e : s = j
      · subst e; exact up_s
      · rw [up_fld (by omega)]; exact g2 s (by omega)
  exact B_X5_begin_0 (loop 6 0 M (by omega) frN.rf (fun s hs => by omega))
set_option maxHeartbeats 2000000 in
theorem c_X5_goOn {d k : Nat} {Q : mRes → mM → Prop} {a2 a3 c : Int} {K : Nat} {sz mn od : Int → Int} (ha : a3 ≠ 12 ∧ a3 ≠ 13 ∧ a3 ≠ 15 ∧ a3 ≠ a2) (hG : GLok c K sz mn od) : ∀ (B : List (List Int)) (M : mM) (p : List Int) (tn : Nat) (u : mV) (h13 : M 13 = sz) (h15 : M 15 = od) (h2 : M a2 = mn) (hc : M 12 0 = c) (hK : M 12 1 = K)
    (hR : ptR K od p (M a3)) (hP : ∀ q, q ∈ p :: B → isP (zl K sz mn od) c q) (hB : Ch (nc (zl K sz mn od) c) (p :: B)) (ht : tn + B.length < 100000)
    (k1 : ∀ M' b B', frN [a3] M M' → ptR K od b (M' a3) → B.dropWhile (fun q => !mx (zl K sz mn od) c q) = b :: B' → Q (.inl (some (mI 1))) M') (k0 : ∀ M', frN [a3] M M' → B.dropWhile (fun q => !mx (zl K sz mn od) c q) = [] → Q (.inl (some (mI 0))) M'),
    V (d + 2) k qX5_goOn 2 [mR 11 5 12, mR 0 6 a2, mR 0 6 a3, mI tn, u] [] M Q := by
  have hK6 : K ≤ 6 := hG.2.1
  have hc9 := hG.1
  intro B
  induction B with
  | nil =>
    intro M p tn u h13 h15 h2 hc hK hR hP hB ht k1 k0
    have hPp := hP p (List.mem_cons_self)
    have hnc : nc (zl K sz mn od) c p = none := hB
    have hpp := isP_lst (zz := fun j => sz (od j)) (mm := fun j => mn (od j)) (pp := fun j => M a3 (od j)) (c := c) (r := K) (i := 0) (by
      rw [show c - sg (fun j => (fun j => M a3 (od j)) j * (fun j => sz (od j)) j) 0 = c by show c - 0 = c; omega, hR.1]; exact hPp)
    have hall : ∀ t : Nat, t + 1 < K → (∀ j : Nat, t < j → j + 1 < K → M a3 (od j) = 0) → M a3 (od t) = 0 := fun t ht hz => by
      refine Decidable.byContradiction fun hne => ?_
      obtain ⟨r, hr⟩ : ∃ r, K = t + 1 + r := ⟨K - t - 1, by omega⟩
      have h1 := hpp t (by omega) (by omega)
      have h3 := nc_at (zz := fun j => sz (od j)) (mm := fun j => mn (od j)) (pp := fun j => M a3 (od j)) (c := c) (t := t) (r := r) (i := 0) (by omega) (by rw [show 0 + t = t by omega]; omega) (fun j h1 h2 => hz j (by omega) (by omega))
      rw [← hr, hR.1, show c - sg (fun j => (fun j => M a3 (od j)) j * (fun j => sz (od j)) j) 0 = c by show c - 0 = c; omega] at h3
      rw [show lst (zmF (fun j => sz (od j)) (fun j => mn (od j))) K 0 = zl K sz mn od from rfl, hnc] at h3
      cases h3
    have loop : ∀ (t : Nat) (x : Int), x = (t : Int) - 1 → t + 1 ≤ K ∨ t = 0 → (∀ j : Nat, t ≤ j → j + 1 < K → M a3 (od j) = 0) → V (d + 2) k qX5_goOn 16 [mR 11 5 12, mR 0 6 a2, mR 0 6 a3, mI tn, mI x] [] M Q := by
      intro t
      induction t with
      | zero =>
        intro x hx hk g
        refine B_X5_goOn_16 ⟨fun c1 => B_X5_goOn_39 ⟨fun c2 => by omega, fun c2 => k0 M frN.rf rfl⟩, fun c1 => by omega⟩
      | succ t ih =>
        intro x hx hk g
        have e := hall t (by omega) (fun j h1 h2 => g j (by omega) h2)
        have ho := hG.o (i := t) (by omega)
        have ex : x = t := by omega
        subst ex
        have B := B_X5_goOn_16 (d := d + 1) (k := k) (M := M) (Q := Q) (a2 := a2) (a3 := a3) (x3 := tn) (x4 := t)
        simp only [h15] at B
        refine B ⟨fun c1 => by omega, fun c1 => ⟨by omega, by omega, fun c2 => (c2 e).elim, fun c2 => ⟨by omega, ih _ (by omega) (by omega) (fun j h1 h2 => ?_)⟩⟩⟩
        by_cases e2 : j = t
        · subst e2; exact e
        · exact g j (by omega) h2
    have B := B_X5_goOn_2 (d := d + 1) (k := k) (M := M) (Q := Q) (a2 := a2) (a3 := a3) (x3 := tn) (u4 := u)
    rw [hK] at B
    refine B ⟨fun c1 => by simp at ht; omega, fun c1 => ⟨by omega, ?_⟩⟩
    by_cases hK1 : K ≤ 1
    · refine B_X5_goOn_16 ⟨fun c1 => B_X5_goOn_39 ⟨fun c2 => by omega, fun c2 => k0 M frN.rf rfl⟩, fun c1 => by omega⟩
    · exact loop (K - 1) _ (by omega) (by omega) (fun j h1 h2 => by omega)
  | cons b B ihB =>
    intro M p tn u h13 h15 h2 hc hK hR hP hB ht k1 k0
    have hPp := hP p (List.mem_cons_self)
    have hnc : nc (zl K sz mn od) c p = some b := hB.1
    have e0 : c - sg (fun j => (fun j => M a3 (od j)) j * (fun j => sz (od j)) j) 0 = c := by show c - 0 = c; omega
    have hpp := isP_lst (zz := fun j => sz (od j)) (mm := fun j => mn (od j)) (pp := fun j => M a3 (od j)) (c := c) (r := K) (i := 0) (by
      rw [e0, hR.1]; exact hPp)
    have hnz : (∀ j : Nat, j + 1 < K → M a3 (od j) = 0) → False := fun hz => by
      have h3 := nc_zero (zz := fun j => sz (od j)) (mm := fun j => mn (od j)) (pp := fun j => M a3 (od j)) (c := c) (r := K) (i := 0) (fun j h1 h2 => hz j (by omega))
      rw [hR.1, show lst (zmF (fun j => sz (od j)) (fun j => mn (od j))) K 0 = zl K sz mn od from rfl, hnc] at h3
      cases h3
    have step : ∀ t : Nat, t + 1 < K → 0 < M a3 (od t) → (∀ j : Nat, t < j → j + 1 < K → M a3 (od j) = 0) → V (d + 2) k qX5_goOn 39 [mR 11 5 12, mR 0 6 a2, mR 0 6 a3, mI tn, mI t] [] M Q := fun t ht0 hpos hz => by
      obtain ⟨r, hr⟩ : ∃ r, K = t + 1 + r := ⟨K - t - 1, by omega⟩
      have ho := hG.o (i := t) (by omega)
      have hzt := hG.z (i := t) (by omega)
      have hpt := hpp t (by omega) (by omega)
      have h3 := nc_at (zz := fun j => sz (od j)) (mm := fun j => mn (od j)) (pp := fun j => M a3 (od j)) (c := c) (t := t) (r := r) (i := 0) (by omega) (by rw [show 0 + t = t by omega]; exact hpos) (fun j h1 h2 => hz j (by omega) (by omega))
      rw [← hr, hR.1, e0, show lst (zmF (fun j => sz (od j)) (fun j => mn (od j))) K 0 = zl K sz mn od from rfl, hnc, show 0 + t = t by omega] at h3
      injection h3 with h3
      have hle : mn (od t) ≤ 24 := by
        have hmn := hG.2.2.2.2.1
        rw [← hG.2.2.2.2.2.2.2.2 mn] at hmn
        have h5 := sg_le (f := fun i => mn (od i)) (n := t + 1) (m := K) (by omega) (fun j hj => hG.m hj)
        have h6 := sg_le (f := fun i => mn (od i)) (n := 0) (m := t) (by omega) (fun j hj => hG.m (by omega))
        have h7 : sg (fun i => mn (od i)) (t + 1) = sg (fun i => mn (od i)) t + mn (od t) := rfl
        have h8 : sg (fun i => mn (od i)) 0 = 0 := rfl
        omega
      have hpt2 : M a3 (od t) ≤ mn (od t) := hpt.2.1
      have Bk := B_X5_goOn_39 (d := d + 1) (k := k) (M := M) (Q := Q) (a2 := a2) (a3 := a3) (x3 := tn) (x4 := t)
      simp only [h15] at Bk
      have g1 : frN [a3] M (mUp M a3 (od t) (M a3 (od t) - 1)) := frN.rf.up (by simp)
      have e1 : ∀ j : Nat, j < K → j ≠ t → mUp M a3 (od t) (M a3 (od t) - 1) a3 (od j) = M a3 (od j) := fun j hj hj2 => up_fld (hG.n hj (by omega) hj2)
      have eS : sg (fun j => mUp M a3 (od t) (M a3 (od t) - 1) a3 (od j) * sz (od j)) (t + 1) = sg (fun j => M a3 (od j) * sz (od j)) t + (M a3 (od t) - 1) * sz (od t) := by
        show sg (fun j => mUp M a3 (od t) (M a3 (od t) - 1) a3 (od j) * sz (od j)) t + mUp M a3 (od t) (M a3 (od t) - 1) a3 (od t) * sz (od t) = _
        rw [up_s, sg_congr (g := fun j => M a3 (od j) * sz (od j)) (fun j hj => by
          show mUp M a3 (od t) (M a3 (od t) - 1) a3 (od j) * sz (od j) = _
          rw [e1 j (by omega) (by omega)])]
      have eT : sg (fun j => M a3 (od j) * sz (od j)) (t + 1) = sg (fun j => M a3 (od j) * sz (od j)) t + M a3 (od t) * sz (od t) := rfl
      have hT : sg (fun j => M a3 (od j) * sz (od j)) (t + 1) ≤ c := hpt.2.2
      have hm1 : (M a3 (od t) - 1) * sz (od t) = M a3 (od t) * sz (od t) - sz (od t) := by rw [Int.sub_mul]; omega
      have e12 : (mUp M a3 (od t) (M a3 (od t) - 1)) 12 = M 12 := up_row (by omega)
      refine Bk ⟨fun c1 => ⟨by omega, by omega, by omega, by omega, by omega, ?_⟩, fun c1 => by omega⟩
      refine c_X5_fillFrom (fm := t + 1) ha (by rw [up_row (by omega)]; exact h13) (by rw [up_row (by omega)]; exact h15) (by rw [up_row (by omega)]; exact h2) hG (by rw [e12]; exact hc) (by rw [e12]; exact hK) (by omega) (fun j hj => ?_) (by rw [eS]; omega) (fun M'' q1 q2 q3 q4 => ?_)
      · by_cases e : j = t
        · subst e; rw [up_s]; omega
        · rw [e1 j (by omega) e]; exact (hpp j (by omega) (by omega)).1
      · have g2 : frN [a3] M M'' := g1.tr q1
        have o12 := g2 12 (by simp; omega)
        have o13 : M'' 13 = sz := by rw [g2 13 (by simp; omega)]; exact h13
        have o15 : M'' 15 = od := by rw [g2 15 (by simp; omega)]; exact h15
        have o2 : M'' a2 = mn := by rw [g2 a2 (by simp; omega)]; exact h2
        have hb : ptR K od b (M'' a3) := by
          refine ⟨?_, fun s hs hs2 => ?_⟩
          · rw [h3]
            have ea : lst (fun j => M'' a3 (od j)) K 0 = lst (fun j => M'' a3 (od j)) t 0 ++ lst (fun j => M'' a3 (od j)) (1 + r) (0 + t) := by rw [← lst_app, hr, show t + (1 + r) = t + 1 + r by omega]
            rw [ea, show 1 + r = r + 1 by omega, show 0 + t = t by omega]
            rw [lst_congr (f := fun j => M'' a3 (od j)) (g := fun j => M a3 (od j)) (r := t) (i := 0) (fun j h1 h2 => by
              show M'' a3 (od j) = M a3 (od j)
              rw [q2 j (by omega), e1 j (by omega) (by omega)])]
            show _ ++ M'' a3 (od t) :: lst (fun j => M'' a3 (od j)) r (t + 1) = _
            rw [show K - (t + 1) = r by omega, eS] at q4
            rw [q4, q2 t (by omega), up_s, show c - (sg (fun j => M a3 (od j) * sz (od j)) t + (M a3 (od t) - 1) * sz (od t)) = c - sg (fun j => M a3 (od j) * sz (od j)) t - (M a3 (od t) - 1) * sz (od t) by omega]
          · rw [q3 s (hG.out hs), up_fld (fun z => hG.out hs t (by omega) z.symm)]; exact hR.2 s hs hs2
        have epw : pw (zl K sz mn od) b = sg (fun j => M'' a3 (od j) * sz (od j)) K := by
          rw [← hb.1]
          have := pw_lst (zz := fun j => sz (od j)) (mm := fun j => mn (od j)) (pp := fun j => M'' a3 (od j)) (r := K) (i := 0)
          rw [show 0 + K = K by omega, show sg (fun j => (fun j => M'' a3 (od j)) j * (fun j => sz (od j)) j) 0 = 0 from rfl] at this
          have h9 : pw (lst (zmF (fun j => sz (od j)) (fun j => mn (od j))) K 0) (lst (fun j => M'' a3 (od j)) K 0) = sg (fun j => M'' a3 (od j) * sz (od j)) K := by rw [this]; exact Int.sub_zero _
          exact h9
        have hmx : mx (zl K sz mn od) c b = true ↔ ∀ s : Nat, s < K → ¬ (M'' a3 s < M'' a2 s ∧ M'' 13 s ≤ c - sg (fun j => M'' a3 (od j) * sz (od j)) K) := by
          unfold mx
          rw [epw]
          generalize c - sg (fun j => M'' a3 (od j) * sz (od j)) K = fre
          rw [← hb.1]
          show mxA (lst (zmF (fun j => sz (od j)) (fun j => mn (od j))) K 0) fre (lst (fun j => M'' a3 (od j)) K 0) = true ↔ _
          rw [mxA_lst, o2, o13]
          constructor
          · intro h s hs
            obtain ⟨i, hi, hi2⟩ := hG.2.2.2.2.2.2.2.1 s hs
            rw [← hi2]; exact h i (by omega) (by omega)
          · intro h j h1 h2
            have hoj := hG.o (i := j) (by omega)
            obtain ⟨n, hn⟩ : ∃ n : Nat, od j = n := ⟨(od j).toNat, by omega⟩
            show ¬ (M'' a3 (od j) < mn (od j) ∧ sz (od j) ≤ fre)
            rw [hn]; exact h n (by omega)
        refine B_X5_goOn_72 (c_X5_isMaximal (by rw [o12]; exact hK) hK6 (fun hm => ?_) (fun hm => ?_))
        · refine B_X5_goOn_75 ⟨fun c1 => by omega, fun c1 => k1 M'' b B g2 hb ?_⟩
          rw [List.dropWhile_cons, hmx.mpr hm]; rfl
        · have hf : mx (zl K sz mn od) c b = false := by
            cases hx : mx (zl K sz mn od) c b with
            | false => rfl
            | true =>
              obtain ⟨s, hs, hs2⟩ := hm
              exact (hmx.mp hx s hs hs2).elim
          have edw : (b :: B).dropWhile (fun q => !mx (zl K sz mn od) c q) = B.dropWhile (fun q => !mx (zl K sz mn od) c q) := by rw [List.dropWhile_cons, hf]; rfl
          simp only [edw] at k1 k0
          simp only [List.length_cons] at ht
          refine B_X5_goOn_75 ⟨fun c1 => ⟨by omega, ?_⟩, fun c1 => (c1 rfl).elim⟩
          exact ihB M'' b (tn + 1) _ o13 o15 o2 (by rw [o12]; exact hc) (by rw [o12]; exact hK) hb (fun q hq => hP q (List.mem_cons_of_mem _ hq)) hB.2 (by omega) (fun M3 b' B' f1 f2 f3 => k1 M3 b' B' (g2.tr f1) f2 f3) (fun M3 f1 f2 => k0 M3 (g2.tr f1) f2)
    have loop : ∀ (t : Nat) (x : Int), x = (t : Int) - 1 → t + 1 ≤ K ∨ t = 0 → (∀ j : Nat, t ≤ j → j + 1 < K → M a3 (od j) = 0) → V (d + 2) k qX5_goOn 16 [mR 11 5 12, mR 0 6 a2, mR 0 6 a3, mI tn, mI x] [] M Q := by
      intro t
      induction t with
      | zero =>
        intro x hx hk g
        exact (hnz (fun j hj => g j (by omega) hj)).elim
      | succ t ih =>
        intro x hx hk g
        have ho := hG.o (i := t) (by omega)
        have h0 : 0 ≤ M a3 (od t) := (hpp t (by omega) (by omega)).1
        have ex : x = t := by omega
        subst ex
        have Bk := B_X5_goOn_16 (d := d + 1) (k := k) (M := M) (Q := Q) (a2 := a2) (a3 := a3) (x3 := tn) (x4 := t)
        simp only [h15] at Bk
        refine Bk ⟨fun c1 => by omega, fun c1 => ⟨by omega, by omega, fun c2 => step t (by omega) (by omega) (fun j h1 h2 => g j (by omega) h2), fun c2 => ⟨by omega, ih _ (by omega) (by omega) (fun j h1 h2 => ?_)⟩⟩⟩
        by_cases e2 : j = t
        · subst e2; exact c2
        · exact g j (by omega) h2
    have Bk := B_X5_goOn_2 (d := d + 1) (k := k) (M := M) (Q := Q) (a2 := a2) (a3 := a3) (x3 := tn) (u4 := u)
    rw [hK] at Bk
    refine Bk ⟨fun c1 => by simp at ht; omega, fun c1 => ⟨by omega, ?_⟩⟩
    by_cases hK1 : K ≤ 1
    · exact (hnz (fun j hj => by omega)).elim
    · exact loop (K - 1) _ (by omega) (by omega) (fun j h1 h2 => by omega)
