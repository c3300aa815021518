/-! patterns as the class steps them -/
/-- goods: a room, sizes, numbers, an order -/
def GLok (c : Int) (K : Nat) (sz mn od : Int → Int) : Prop := (0 ≤ c ∧ c ≤ 99) ∧ K ≤ 6 ∧ (∀ s : Nat, s < K → 1 ≤ sz s ∧ sz s ≤ 99) ∧ (∀ s : Nat, s < K → 0 ≤ mn s) ∧ sg mn K ≤ 24 ∧ (∀ i : Nat, i < K → 0 ≤ od i ∧ od i < K) ∧ (∀ i j : Nat, i < j → j < K → od i ≠ od j) ∧ (∀ s : Nat, s < K → ∃ i : Nat, i < K ∧ od i = s) ∧ (∀ g : Int → Int, sg (fun i => g (od i)) K = sg g K)
def zl (K : Nat) (sz mn od : Int → Int) : zL := lst (zmF (fun j => sz (od j)) (fun j => mn (od j))) K 0
theorem GLok.z {c : Int} {K : Nat} {sz mn od : Int → Int} (h : GLok c K sz mn od) {i : Nat} (hi : i < K) : 1 ≤ sz (od i) ∧ sz (od i) ≤ 99 := by
  have h1 := h.2.2.2.2.2.1 i hi
  obtain ⟨n, hn⟩ : ∃ n : Nat, od i = n := ⟨(od i).toNat, by omega⟩
  rw [hn]; exact h.2.2.1 n (by omega)
theorem GLok.m {c : Int} {K : Nat} {sz mn od : Int → Int} (h : GLok c K sz mn od) {i : Nat} (hi : i < K) : 0 ≤ mn (od i) := by
  have h1 := h.2.2.2.2.2.1 i hi
  obtain ⟨n, hn⟩ : ∃ n : Nat, od i = n := ⟨(od i).toNat, by omega⟩
  rw [hn]; exact h.2.2.2.1 n (by omega)
theorem GLok.o {c : Int} {K : Nat} {sz mn od : Int → Int} (h : GLok c K sz mn od) {i : Nat} (hi : i < K) : 0 ≤ od i ∧ od i < K := h.2.2.2.2.2.1 i hi
theorem GLok.n {c : Int} {K : Nat} {sz mn od : Int → Int} (h : GLok c K sz mn od) {i j : Nat} (hi : i < K) (hj : j < K) (hn : i ≠ j) : od i ≠ od j := by
  have h1 := h.2.2.2.2.2.2.1
  by_cases e : i < j
  · exact h1 i j e hj
  · exact fun z => h1 j i (by omega) hi z.symm
theorem GLok.zOK {c : Int} {K : Nat} {sz mn od : Int → Int} (h : GLok c K sz mn od) {r i : Nat} (hr : i + r ≤ K) : zOK (lst (zmF (fun j => sz (od j)) (fun j => mn (od j))) r i) :=
  lst_zOK (fun j h1 h2 => ⟨(h.z (i := j) (by omega)).1, h.m (by omega)⟩)
set_option maxHeartbeats 1000000 in
theorem c_X5_fillFrom {d k : Nat} {M : mM} {Q : mRes → mM → Prop} {a2 a3 c : Int} {K fm : Nat} {sz mn od : Int → Int} (ha : a3 ≠ 12 ∧ a3 ≠ 13 ∧ a3 ≠ 15 ∧ a3 ≠ a2) (h13 : M 13 = sz) (h15 : M 15 = od) (h2 : M a2 = mn) (hG : GLok c K sz mn od) (hc : M 12 0 = c) (hK : M 12 1 = K) (hf : fm ≤ K)
    (hp : ∀ j : Nat, j < fm → 0 ≤ M a3 (od j)) (hw : sg (fun j => M a3 (od j) * sz (od j)) fm ≤ c)
    (hQ : ∀ M', frN [a3] M M' → (∀ j : Nat, j < fm → M' a3 (od j) = M a3 (od j)) → (∀ s, (∀ j : Nat, j < K → od j ≠ s) → M' a3 s = M a3 s) → lst (fun j => M' a3 (od j)) (K - fm) fm = gr (lst (zmF (fun j => sz (od j)) (fun j => mn (od j))) (K - fm) fm) (c - sg (fun j => M a3 (od j) * sz (od j)) fm) → Q (.inl (some (mI (c - sg (fun j => M' a3 (od j) * sz (od j)) K)))) M') :
    V (d + 1) k qX5_fillFrom 0 [mR 11 5 12, mR 0 6 a2, mR 0 6 a3, mI fm, mE 0, mE 0, mE 0] [] M Q := by
  have hK6 : K ≤ 6 := hG.2.1
  have hc9 := hG.1
  have out : ∀ {M' : mM}, frN [a3] M M' → M' 12 0 = c ∧ M' 12 1 = K ∧ M' 13 = sz ∧ M' 15 = od ∧ M' a2 = mn := fun g => by
    have e := g 12 (by simp; omega)
    exact ⟨by rw [e]; exact hc, by rw [e]; exact hK, by rw [g 13 (by simp; omega)]; exact h13, by rw [g 15 (by simp; omega)]; exact h15, by rw [g a2 (by simp; omega)]; exact h2⟩
  have fil : ∀ (r i : Nat) (u : mV) (M' : mM), i + r = K → fm ≤ i → frN [a3] M M' → (∀ j : Nat, j < i → 0 ≤ M' a3 (od j)) → sg (fun j => M' a3 (od j) * sz (od j)) i ≤ c → 0 ≤ sg (fun j => M' a3 (od j) * sz (od j)) i →
      (∀ M'', frN [a3] M M'' → (∀ j : Nat, j < i → M'' a3 (od j) = M' a3 (od j)) → (∀ s, (∀ j : Nat, j < K → od j ≠ s) → M'' a3 s = M' a3 s) → lst (fun j => M'' a3 (od j)) r i = gr (lst (zmF (fun j => sz (od j)) (fun j => mn (od j))) r i) (c - sg (fun j => M' a3 (od j) * sz (od j)) i) → Q (.inl (some (mI (c - sg (fun j => M'' a3 (od j) * sz (od j)) K)))) M'') →
      V (d + 1) k qX5_fillFrom 9 [mR 11 5 12, mR 0 6 a2, mR 0 6 a3, mI fm, mI (c - sg (fun j => M' a3 (od j) * sz (od j)) i), mI i, u] [] M' Q := by
    intro r
    induction r with
    | zero =>
      intro i u M' hi hfi g1 g2 g3 g4 hQ'
      obtain ⟨o1, o2, o3, o4, o5⟩ := out g1
      have e : i = K := by omega
      subst e
      refine B_X5_fillFrom_9 ⟨fun c1 => hQ' M' g1 (fun _ _ => rfl) (fun _ _ => rfl) rfl, fun c1 => by omega⟩
    | succ r ih =>
      intro i u M' hi hfi g1 g2 g3 g4 hQ'
      obtain ⟨o1, o2, o3, o4, o5⟩ := out g1
      have hz := hG.z (i := i) (by omega)
      have hm := hG.m (i := i) (by omega)
      have ho := hG.o (i := i) (by omega)
      generalize hS : sg (fun j => M' a3 (od j) * sz (od j)) i = S at *
      have hv := vmax (z := sz (od i)) (m := mn (od i)) (fr := c - S) hz.1 hm (by omega)
      generalize hve : min (mn (od i)) ((c - S) / sz (od i)) = v at *
      have hv0 : 0 ≤ v * sz (od i) := Int.mul_nonneg hv.1 (by omega)
      have B := B_X5_fillFrom_9 (d := d) (k := k) (M := M') (Q := Q) (a2 := a2) (a3 := a3) (x3 := fm) (x4 := c - S) (x5 := i) (u6 := u)
      simp only [o2, o3, o4, o5] at B
      refine B ⟨fun c1 => by omega, fun c1 => ⟨by omega, fun c2 => by omega, fun c2 => ⟨by omega, by omega, c_X2_cut (by omega) (fun q hq => ?_)⟩⟩⟩
      rw [if_neg (by omega)] at hq
      subst hq
      refine B_X5_fillFrom_52 ⟨by omega, ?_⟩
      rw [hve]
      have B := B_X5_fillFrom_56 (d := d) (k := k) (M := mUp M' a3 (od i) v) (Q := Q) (a2 := a2) (a3 := a3) (x3 := fm) (x4 := c - S) (x5 := i) (x6 := od i)
      rw [up_s, up_row (show (13 : Int) ≠ a3 by omega), o3] at B
      have g1' : frN [a3] M (mUp M' a3 (od i) v) := g1.up (by simp)
      have e1 : ∀ j : Nat, j < K → j ≠ i → mUp M' a3 (od i) v a3 (od j) = M' a3 (od j) := fun j hj hj2 => up_fld (hG.n hj (by omega) hj2)
      have eS : sg (fun j => mUp M' a3 (od i) v a3 (od j) * sz (od j)) (i + 1) = S + v * sz (od i) := by
        show sg (fun j => mUp M' a3 (od i) v a3 (od j) * sz (od j)) i + mUp M' a3 (od i) v a3 (od i) * sz (od i) = _
        rw [up_s, ← hS, sg_congr (g := fun j => M' a3 (od j) * sz (od j)) (fun j hj => by
          show mUp M' a3 (od i) v a3 (od j) * sz (od j) = _
          rw [e1 j (by omega) (by omega)])]
      refine B ⟨by omega, by omega, by omega, by omega, by omega, ?_⟩
      have ih2 := ih (i + 1) (mI (od i)) _ (by omega) (by omega) g1' (fun j hj => ?_) (by rw [eS]; omega) (by rw [eS]; omega) (fun M'' q1 q2 q3 q4 => hQ' M'' q1 (fun j hj => ?_) (fun s hs => ?_) ?_)
      · rw [eS, show c - (S + v * sz (od i)) = c - S - v * sz (od i) by omega] at ih2
        exact ih2
      · by_cases e : j = i
        · subst e; rw [up_s]; exact hv.1
        · rw [e1 j (by omega) e]; exact g2 j (by omega)
      · rw [q2 j (by omega), e1 j (by omega) (by omega)]
      · rw [q3 s hs]; exact up_fld (fun z => hs i (by omega) z.symm)
      · show M'' a3 (od i) :: lst (fun j => M'' a3 (od j)) r (i + 1) = min (mn (od i)) ((c - S) / sz (od i)) :: gr _ (c - S - min (mn (od i)) ((c - S) / sz (od i)) * sz (od i))
        rw [q4, q2 i (by omega), up_s, hve, eS, show c - (S + v * sz (od i)) = c - S - v * sz (od i) by omega]
  have hnn : ∀ i : Nat, i ≤ fm → 0 ≤ sg (fun j => M a3 (od j) * sz (od j)) i := fun i hi => by
    have := sg_le (f := fun j => M a3 (od j) * sz (od j)) (n := 0) (m := i) (by omega) (fun j hj => Int.mul_nonneg (hp j (by omega)) (by have := hG.z (i := j) (by omega); omega))
    exact this
  have pre : ∀ (r i : Nat) (u : mV), i + r = fm → V (d + 1) k qX5_fillFrom 9 [mR 11 5 12, mR 0 6 a2, mR 0 6 a3, mI fm, mI (c - sg (fun j => M a3 (od j) * sz (od j)) i), mI i, u] [] M Q := by
    intro r
    induction r with
    | zero =>
      intro i u hi
      have e : i = fm := by omega
      subst e
      exact fil (K - i) i u M (by omega) (by omega) frN.rf hp hw (hnn i (by omega)) hQ
    | succ r ih =>
      intro i u hi
      have hz := hG.z (i := i) (by omega)
      have ho := hG.o (i := i) (by omega)
      have hle := sg_le (f := fun j => M a3 (od j) * sz (od j)) (n := i + 1) (m := fm) (by omega) (fun j hj => Int.mul_nonneg (hp j (by omega)) (by have := hG.z (i := j) (by omega); omega))
      have e : sg (fun j => M a3 (od j) * sz (od j)) (i + 1) = sg (fun j => M a3 (od j) * sz (od j)) i + M a3 (od i) * sz (od i) := rfl
      have h0 : 0 ≤ M a3 (od i) * sz (od i) := Int.mul_nonneg (hp i (by omega)) (by omega)
      have hn := hnn i (by omega)
      have ih := ih (i + 1) (mI (od i)) (by omega)
      rw [e, show c - (sg (fun j => M a3 (od j) * sz (od j)) i + M a3 (od i) * sz (od i)) = c - sg (fun j => M a3 (od j) * sz (od j)) i - M a3 (od i) * sz (od i) by omega] at ih
      have B := B_X5_fillFrom_9 (d := d) (k := k) (M := M) (Q := Q) (a2 := a2) (a3 := a3) (x3 := fm) (x4 := c - sg (fun j => M a3 (od j) * sz (od j)) i) (x5 := i) (u6 := u)
      simp only [hK, h13, h15, h2] at B
      refine B ⟨fun c1 => by omega, fun c1 => ⟨by omega, fun c2 => ?_, fun c2 => by omega⟩⟩
      have B := B_X5_fillFrom_56 (d := d) (k := k) (M := M) (Q := Q) (a2 := a2) (a3 := a3) (x3 := fm) (x4 := c - sg (fun j => M a3 (od j) * sz (od j)) i) (x5 := i) (x6 := od i)
      simp only [h13] at B
      exact B ⟨by omega, by omega, by omega, by omega, by omega, ih⟩
  have B := B_X5_fillFrom_0 (d := d) (k := k) (M := M) (Q := Q) (a2 := a2) (a3 := a3) (x4 := fm)
  rw [hc] at B
  have := pre fm 0 (mE 0) (by omega)
  rw [show c - sg (fun j => M a3 (od j) * sz (od j)) 0 = c by show c - 0 = c; omega] at this
  exact B this
