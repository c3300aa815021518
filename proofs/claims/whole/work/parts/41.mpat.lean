/-! patterns as the model steps them -/
def frP (at_ : Int) (M M' : mM) : Prop := (∀ n, n ≠ 128 → M' n = M n) ∧ ∀ i, ¬ (at_ ≤ i ∧ i < at_ + 6) → M' 128 i = M 128 i
theorem frP.rf {at_ : Int} {M : mM} : frP at_ M M := ⟨fun _ _ => rfl, fun _ _ => rfl⟩
theorem frP.tr {at_ : Int} {M M' M'' : mM} (h : frP at_ M M') (h' : frP at_ M' M'') : frP at_ M M'' := ⟨fun n hn => (h'.1 n hn).trans (h.1 n hn), fun i hi => (h'.2 i hi).trans (h.2 i hi)⟩
theorem frP.up {at_ : Int} {M M' : mM} {i v : Int} (h : frP at_ M M') (hi : at_ ≤ i ∧ i < at_ + 6) : frP at_ M (mUp M' 128 i v) := ⟨fun n hn => by rw [up_row hn]; exact h.1 n hn, fun j hj => by
  have e : j ≠ i := fun e => hj (by rw [e]; exact hi)
  rw [up_fld e]; exact h.2 j hj⟩
theorem sg_term {f : Int → Int} : ∀ {n : Nat}, (∀ j : Nat, j < n → 0 ≤ f j) → ∀ j : Nat, j < n → f j ≤ sg f n
  | 0, _, j, hj => by omega
  | n + 1, h, j, hj => by
    have h1 := sg_le (f := f) (n := 0) (m := n) (by omega) (fun j hj => h j (by omega))
    have h2 : sg f 0 = 0 := rfl
    show f j ≤ sg f n + f n
    by_cases e : j = n
    · subst e; omega
    · have := sg_term (n := n) (fun j hj => h j (by omega)) j (by omega)
      have := h n (by omega)
      omega
theorem c_X10_within0 {d k : Nat} {M : mM} {Q : mRes → mM → Prop} {at_ : Int} {K : Nat} (hK : M 112 7 = K) (hK6 : K ≤ 6) (hat : 0 ≤ at_ ∧ at_ ≤ 162) (hb : ∀ j : Nat, j < K → 0 ≤ M 128 (at_ + j) * M 122 j ∧ M 128 (at_ + j) * M 122 j ≤ 10000) (hQ : ∀ r, r = sg (fun s => M 128 (at_ + s) * M 122 s) K → Q (.inl (some (mI r))) M) : V d k qX10_within0 0 [mR 18 58 112, mI at_, mE 0, mE 0] [] M Q := by
  have loop : ∀ r j : Nat, j + r = K → V d k qX10_within0 4 [mR 18 58 112, mI at_, mI (sg (fun s => M 128 (at_ + s) * M 122 s) j), mI j] [] M Q := by
    intro r
    induction r with
    | zero =>
      intro j hj
      refine B_X10_within0_4  ⟨fun c1 => ?_, fun c1 => ⟨?_, ?_, ?_, ?_, ?_, ?_, ?_⟩⟩ <;> try omega
      · exact hQ _ (by rw [show j = K by omega])
    | succ r ih =>
      intro j hj
      have h1 := hb j (by omega)
      have h2 := sg_bd (f := fun s => M 128 (at_ + s) * M 122 s) (c := 10000) (n := j) (fun i hi => hb i (by omega))
      refine B_X10_within0_4  ⟨fun c1 => ?_, fun c1 => ⟨?_, ?_, ?_, ?_, ?_, ?_, ?_⟩⟩ <;> try omega
      · exact ih (j + 1) (by omega)
  exact B_X10_within0_0 (loop K 0 (by omega))
/-- sizes of a row together, by sorts or by places of the order -/
theorem GLok.wt {c : Int} {K : Nat} {sz mn od : Int → Int} (h : GLok c K sz mn od) {f : Int → Int} : sg (fun s => f s * sz s) K = sg (fun j => f (od j) * sz (od j)) K := (h.2.2.2.2.2.2.2.2 (fun s => f s * sz s)).symm
theorem GLok.on {c : Int} {K : Nat} {sz mn od : Int → Int} (h : GLok c K sz mn od) {P : Int → Prop} (hp : ∀ j : Nat, j < K → P (od j)) : ∀ s : Nat, s < K → P s := fun s hs => by
  obtain ⟨i, hi, e⟩ := h.2.2.2.2.2.2.2.1 s hs
  rw [← e]; exact hp i hi
theorem GLok.term {c : Int} {K : Nat} {sz mn od : Int → Int} (h : GLok c K sz mn od) {f : Int → Int} (h0 : ∀ j : Nat, j < K → 0 ≤ f (od j)) (hw : sg (fun j => f (od j) * sz (od j)) K ≤ c) : ∀ s : Nat, s < K → 0 ≤ f s * sz s ∧ f s * sz s ≤ c :=
  h.on (P := fun s => 0 ≤ f s * sz s ∧ f s * sz s ≤ c) (fun j hj => by
    have hn : ∀ j : Nat, j < K → 0 ≤ f (od j) * sz (od j) := fun j hj => Int.mul_nonneg (h0 j hj) (by have := h.z hj; omega)
    have := sg_term (f := fun j => f (od j) * sz (od j)) hn j hj
    exact ⟨hn j hj, by omega⟩)
set_option maxHeartbeats 1000000 in
theorem c_X10_fills {d k l1 : Nat} {M : mM} {Q : mRes → mM → Prop} {a1 at_ c : Int} {K fm : Nat} {sz mn od : Int → Int} (ha : a1 ≠ 128) (hat : 0 ≤ at_ ∧ at_ ≤ 162 ∧ at_ + 6 ≤ l1) (h122 : M 122 = sz) (h123 : M 123 = od) (h2 : ∀ s, M a1 (at_ + s) = mn s) (hG : GLok c K sz mn od) (hK : M 112 7 = K) (hf : fm ≤ K)
    (hp : ∀ j : Nat, j < fm → 0 ≤ M 128 (at_ + od j)) (hz0 : ∀ j : Nat, fm ≤ j → j < K → M 128 (at_ + od j) = 0) (hw : sg (fun j => M 128 (at_ + od j) * sz (od j)) fm ≤ c)
    (hQ : ∀ M', frP at_ M M' → (∀ j : Nat, j < fm → M' 128 (at_ + od j) = M 128 (at_ + od j)) → (∀ s, (∀ j : Nat, j < K → od j ≠ s) → M' 128 (at_ + s) = M 128 (at_ + s)) → lst (fun j => M' 128 (at_ + od j)) (K - fm) fm = gr (lst (zmF (fun j => sz (od j)) (fun j => mn (od j))) (K - fm) fm) (c - sg (fun j => M 128 (at_ + od j) * sz (od j)) fm) → Q (.inl none) M') :
    V (d + 1) k qX10_fills 0 [mR 18 58 112, mR 0 l1 a1, mI at_, mI fm, mI c, mE 0, mE 0, mE 0, mE 0] [] M Q := by
  have hK6 : K ≤ 6 := hG.2.1
  have hc9 := hG.1
  have out : ∀ {M' : mM}, frP at_ M M' → M' 112 7 = K ∧ M' 122 = sz ∧ M' 123 = od ∧ ∀ s, M' a1 (at_ + s) = mn s := fun g => by
    exact ⟨by rw [g.1 112 (by decide)]; exact hK, by rw [g.1 122 (by decide)]; exact h122, by rw [g.1 123 (by decide)]; exact h123, fun s => by rw [g.1 a1 ha]; exact h2 s⟩
  have fil : ∀ (r i : Nat) (u7 u8 : mV) (M' : mM), i + r = K → fm ≤ i → frP at_ M M' → (∀ j : Nat, j < i → 0 ≤ M' 128 (at_ + od j)) → sg (fun j => M' 128 (at_ + od j) * sz (od j)) i ≤ c → 0 ≤ sg (fun j => M' 128 (at_ + od j) * sz (od j)) i →
      (∀ M'', frP at_ M M'' → (∀ j : Nat, j < i → M'' 128 (at_ + od j) = M' 128 (at_ + od j)) → (∀ s, (∀ j : Nat, j < K → od j ≠ s) → M'' 128 (at_ + s) = M' 128 (at_ + s)) → lst (fun j => M'' 128 (at_ + od j)) r i = gr (lst (zmF (fun j => sz (od j)) (fun j => mn (od j))) r i) (c - sg (fun j => M' 128 (at_ + od j) * sz (od j)) i) → Q (.inl none) M'') →
      V (d + 1) k qX10_fills 13 [mR 18 58 112, mR 0 l1 a1, mI at_, mI fm, mI c, mI (c - sg (fun j => M' 128 (at_ + od j) * sz (od j)) i), mI i, u7, u8] [] M' Q := by
    intro r
    induction r with
    | zero =>
      intro i u7 u8 M' hi hfi g1 g2 g3 g4 hQ'
      obtain ⟨o2, o3, o4, o5⟩ := out g1
      refine B_X10_fills_13 ⟨fun c1 => hQ' M' g1 (fun _ _ => rfl) (fun _ _ => rfl) rfl, fun c1 => by omega⟩
    | succ r ih =>
      intro i u7 u8 M' hi hfi g1 g2 g3 g4 hQ'
      obtain ⟨o2, o3, o4, o5⟩ := out g1
      have hz := hG.z (i := i) (by omega)
      have hm := hG.m (i := i) (by omega)
      have ho := hG.o (i := i) (by omega)
      generalize hS : sg (fun j => M' 128 (at_ + od j) * sz (od j)) i = S at *
      have hv := vmax (z := sz (od i)) (m := mn (od i)) (fr := c - S) hz.1 hm (by omega)
      generalize hve : min (mn (od i)) ((c - S) / sz (od i)) = v at *
      have hv0 : 0 ≤ v * sz (od i) := Int.mul_nonneg hv.1 (by omega)
      have e73 : V (d + 1) k qX10_fills 73 [mR 18 58 112, mR 0 l1 a1, mI at_, mI fm, mI c, mI (c - S), mI i, mI (od i), mI ((c - S) / sz (od i))] [mI v, mI (at_ + od i), mR 0 168 128] M' Q := by
        have B := B_X10_fills_73 (d := d) (k := k) (M := M') (Q := Q) (a1 := a1) (l1 := l1) (x2 := at_) (x3 := fm) (x4 := c) (x5 := c - S) (x6 := i) (x7 := od i) (x8 := (c - S) / sz (od i)) (sx0 := v) (sx1 := at_ + od i)
        rw [up_s, o3] at B
        have g1' : frP at_ M (mUp M' 128 (at_ + od i) v) := g1.up (by omega)
        have e1 : ∀ j : Nat, j < K → j ≠ i → mUp M' 128 (at_ + od i) v 128 (at_ + od j) = M' 128 (at_ + od j) := fun j hj hj2 => up_fld (by have := hG.n hj (show i < K by omega) hj2; omega)
        have eS : sg (fun j => mUp M' 128 (at_ + od i) v 128 (at_ + od j) * sz (od j)) (i + 1) = S + v * sz (od i) := by
          show sg (fun j => mUp M' 128 (at_ + od i) v 128 (at_ + od j) * sz (od j)) i + mUp M' 128 (at_ + od i) v 128 (at_ + od i) * sz (od i) = _
          rw [up_s, ← hS, sg_congr (g := fun j => M' 128 (at_ + od j) * sz (od j)) (fun j hj => by
            show mUp M' 128 (at_ + od i) v 128 (at_ + od j) * sz (od j) = _
            rw [e1 j (by omega) (by omega)])]
        refine B ⟨by omega, by omega, by omega, by omega, by omega, by omega, by omega, ?_⟩
        have ih2 := ih (i + 1) (mI (od i)) (mI ((c - S) / sz (od i))) _ (by omega) (by omega) g1' (fun j hj => ?_) (by rw [eS]; omega) (by rw [eS]; omega) (fun M'' q1 q2 q3 q4 => hQ' M'' q1 (fun j hj => ?_) (fun s hs => ?_) ?_)
        · rw [eS, show c - (S + v * sz (od i)) = c - S - v * sz (od i) by omega] at ih2
          exact ih2
        · by_cases e : j = i
          · subst e; rw [up_s]; exact hv.1
          · rw [e1 j (by omega) e]; exact g2 j (by omega)
        · rw [q2 j (by omega), e1 j (by omega) (by omega)]
        · rw [q3 s hs]; exact up_fld (by have := hs i (by omega); omega)
        · show M'' 128 (at_ + od i) :: lst (fun j => M'' 128 (at_ + od j)) r (i + 1) = min (mn (od i)) ((c - S) / sz (od i)) :: gr _ (c - S - min (mn (od i)) ((c - S) / sz (od i)) * sz (od i))
          rw [q4, q2 i (by omega), up_s, hve, eS, show c - (S + v * sz (od i)) = c - S - v * sz (od i) by omega]
      have B := B_X10_fills_13 (d := d) (k := k) (M := M') (Q := Q) (a1 := a1) (l1 := l1) (x2 := at_) (x3 := fm) (x4 := c) (x5 := c - S) (x6 := i) (u7 := u7) (u8 := u8)
      simp only [o2, o3, o4, o5] at B
      refine B ⟨fun c1 => by omega, fun c1 => ⟨by omega, by omega, by omega, by omega, by omega, by omega, fun c2 => ⟨by omega, by omega, ?_⟩, fun c2 => ?_⟩⟩
      · rw [show mn (od i) = v by omega]; exact e73
      · have e9 : (c - S) / sz (od i) = v := by omega
        rw [e9] at e73 ⊢; exact e73
  have hwK : sg (fun j => M 128 (at_ + od j) * sz (od j)) K = sg (fun j => M 128 (at_ + od j) * sz (od j)) fm := sg_ext hf (fun j h1 h2 => by
    show M 128 (at_ + od j) * sz (od j) = 0
    rw [hz0 j h1 h2]; omega)
  have hpK : ∀ j : Nat, j < K → 0 ≤ (fun s => M 128 (at_ + s)) (od j) := fun j hj => by
    show 0 ≤ M 128 (at_ + od j)
    by_cases e : j < fm
    · exact hp j e
    · rw [hz0 j (by omega) hj]; omega
  have hnn : 0 ≤ sg (fun j => M 128 (at_ + od j) * sz (od j)) fm := by
    have := sg_le (f := fun j => M 128 (at_ + od j) * sz (od j)) (n := 0) (m := fm) (by omega) (fun j hj => Int.mul_nonneg (hp j (by omega)) (by have := hG.z (i := j) (by omega); omega))
    exact this
  have ht := hG.term (f := fun s => M 128 (at_ + s)) hpK (by show sg (fun j => M 128 (at_ + od j) * sz (od j)) K ≤ c; rw [hwK]; exact hw)
  refine B_X10_fills_0 (c_X10_within0 hK hK6 (by omega) (fun j hj => ?_) (fun q hq => ?_))
  · have := ht j hj
    rw [h122]
    show 0 ≤ M 128 (at_ + j) * sz j ∧ M 128 (at_ + j) * sz j ≤ 10000
    exact ⟨this.1, Int.le_trans this.2 (by omega)⟩
  · rw [h122] at hq
    have e : q = sg (fun j => M 128 (at_ + od j) * sz (od j)) fm := by
      rw [hq, ← hwK]; exact hG.wt (f := fun s => M 128 (at_ + s))
    subst e
    refine B_X10_fills_7 ⟨by omega, ?_⟩
    exact fil (K - fm) fm _ _ M (by omega) (by omega) frP.rf hp hw hnn hQ
theorem c_X10_begins {d k l1 : Nat} {M : mM} {Q : mRes → mM → Prop} {a1 at_ c : Int} {K : Nat} {sz mn od : Int → Int} (ha : a1 ≠ 128) (hat : 0 ≤ at_ ∧ at_ ≤ 162 ∧ at_ + 6 ≤ l1) (h122 : M 122 = sz) (h123 : M 123 = od) (h2 : ∀ s, M a1 (at_ + s) = mn s) (hG : GLok c K sz mn od) (hK : M 112 7 = K)
    (hQ : ∀ M', frP at_ M M' → ptR K od (gr (zl K sz mn od) c) (fun s => M' 128 (at_ + s)) → Q (.inl none) M') : V (d + 2) k qX10_begins 0 [mR 18 58 112, mR 0 l1 a1, mI at_, mI c, mE 0] [] M Q := by
  have loop : ∀ (r j : Nat) (M' : mM), j + r = 6 → frP at_ M M' → (∀ s : Nat, s < j → M' 128 (at_ + s) = 0) → V (d + 2) k qX10_begins 3 [mR 18 58 112, mR 0 l1 a1, mI at_, mI c, mI j] [] M' Q := by
    intro r
    induction r with
    | zero =>
      intro j M' hj g1 g2
      have hz : ∀ j : Nat, j < K → M' 128 (at_ + od j) = 0 := fun j' hj' => by
        have ho := hG.o hj'
        have hk := hG.2.1
        obtain ⟨n, hn⟩ : ∃ n : Nat, od j' = n := ⟨(od j').toNat, by omega⟩
        rw [hn]; exact g2 n (by omega)
      have hf := c_X10_fills (d := d) (k := 0) (M := M') (Q := mAft (d + 1 + 1) k qX10_begins 34 [mR 18 58 112, mR 0 l1 a1, mI at_, mI c, mI j] [] Q) (fm := 0) ha hat (by rw [g1.1 122 (by decide)]; exact h122) (by rw [g1.1 123 (by decide)]; exact h123) (fun s => by rw [g1.1 a1 ha]; exact h2 s) hG (by rw [g1.1 112 (by decide)]; exact hK) (by omega) (fun j hj => by omega) (fun j _ hj => hz j hj) (by show (0 : Int) ≤ c; exact hG.1.1) (fun M'' q1 q2 q3 q4 => B_X10_begins_34 (hQ M'' (g1.tr q1) ⟨?_, fun s hs hs2 => ?_⟩))
      · refine B_X10_begins_3 ⟨fun c1 => hf, fun c1 => by omega⟩
      · rw [show c - sg (fun j => M' 128 (at_ + od j) * sz (od j)) 0 = c by show c - 0 = c; omega] at q4
        exact q4
      · show M'' 128 (at_ + s) = 0
        rw [q3 s (hG.out hs)]; exact g2 s (by omega)
    | succ r ih =>
      intro j M' hj g1 g2
      refine B_X10_begins_3 ⟨fun c1 => by omega, fun c1 => ⟨by omega, by omega, by omega, ih (j + 1) _ (by omega) (g1.up (by omega)) (fun s hs => ?_)⟩⟩
      by_cases e : s = j
      · subst e; exact up_s
      · rw [up_fld (by omega)]; exact g2 s (by omega)
  exact B_X10_begins_0 (loop 6 0 M (by omega) frP.rf (fun s hs => by omega))
set_option maxHeartbeats 2000000 in
theorem c_X10_steps {d k l1 : Nat} {M : mM} {Q : mRes → mM → Prop} {a1 at_ c : Int} {K : Nat} {sz mn od : Int → Int} {p : List Int} {B : List (List Int)} (ha : a1 ≠ 128) (hat : 0 ≤ at_ ∧ at_ ≤ 162 ∧ at_ + 6 ≤ l1) (h122 : M 122 = sz) (h123 : M 123 = od) (h2 : ∀ s, M a1 (at_ + s) = mn s) (hG : GLok c K sz mn od) (hK : M 112 7 = K)
    (hR : ptR K od p (fun s => M 128 (at_ + s))) (hPp : isP (zl K sz mn od) c p) (hB : Ch (nx (zl K sz mn od) c) (p :: B))
    (k1 : ∀ M' b B', frP at_ M M' → ptR K od b (fun s => M' 128 (at_ + s)) → B = b :: B' → Q (.inl (some (mI 1))) M') (k0 : B = [] → Q (.inl (some (mI 0))) M) :
    V (d + 2) k qX10_steps 0 [mR 18 58 112, mR 0 l1 a1, mI at_, mI c, mE 0, mE 0] [] M Q := by
  have hK6 : K ≤ 6 := hG.2.1
  have hc9 := hG.1
  have e0 : c - sg (fun j => (fun j => M 128 (at_ + od j)) j * (fun j => sz (od j)) j) 0 = c := by show c - 0 = c; omega
  have hR1 : lst (fun j => M 128 (at_ + od j)) K 0 = p := hR.1
  have hpp := isP_lst (zz := fun j => sz (od j)) (mm := fun j => mn (od j)) (pp := fun j => M 128 (at_ + od j)) (c := c) (r := K) (i := 0) (by
    rw [e0, hR1]; exact hPp)
  have hzero : (∀ j : Nat, j < K → M 128 (at_ + od j) = 0) → B = [] := fun hz => by
    have h3 := nx_zero (zz := fun j => sz (od j)) (mm := fun j => mn (od j)) (pp := fun j => M 128 (at_ + od j)) (c := c) (r := K) (i := 0) (fun j h1 h2 => hz j (by omega))
    rw [hR1, show lst (zmF (fun j => sz (od j)) (fun j => mn (od j))) K 0 = zl K sz mn od from rfl] at h3
    cases B with
    | nil => rfl
    | cons b B => rw [hB.1] at h3; cases h3
  have step : ∀ (t : Nat) (u : mV), t < K → 0 < M 128 (at_ + od t) → (∀ j : Nat, t < j → j < K → M 128 (at_ + od j) = 0) → V (d + 2) k qX10_steps 36 [mR 18 58 112, mR 0 l1 a1, mI at_, mI c, mI t, u] [] M Q := fun t u ht0 hpos hz => by
    obtain ⟨r, hr⟩ : ∃ r, K = t + 1 + r := ⟨K - t - 1, by omega⟩
    have ho := hG.o (i := t) (by omega)
    have hzt := hG.z (i := t) (by omega)
    have hpt := hpp t (by omega) (by omega)
    have h3 := nx_at (zz := fun j => sz (od j)) (mm := fun j => mn (od j)) (pp := fun j => M 128 (at_ + od j)) (c := c) (t := t) (r := r) (i := 0) (by rw [show 0 + t = t by omega]; exact hpos) (fun j h1 h2 => hz j (by omega) (by omega))
    rw [← hr, hR1, e0, show lst (zmF (fun j => sz (od j)) (fun j => mn (od j))) K 0 = zl K sz mn od from rfl, show 0 + t = t by omega] at h3
    obtain ⟨b, B', rfl⟩ : ∃ b B', B = b :: B' := by
      cases B with
      | nil => rw [show nx (zl K sz mn od) c p = none from hB] at h3; cases h3
      | cons b B => exact ⟨b, B, rfl⟩
    rw [hB.1] at h3
    injection h3 with h3
    have hle : mn (od t) ≤ 24 := by
      have hmn := hG.2.2.2.2.1
      rw [← hG.2.2.2.2.2.2.2.2 mn] at hmn
      have := sg_term (f := fun i => mn (od i)) (n := K) (fun j hj => hG.m hj) t (by omega)
      omega
    have hpt2 : M 128 (at_ + od t) ≤ mn (od t) := hpt.2.1
    have g1 : frP at_ M (mUp M 128 (at_ + od t) (M 128 (at_ + od t) - 1)) := frP.rf.up (by omega)
    have e1 : ∀ j : Nat, j < K → j ≠ t → mUp M 128 (at_ + od t) (M 128 (at_ + od t) - 1) 128 (at_ + od j) = M 128 (at_ + od j) := fun j hj hj2 => up_fld (by have := hG.n hj (show t < K by omega) hj2; omega)
    have eT : sg (fun j => M 128 (at_ + od j) * sz (od j)) (t + 1) = sg (fun j => M 128 (at_ + od j) * sz (od j)) t + M 128 (at_ + od t) * sz (od t) := rfl
    have hT : sg (fun j => M 128 (at_ + od j) * sz (od j)) (t + 1) ≤ c := hpt.2.2
    have hm1 : (M 128 (at_ + od t) - 1) * sz (od t) = M 128 (at_ + od t) * sz (od t) - sz (od t) := by rw [Int.sub_mul]; omega
    have zl2 : ∀ (r' i : Nat) (M' : mM), i + r' = K → t + 1 ≤ i → frP at_ M M' → (∀ j : Nat, j < K → M' 128 (at_ + od j) = mUp M 128 (at_ + od t) (M 128 (at_ + od t) - 1) 128 (at_ + od j)) → (∀ s, (∀ j : Nat, j < K → od j ≠ s) → M' 128 (at_ + s) = M 128 (at_ + s)) → V (d + 2) k qX10_steps 67 [mR 18 58 112, mR 0 l1 a1, mI at_, mI c, mI t, mI i] [] M' Q := by
      intro r'
      induction r' with
      | zero =>
        intro i M' hi hti q1 q2 q3
        have o7 : M' 112 7 = K := by rw [q1.1 112 (by decide)]; exact hK
        have eS : sg (fun j => M' 128 (at_ + od j) * sz (od j)) (t + 1) = sg (fun j => M 128 (at_ + od j) * sz (od j)) t + (M 128 (at_ + od t) - 1) * sz (od t) := by
          show sg (fun j => M' 128 (at_ + od j) * sz (od j)) t + M' 128 (at_ + od t) * sz (od t) = _
          rw [q2 t (by omega), up_s, sg_congr (g := fun j => M 128 (at_ + od j) * sz (od j)) (fun j hj => by
            show M' 128 (at_ + od j) * sz (od j) = _
            rw [q2 j (by omega), e1 j (by omega) (by omega)])]
        have hf := c_X10_fills (d := d) (k := 0) (M := M') (Q := mAft (d + 1 + 1) k qX10_steps 108 [mR 18 58 112, mR 0 l1 a1, mI at_, mI c, mI t, mI i] [] Q) (fm := t + 1) ha hat (by rw [q1.1 122 (by decide)]; exact h122) (by rw [q1.1 123 (by decide)]; exact h123) (fun s => by rw [q1.1 a1 ha]; exact h2 s) hG o7 (by omega) (fun j hj => ?_) (fun j h1 hj => ?_) (by rw [eS]; omega) (fun M'' f1 f2 f3 f4 => B_X10_steps_108 (k1 M'' b B' (q1.tr f1) ⟨?_, fun s hs hs2 => ?_⟩ rfl))
        · exact B_X10_steps_67 ⟨fun c1 => ⟨by omega, hf⟩, fun c1 => by omega⟩
        · rw [q2 j (by omega)]
          by_cases e : j = t
          · subst e; rw [up_s]; omega
          · rw [e1 j (by omega) e]; exact (hpp j (by omega) (by omega)).1
        · rw [q2 j hj, e1 j hj (by omega)]; exact hz j (by omega) hj
        · rw [h3]
          have ea : lst (fun j => M'' 128 (at_ + od j)) K 0 = lst (fun j => M'' 128 (at_ + od j)) t 0 ++ lst (fun j => M'' 128 (at_ + od j)) (1 + r) (0 + t) := by rw [← lst_app, hr, show t + (1 + r) = t + 1 + r by omega]
          show lst (fun j => M'' 128 (at_ + od j)) K 0 = _
          rw [ea, show 1 + r = r + 1 by omega, show 0 + t = t by omega]
          rw [lst_congr (f := fun j => M'' 128 (at_ + od j)) (g := fun j => M 128 (at_ + od j)) (r := t) (i := 0) (fun j h1 h2 => by
            show M'' 128 (at_ + od j) = M 128 (at_ + od j)
            rw [f2 j (by omega), q2 j (by omega), e1 j (by omega) (by omega)])]
          show _ ++ M'' 128 (at_ + od t) :: lst (fun j => M'' 128 (at_ + od j)) r (t + 1) = _
          rw [show K - (t + 1) = r by omega, eS] at f4
          rw [f4, f2 t (by omega), q2 t (by omega), up_s, show c - (sg (fun j => M 128 (at_ + od j) * sz (od j)) t + (M 128 (at_ + od t) - 1) * sz (od t)) = c - sg (fun j => M 128 (at_ + od j) * sz (od j)) t - (M 128 (at_ + od t) - 1) * sz (od t) by omega]
        · show M'' 128 (at_ + s) = 0
          rw [f3 s (hG.out hs), q3 s (hG.out hs)]; exact hR.2 s hs hs2
      | succ r' ih =>
        intro i M' hi hti q1 q2 q3
        have o7 : M' 112 7 = K := by rw [q1.1 112 (by decide)]; exact hK
        have o123 : M' 123 = od := by rw [q1.1 123 (by decide)]; exact h123
        have hoi := hG.o (i := i) (by omega)
        have Bk := B_X10_steps_67 (d := d + 1) (k := k) (M := M') (Q := Q) (a1 := a1) (l1 := l1) (x2 := at_) (x3 := c) (x4 := t) (x5 := i)
        simp only [o7, o123] at Bk
        refine Bk ⟨fun c1 => by omega, fun c1 => ⟨by omega, by omega, by omega, by omega, ih (i + 1) _ (by omega) (by omega) (q1.up (by omega)) (fun j hj => ?_) (fun s hs => ?_)⟩⟩
        · by_cases e : j = i
          · subst e; rw [up_s, e1 j hj (by omega)]; exact (hz j (by omega) hj).symm
          · rw [up_fld (by have := hG.n hj (show i < K by omega) e; omega)]; exact q2 j hj
        · rw [up_fld (by have := hs i (by omega); omega)]; exact q3 s hs
    have Bk := B_X10_steps_36 (d := d + 1) (k := k) (M := M) (Q := Q) (a1 := a1) (l1 := l1) (x2 := at_) (x3 := c) (x4 := t) (u5 := u)
    simp only [h123] at Bk
    refine Bk ⟨fun c1 => ⟨by omega, by omega, by omega, by omega, by omega, by omega, ?_⟩, fun c1 => by omega⟩
    exact zl2 (K - t - 1) (t + 1) _ (by omega) (by omega) g1 (fun j hj => rfl) (fun s hs => up_fld (by have := hs t (by omega); omega))
  have loop : ∀ (t : Nat) (x : Int) (u : mV), x = (t : Int) - 1 → t ≤ K → (∀ j : Nat, t ≤ j → j < K → M 128 (at_ + od j) = 0) → V (d + 2) k qX10_steps 8 [mR 18 58 112, mR 0 l1 a1, mI at_, mI c, mI x, u] [] M Q := by
    intro t
    induction t with
    | zero =>
      intro x u hx hk g
      refine B_X10_steps_8 ⟨fun c1 => B_X10_steps_36 ⟨fun c2 => by omega, fun c2 => k0 (hzero (fun j hj => g j (by omega) hj))⟩, fun c1 => by omega⟩
    | succ t ih =>
      intro x u hx hk g
      have ho := hG.o (i := t) (by omega)
      have h0 : 0 ≤ M 128 (at_ + od t) := (hpp t (by omega) (by omega)).1
      have ex : x = t := by omega
      subst ex
      have Bk := B_X10_steps_8 (d := d + 1) (k := k) (M := M) (Q := Q) (a1 := a1) (l1 := l1) (x2 := at_) (x3 := c) (x4 := t) (u5 := u)
      simp only [h123] at Bk
      refine Bk ⟨fun c1 => by omega, fun c1 => ⟨by omega, by omega, by omega, fun c2 => step t u (by omega) (by omega) (fun j h1 h2 => g j (by omega) h2), fun c2 => ⟨by omega, ih _ _ (by omega) (by omega) (fun j h1 h2 => ?_)⟩⟩⟩
      by_cases e2 : j = t
      · subst e2; exact c2
      · exact g j (by omega) h2
  have Bk := B_X10_steps_0 (d := d + 1) (k := k) (M := M) (Q := Q) (a1 := a1) (l1 := l1) (x2 := at_) (x3 := c)
  rw [hK] at Bk
  exact Bk ⟨by omega, loop K _ _ (by omega) (by omega) (fun j h1 h2 => by omega)⟩
theorem ptR_pw {c : Int} {K : Nat} {sz mn od f : Int → Int} {p : List Int} (hG : GLok c K sz mn od) (hR : ptR K od p f) : pw (zl K sz mn od) p = sg (fun s => f s * sz s) K := by
  rw [hG.wt (f := f), ← hR.1]
  have := pw_lst (zz := fun j => sz (od j)) (mm := fun j => mn (od j)) (pp := fun j => f (od j)) (r := K) (i := 0)
  rw [show 0 + K = K by omega] at this
  exact this.trans (Int.sub_zero _)
theorem ptR_mx {c fre : Int} {K : Nat} {sz mn od f : Int → Int} {p : List Int} (hG : GLok c K sz mn od) (hR : ptR K od p f) : mxA (zl K sz mn od) fre p = true ↔ ∀ s : Nat, s < K → ¬ (f s < mn s ∧ sz s ≤ fre) := by
  rw [← hR.1]
  show mxA (lst (zmF (fun j => sz (od j)) (fun j => mn (od j))) K 0) fre (lst (fun j => f (od j)) K 0) = true ↔ _
  rw [mxA_lst]
  constructor
  · intro h
    exact hG.on (P := fun s => ¬ (f s < mn s ∧ sz s ≤ fre)) (fun j hj => h j (by omega) (by omega))
  · intro h j h1 h2
    have hoj := hG.o (i := j) (by omega)
    obtain ⟨n, hn⟩ : ∃ n : Nat, od j = n := ⟨(od j).toNat, by omega⟩
    show ¬ (f (od j) < mn (od j) ∧ sz (od j) ≤ fre)
    rw [hn]; exact h n (by omega)
/-- a pattern in a row: its bounds -/
theorem ptR_bd {c : Int} {K : Nat} {sz mn od f : Int → Int} {p : List Int} (hG : GLok c K sz mn od) (hR : ptR K od p f) (hP : isP (zl K sz mn od) c p) : ∀ s : Nat, s < K → 0 ≤ f s ∧ f s ≤ mn s ∧ 0 ≤ f s * sz s ∧ f s * sz s ≤ c := by
  have hpp := isP_lst (zz := fun j => sz (od j)) (mm := fun j => mn (od j)) (pp := fun j => f (od j)) (c := c) (r := K) (i := 0) (by
    rw [show c - sg (fun j => (fun j => f (od j)) j * (fun j => sz (od j)) j) 0 = c by show c - 0 = c; omega, hR.1]; exact hP)
  have hw : sg (fun j => f (od j) * sz (od j)) K ≤ c := by
    cases K with
    | zero => exact hG.1.1
    | succ K => exact (hpp K (by omega) (by omega)).2.2
  have ht := hG.term (f := f) (fun j hj => (hpp j (by omega) (by omega)).1) hw
  have hb := hG.on (P := fun s => 0 ≤ f s ∧ f s ≤ mn s) (fun j hj => ⟨(hpp j (by omega) (by omega)).1, (hpp j (by omega) (by omega)).2.1⟩)
  exact fun s hs => ⟨(hb s hs).1, (hb s hs).2, ht s hs⟩
theorem c_X10_isMaximal {d k l1 : Nat} {M : mM} {Q : mRes → mM → Prop} {a1 at_ c : Int} {K : Nat} {sz mn od : Int → Int} {p : List Int} (hat : 0 ≤ at_ ∧ at_ ≤ 162 ∧ at_ + 6 ≤ l1) (h122 : M 122 = sz) (h2 : ∀ s, M a1 (at_ + s) = mn s) (hG : GLok c K sz mn od) (hK : M 112 7 = K)
    (hR : ptR K od p (fun s => M 128 (at_ + s))) (hPp : isP (zl K sz mn od) c p) (k1 : mx (zl K sz mn od) c p = true → Q (.inl (some (mI 1))) M) (k0 : mx (zl K sz mn od) c p = false → Q (.inl (some (mI 0))) M) : V (d + 1) k qX10_isMaximal 0 [mR 18 58 112, mR 0 l1 a1, mI at_, mI c, mE 0, mE 0] [] M Q := by
  have hK6 : K ≤ 6 := hG.2.1
  have hc9 := hG.1
  have hbd := ptR_bd hG hR hPp
  have hpw := ptR_pw hG hR
  have hP2 := isP_pw hPp
  have hP3 := pw_nn (hG.zOK (r := K) (i := 0) (by omega)) hPp
  have hmx : mx (zl K sz mn od) c p = true ↔ ∀ s : Nat, s < K → ¬ (M 128 (at_ + s) < mn s ∧ sz s ≤ c - pw (zl K sz mn od) p) := ptR_mx hG hR
  refine B_X10_isMaximal_0 (c_X10_within0 hK hK6 (by omega) (fun j hj => ?_) (fun q hq => ?_))
  · have := hbd j hj
    rw [h122]
    exact ⟨this.2.2.1, Int.le_trans this.2.2.2 (by omega)⟩
  · rw [h122, ← hpw] at hq
    subst hq
    have hP3' : 0 ≤ pw (zl K sz mn od) p := hP3
    refine B_X10_isMaximal_6 ⟨by omega, ?_⟩
    have loop : ∀ r j : Nat, j + r = K → (∀ s : Nat, s < j → ¬ (M 128 (at_ + s) < mn s ∧ sz s ≤ c - pw (zl K sz mn od) p)) → V (d + 1) k qX10_isMaximal 12 [mR 18 58 112, mR 0 l1 a1, mI at_, mI c, mI (c - pw (zl K sz mn od) p), mI j] [] M Q := by
      intro r
      induction r with
      | zero =>
        intro j hj g
        have e : j = K := by omega
        subst e
        refine B_X10_isMaximal_12 ⟨fun c1 => k1 (hmx.mpr g), fun c1 => by omega⟩
      | succ r ih =>
        intro j hj g
        have nxt : ¬ (M 128 (at_ + j) < mn j ∧ sz j ≤ c - pw (zl K sz mn od) p) → V (d + 1) k qX10_isMaximal 12 [mR 18 58 112, mR 0 l1 a1, mI at_, mI c, mI (c - pw (zl K sz mn od) p), mI ((j : Int) + 1)] [] M Q := fun z => ih (j + 1) (by omega) (fun s hs => by
          by_cases e : s = j
          · subst e; exact z
          · exact g s (by omega))
        have Bk := B_X10_isMaximal_12 (d := d) (k := k) (M := M) (Q := Q) (a1 := a1) (l1 := l1) (x2 := at_) (x3 := c) (x4 := c - pw (zl K sz mn od) p) (x5 := j)
        rw [h2, h122] at Bk
        refine Bk ⟨fun c1 => by omega, fun c1 => ⟨by omega, by omega, by omega, by omega, fun c2 => ⟨by omega, nxt (by omega)⟩, fun c2 => ⟨by omega, fun c3 => ⟨by omega, nxt (by omega)⟩, fun c3 => k0 ?_⟩⟩⟩
        cases hx : mx (zl K sz mn od) c p with
        | false => rfl
        | true => exact (hmx.mp hx j (by omega) ⟨by omega, by omega⟩).elim
    exact loop K 0 (by omega) (fun s hs => by omega)
