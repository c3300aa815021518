/-! the order of the sorts -/
def psF (g : Int → Int) (z : Int) : Nat → Nat
  | 0 => 0
  | n + 1 => if z ≤ g n then n + 1 else psF g z n
theorem psF_le {g : Int → Int} {z : Int} : ∀ n : Nat, psF g z n ≤ n
  | 0 => by simp [psF]
  | n + 1 => by
    have := psF_le (g := g) (z := z) n
    simp only [psF]
    split <;> omega
def insF (od : Int → Int) (p : Nat) (x : Int) : Int → Int := fun j => if j < p then od j else if j = p then x else od (j - 1)
def orF (sz : Int → Int) : Nat → Int → Int
  | 0 => fun _ => 0
  | n + 1 => insF (orF sz n) (psF (fun i => sz (orF sz n i)) (sz n) n) n
theorem sg_ins {h od : Int → Int} {p : Nat} {x : Int} : ∀ m : Nat, sg (fun j => h (insF od p x j)) m = if m ≤ p then sg (fun j => h (od j)) m else sg (fun j => h (od j)) (m - 1) + h x
  | 0 => by simp [sg]
  | m + 1 => by
    have ih := sg_ins (h := h) (od := od) (p := p) (x := x) m
    have e : sg (fun j => h (insF od p x j)) (m + 1) = sg (fun j => h (insF od p x j)) m + h (insF od p x m) := rfl
    rw [e, ih]
    by_cases h1 : m + 1 ≤ p
    · rw [if_pos h1, if_pos (by omega)]
      have : insF od p x (m : Int) = od m := by unfold insF; rw [if_pos (by omega)]
      rw [this]; rfl
    · rw [if_neg h1]
      by_cases h2 : m ≤ p
      · have h3 : m = p := by omega
        subst h3
        have : insF od m x (m : Int) = x := by unfold insF; rw [if_neg (by omega), if_pos rfl]
        rw [if_pos (by omega), this]; rfl
      · rw [if_neg h2]
        have : insF od p x (m : Int) = od ((m : Int) - 1) := by unfold insF; rw [if_neg (by omega), if_neg (by omega)]
        rw [this]
        obtain ⟨m', rfl⟩ : ∃ m', m = m' + 1 := ⟨m - 1, by omega⟩
        have e2 : (((m' + 1 : Nat) : Int) - 1) = m' := by omega
        rw [e2]
        show sg (fun j => h (od j)) m' + h x + h (od m') = sg (fun j => h (od j)) m' + h (od m') + h x
        omega
theorem orF_sum {sz g : Int → Int} : ∀ n : Nat, sg (fun i => g (orF sz n i)) n = sg g n
  | 0 => rfl
  | n + 1 => by
    have hp := psF_le (g := fun i => sz (orF sz n i)) (z := sz n) n
    have e := sg_ins (h := g) (od := orF sz n) (p := psF (fun i => sz (orF sz n i)) (sz n) n) (x := n) (n + 1)
    rw [if_neg (by omega)] at e
    show sg (fun i => g (insF (orF sz n) (psF (fun i => sz (orF sz n i)) (sz n) n) n i)) (n + 1) = _
    rw [e, show n + 1 - 1 = n from rfl, orF_sum n]; rfl
theorem orF_rg {sz : Int → Int} : ∀ (n i : Nat), i < n → 0 ≤ orF sz n i ∧ orF sz n i < n
  | 0, _, h => by omega
  | n + 1, i, h => by
    have hp := psF_le (g := fun i => sz (orF sz n i)) (z := sz n) n
    show 0 ≤ insF _ _ _ _ ∧ insF _ _ _ _ < _
    unfold insF
    split
    · have := orF_rg (sz := sz) n i (by omega)
      omega
    · split
      · omega
      · obtain ⟨i', rfl⟩ : ∃ i', i = i' + 1 := ⟨i - 1, by omega⟩
        have e2 : (((i' + 1 : Nat) : Int) - 1) = i' := by omega
        rw [e2]
        have := orF_rg (sz := sz) n i' (by omega)
        omega
theorem orF_on {sz : Int → Int} : ∀ (n s : Nat), s < n → ∃ i : Nat, i < n ∧ orF sz n i = s
  | 0, _, h => by omega
  | n + 1, s, h => by
    have hp := psF_le (g := fun i => sz (orF sz n i)) (z := sz n) n
    have e : orF sz (n + 1) = insF (orF sz n) (psF (fun i => sz (orF sz n i)) (sz n) n) n := rfl
    by_cases hs : s = n
    · subst hs
      refine ⟨psF (fun i => sz (orF sz s i)) (sz s) s, by omega, ?_⟩
      rw [e]; unfold insF; rw [if_neg (by omega), if_pos rfl]
    · obtain ⟨i, hi, hi2⟩ := orF_on (sz := sz) n s (by omega)
      by_cases h1 : i < psF (fun i => sz (orF sz n i)) (sz n) n
      · exact ⟨i, by omega, by rw [e]; unfold insF; rw [if_pos (by omega)]; exact hi2⟩
      · refine ⟨i + 1, by omega, ?_⟩
        rw [e]; unfold insF; rw [if_neg (by omega), if_neg (by omega), show ((i + 1 : Nat) : Int) - 1 = i by omega]; exact hi2
theorem orF_inj {sz : Int → Int} : ∀ (n i j : Nat), i < j → j < n → orF sz n i ≠ orF sz n j
  | 0, _, _, _, h => by omega
  | n + 1, i, j, h, h2 => by
    have hp := psF_le (g := fun i => sz (orF sz n i)) (z := sz n) n
    have e : orF sz (n + 1) = insF (orF sz n) (psF (fun i => sz (orF sz n i)) (sz n) n) n := rfl
    rw [e]
    generalize psF (fun i => sz (orF sz n i)) (sz n) n = p at *
    have ej : ∀ j : Nat, j < n + 1 → p < j → insF (orF sz n) p n j = orF sz n ((j - 1 : Nat) : Int) := fun j h1 h2 => by
      unfold insF; rw [if_neg (by omega), if_neg (by omega), show (j : Int) - 1 = ((j - 1 : Nat) : Int) by omega]
    have el : ∀ j : Nat, j < p → insF (orF sz n) p n j = orF sz n j := fun j h1 => by
      unfold insF; rw [if_pos (by omega)]
    have ep : insF (orF sz n) p n (p : Int) = n := by unfold insF; rw [if_neg (by omega), if_pos rfl]
    by_cases h3 : j < p
    · rw [el i (by omega), el j h3]; exact orF_inj n i j h (by omega)
    · by_cases h4 : j = p
      · subst h4
        rw [ep, el i h]
        have := orF_rg (sz := sz) n i (by omega)
        omega
      · rw [ej j h2 (by omega)]
        have hj := orF_rg (sz := sz) n (j - 1) (by omega)
        by_cases h5 : i < p
        · rw [el i h5]; exact orF_inj n i (j - 1) (by omega) (by omega)
        · by_cases h6 : i = p
          · subst h6; rw [ep]; omega
          · rw [ej i (by omega) (by omega)]; exact orF_inj n (i - 1) (j - 1) (by omega) (by omega)
theorem c_X2_arrange {d k : Nat} {M : mM} {Q : mRes → mM → Prop} {n0 : Int} {K : Nat} (hn0 : n0 = 3 ∨ n0 = 8 ∨ n0 = 12) (hK : M n0 1 = K) (hK6 : K ≤ 6)
    (hQ : ∀ M', frN [n0 + 3] M M' → (∀ i : Nat, i < K → M' (n0 + 3) i = orF (M (n0 + 1)) K i) → Q (.inl none) M') : V d k qX2_arrange 0 [mR 11 5 n0, mE 0, mE 0] [] M Q := by
  have out : ∀ {M' : mM}, frN [n0 + 3] M M' → M' n0 1 = K ∧ M' (n0 + 1) = M (n0 + 1) := fun g => ⟨by rw [g n0 (by simp <;> omega)]; exact hK, g (n0 + 1) (by simp <;> omega)⟩
  have loop : ∀ (r i : Nat) (u : mV) (M' : mM), i + r = K → frN [n0 + 3] M M' → (∀ j : Nat, j < i → M' (n0 + 3) j = orF (M (n0 + 1)) i j) → V d k qX2_arrange 2 [mR 11 5 n0, mI i, u] [] M' Q := by
    intro r
    induction r with
    | zero =>
      intro i u M' hi g1 g2
      obtain ⟨o1, o2⟩ := out g1
      have e : i = K := by omega
      subst e
      refine B_X2_arrange_2 hn0 ⟨fun c1 => ?_, fun c1 => ?_⟩ <;> try omega
      · exact hQ M' g1 g2
    | succ r ih =>
      intro i u M' hi g1 g2
      obtain ⟨o1, o2⟩ := out g1
      have hrg := orF_rg (sz := M (n0 + 1)) i
      have eo : orF (M (n0 + 1)) (i + 1) = insF (orF (M (n0 + 1)) i) (psF (fun j => M (n0 + 1) (orF (M (n0 + 1)) i j)) (M (n0 + 1) i) i) i := rfl
      have ih2 := fun u M' => ih (i + 1) u M' (by omega)
      rw [eo] at ih2
      clear ih eo
      generalize orF (M (n0 + 1)) i = od at *
      have inner : ∀ (q : Nat) (M' : mM), q ≤ i → frN [n0 + 3] M M' → (∀ j : Nat, j < q → M' (n0 + 3) j = od j) → (∀ j : Nat, q ≤ j → j < i → M' (n0 + 3) ((j : Int) + 1) = od j) → psF (fun j => M (n0 + 1) (od j)) (M (n0 + 1) i) i = psF (fun j => M (n0 + 1) (od j)) (M (n0 + 1) i) q → V d k qX2_arrange 12 [mR 11 5 n0, mI i, mI q] [] M' Q := by
        intro q
        induction q with
        | zero =>
          intro M' hq g1 g2 g3 g4
          obtain ⟨o1, o2⟩ := out g1
          refine B_X2_arrange_12 hn0 ⟨fun c1 => ⟨?_, ?_, ?_⟩, fun c1 => ⟨?_, ?_, ?_, ?_, fun c2 => ⟨?_, ?_, ?_⟩, fun c2 => ⟨?_, ?_, ?_, ?_, ?_⟩⟩⟩ <;> try omega
          · refine ih2 _ _ (g1.up (by simp)) (fun j hj => ?_)
            rw [g4]
            show _ = insF od 0 i j
            unfold insF
            by_cases e : j = 0
            · subst e
              rw [if_neg (by omega), if_pos rfl]; exact up_s
            · obtain ⟨j', rfl⟩ : ∃ j', j = j' + 1 := ⟨j - 1, by omega⟩
              rw [if_neg (by omega), if_neg (by omega), show (((j' + 1 : Nat) : Int) - 1) = j' by omega, ← g3 j' (by omega) (by omega)]
              exact up_fld (by omega)
        | succ q ihq =>
          intro M' hq g1 g2 g3 g4
          obtain ⟨o1, o2⟩ := out g1
          have h1 := g2 q (by omega)
          have h2 := hrg q (by omega)
          have e0 : ((q + 1 : Nat) : Int) - 1 = q := by omega
          have e1 : psF (fun j => M (n0 + 1) (od j)) (M (n0 + 1) i) (q + 1) = if M (n0 + 1) i ≤ M (n0 + 1) (od q) then q + 1 else psF (fun j => M (n0 + 1) (od j)) (M (n0 + 1) i) q := rfl
          refine B_X2_arrange_12 hn0 ⟨fun c1 => by omega, fun c1 => ?_⟩
          rw [e0, h1, o2]
          refine ⟨by omega, by omega, by omega, by omega, fun c2 => ⟨by omega, by omega, ?_⟩, fun c2 => ⟨by omega, by omega, by omega, by omega, ?_⟩⟩
          · refine ih2 _ _ (g1.up (by simp)) (fun j hj => ?_)
            rw [g4, e1, if_pos c2]
            unfold insF
            by_cases e : j = q + 1
            · subst e
              rw [if_neg (by omega), if_pos rfl]; exact up_s
            · by_cases e3 : j < q + 1
              · rw [if_pos (by omega), ← g2 j (by omega)]; exact up_fld (by omega)
              · obtain ⟨j', rfl⟩ : ∃ j', j = j' + 1 := ⟨j - 1, by omega⟩
                rw [if_neg (by omega), if_neg (by omega), show (((j' + 1 : Nat) : Int) - 1) = j' by omega, ← g3 j' (by omega) (by omega)]
                exact up_fld (by omega)
          · rw [show ((q + 1 : Nat) : Int) + -1 = q by omega]
            refine ihq _ (by omega) (g1.up (by simp)) (fun j hj => ?_) (fun j hj hj2 => ?_) (by rw [g4, e1, if_neg c2])
            · rw [up_fld (by omega)]; exact g2 j (by omega)
            · by_cases e : j = q
              · subst e; exact up_s
              · rw [up_fld (by omega)]; exact g3 j (by omega) hj2
      refine B_X2_arrange_2 hn0 ⟨fun c1 => ?_, fun c1 => ?_⟩ <;> try omega
      · exact inner i M' (by omega) g1 g2 (fun j h1 h2 => by omega) rfl
  exact B_X2_arrange_0 hn0 (loop K 0 _ M (by omega) (fun _ _ => rfl) (fun j hj => by omega))
theorem c_X10_orders {d k : Nat} {M : mM} {Q : mRes → mM → Prop} {K : Nat} (hK : M 112 7 = K) (hK6 : K ≤ 6)
    (hQ : ∀ M', frN [123] M M' → (∀ i : Nat, i < K → M' 123 i = orF (M 122) K i) → Q (.inl none) M') : V d k qX10_orders 0 [mR 18 58 112, mE 0, mE 0] [] M Q := by
  have out : ∀ {M' : mM}, frN [123] M M' → M' 112 7 = K ∧ M' 122 = M 122 := fun g => ⟨by rw [g 112 (by simp)]; exact hK, g 122 (by simp)⟩
  have loop : ∀ (r i : Nat) (u : mV) (M' : mM), i + r = K → frN [123] M M' → (∀ j : Nat, j < i → M' 123 j = orF (M 122) i j) → V d k qX10_orders 2 [mR 18 58 112, mI i, u] [] M' Q := by
    intro r
    induction r with
    | zero =>
      intro i u M' hi g1 g2
      obtain ⟨o1, o2⟩ := out g1
      have e : i = K := by omega
      subst e
      refine B_X10_orders_2  ⟨fun c1 => ?_, fun c1 => ?_⟩ <;> try omega
      · exact hQ M' g1 g2
    | succ r ih =>
      intro i u M' hi g1 g2
      obtain ⟨o1, o2⟩ := out g1
      have hrg := orF_rg (sz := M 122) i
      have eo : orF (M 122) (i + 1) = insF (orF (M 122) i) (psF (fun j => M 122 (orF (M 122) i j)) (M 122 i) i) i := rfl
      have ih2 := fun u M' => ih (i + 1) u M' (by omega)
      rw [eo] at ih2
      clear ih eo
      generalize orF (M 122) i = od at *
      have inner : ∀ (q : Nat) (M' : mM), q ≤ i → frN [123] M M' → (∀ j : Nat, j < q → M' 123 j = od j) → (∀ j : Nat, q ≤ j → j < i → M' 123 ((j : Int) + 1) = od j) → psF (fun j => M 122 (od j)) (M 122 i) i = psF (fun j => M 122 (od j)) (M 122 i) q → V d k qX10_orders 12 [mR 18 58 112, mI i, mI q] [] M' Q := by
        intro q
        induction q with
        | zero =>
          intro M' hq g1 g2 g3 g4
          obtain ⟨o1, o2⟩ := out g1
          refine B_X10_orders_12  ⟨fun c1 => ⟨?_, ?_, ?_⟩, fun c1 => ⟨?_, ?_, ?_, ?_, fun c2 => ⟨?_, ?_, ?_⟩, fun c2 => ⟨?_, ?_, ?_, ?_, ?_⟩⟩⟩ <;> try omega
          · refine ih2 _ _ (g1.up (by simp)) (fun j hj => ?_)
            rw [g4]
            show _ = insF od 0 i j
            unfold insF
            by_cases e : j = 0
            · subst e
              rw [if_neg (by omega), if_pos rfl]; exact up_s
            · obtain ⟨j', rfl⟩ : ∃ j', j = j' + 1 := ⟨j - 1, by omega⟩
              rw [if_neg (by omega), if_neg (by omega), show (((j' + 1 : Nat) : Int) - 1) = j' by omega, ← g3 j' (by omega) (by omega)]
              exact up_fld (by omega)
        | succ q ihq =>
          intro M' hq g1 g2 g3 g4
          obtain ⟨o1, o2⟩ := out g1
          have h1 := g2 q (by omega)
          have h2 := hrg q (by omega)
          have e0 : ((q + 1 : Nat) : Int) - 1 = q := by omega
          have e1 : psF (fun j => M 122 (od j)) (M 122 i) (q + 1) = if M 122 i ≤ M 122 (od q) then q + 1 else psF (fun j => M 122 (od j)) (M 122 i) q := rfl
          refine B_X10_orders_12 ⟨fun c1 => by omega, fun c1 => ?_⟩
          rw [e0, h1, o2]
          refine ⟨by omega, by omega, by omega, by omega, fun c2 => ⟨by omega, by omega, ?_⟩, fun c2 => ⟨by omega, by omega, by omega, by omega, ?_⟩⟩
          · refine ih2 _ _ (g1.up (by simp)) (fun j hj => ?_)
            rw [g4, e1, if_pos c2]
            unfold insF
            by_cases e : j = q + 1
            · subst e
              rw [if_neg (by omega), if_pos rfl]; exact up_s
            · by_cases e3 : j < q + 1
              · rw [if_pos (by omega), ← g2 j (by omega)]; exact up_fld (by omega)
              · obtain ⟨j', rfl⟩ : ∃ j', j = j' + 1 := ⟨j - 1, by omega⟩
                rw [if_neg (by omega), if_neg (by omega), show (((j' + 1 : Nat) : Int) - 1) = j' by omega, ← g3 j' (by omega) (by omega)]
                exact up_fld (by omega)
          · rw [show ((q + 1 : Nat) : Int) + -1 = q by omega]
            refine ihq _ (by omega) (g1.up (by simp)) (fun j hj => ?_) (fun j hj hj2 => ?_) (by rw [g4, e1, if_neg c2])
            · rw [up_fld (by omega)]; exact g2 j (by omega)
            · by_cases e : j = q
              · subst e; exact up_s
              · rw [up_fld (by omega)]; exact g3 j (by omega) hj2
      refine B_X10_orders_2  ⟨fun c1 => ?_, fun c1 => ?_⟩ <;> try omega
      · exact inner i M' (by omega) g1 g2 (fun j h1 h2 => by omega) rfl
  exact B_X10_orders_0 (loop K 0 _ M (by omega) (fun _ _ => rfl) (fun j hj => by omega))
