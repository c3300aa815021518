/-! the rule with the most distinct numbers -/
/-- the first of the rules below n with the greatest number -/
def wdF (u : Nat → Nat) : Nat → Nat
  | 0 => 0
  | n + 1 => if u (wdF u n) < u n then n else wdF u n
theorem wdF_lt {u : Nat → Nat} : ∀ n : Nat, wdF u (n + 1) ≤ n
  | 0 => by
    show (if u 0 < u 0 then 0 else 0) ≤ 0
    rw [if_neg (by omega)]; omega
  | n + 1 => by
    have h := wdF_lt (u := u) n
    show (if u (wdF u (n + 1)) < u (n + 1) then n + 1 else wdF u (n + 1)) ≤ n + 1
    split <;> omega
theorem c_X1_widest {d k : Nat} {M : mM} {Q : mRes → mM → Prop} {W : Nat → Nat → Nat} {g : Nat} (hW : ∀ r i, W r i < 25) (hM : ∀ r : Nat, r < 8 → M 109 r = ((mkW (W r) g : Nat) : Int)) (hQ : Q (.inl (some (mI ((wdF (fun r => dsW (W r) g) 8 : Nat) : Int)))) M) : V (d + 2) k qX1_widest 0 [mR 10 3 108, mE 0, mE 0] [] M Q := by
  have loop : ∀ (n j : Nat), j + n = 7 → V (d + 2) k qX1_widest 4 [mR 10 3 108, mI ((wdF (fun r => dsW (W r) g) (j + 1) : Nat) : Int), mI ((j : Int) + 1)] [] M Q := by
    intro n
    induction n with
    | zero =>
      intro j hj
      have e : j = 7 := by omega
      subst e
      exact B_X1_widest_4 ⟨fun _ => hQ, fun z => by omega⟩
    | succ n ih =>
      intro j hj
      have hw := wdF_lt (u := fun r => dsW (W r) g) j
      have ev : (j : Int) + 1 = ((j + 1 : Nat) : Int) := rfl
      have nx := ih (j + 1) (by omega)
      have ew : wdF (fun r => dsW (W r) g) (j + 1 + 1) = if dsW (W (wdF (fun r => dsW (W r) g) (j + 1))) g < dsW (W (j + 1)) g then j + 1 else wdF (fun r => dsW (W r) g) (j + 1) := rfl
      generalize wdF (fun r => dsW (W r) g) (j + 1) = b at *
      refine B_X1_widest_4 ⟨fun z => by omega, fun _ => ?_⟩
      rw [ev]
      refine c_X1_unlike (W := W (j + 1)) (g := g) (hW (j + 1)) (by omega) (hM (j + 1) (by omega)) (B_X1_widest_15 (c_X1_unlike (W := W b) (g := g) (hW b) (by omega) (hM b (by omega)) ?_))
      refine B_X1_widest_20 ⟨fun z => ⟨by omega, ?_⟩, fun z => ⟨by omega, ?_⟩⟩
      · rw [if_neg (by omega)] at ew
        rw [ew] at nx; exact nx
      · rw [if_pos (by omega)] at ew
        rw [ew] at nx; exact nx
  have e1 : wdF (fun r => dsW (W r) g) (0 + 1) = 0 := Nat.le_zero.mp (wdF_lt (u := fun r => dsW (W r) g) 0)
  have := loop 7 0 (by omega)
  rw [e1] at this
  exact B_X1_widest_0 this
