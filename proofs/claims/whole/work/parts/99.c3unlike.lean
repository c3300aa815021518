/-! how many distinct: unlike on both sides -/
theorem mkW_lt {W : Nat → Nat} (hW : ∀ i, W i < 25) : ∀ g : Nat, mkW W g < 33554432
  | 0 => by show 0 < 33554432; omega
  | g + 1 => by
    have h1 := mkW_lt hW g
    have h2 : 2 ^ W g < 2 ^ 25 := Nat.pow_lt_pow_right (by omega) (hW g)
    have h3 : mkW W g < 2 ^ 25 := by show _ < 33554432; exact h1
    exact Nat.or_lt_two_pow h3 h2
theorem nwW_01 {W : Nat → Nat} {g : Nat} : ∀ i : Nat, nwW W g i ≤ 1
  | 0 => Nat.le_refl _
  | i + 1 => by unfold nwW; split <;> omega
theorem dsW_le {W : Nat → Nat} : ∀ g : Nat, dsW W g ≤ g
  | 0 => Nat.le_refl _
  | g + 1 => by
    have := dsW_le (W := W) g
    have := nwW_01 (W := W) (g := g) g
    show dsW W g + nwW W g g ≤ g + 1
    omega
theorem c_X1_unlike {d k : Nat} {M : mM} {Q : mRes → mM → Prop} {W : Nat → Nat} {g r : Nat} (hW : ∀ i, W i < 25) (hr : r < 8) (hM : M 109 r = ((mkW W g : Nat) : Int)) (hQ : Q (.inl (some (mI ((dsW W g : Nat) : Int)))) M) : V (d + 1) k qX1_unlike 0 [mR 10 3 108, mI r] [] M Q := by
  have hl := mkW_lt hW g
  have Bk := B_X1_unlike_0 (d := d) (k := k) (M := M) (Q := Q) (x1 := r)
  rw [hM] at Bk
  refine Bk ⟨fun z => by omega, fun _ => ⟨fun z => by omega, fun _ => ⟨by omega, c_J6_bitCount hl (B_X1_unlike_19 ?_)⟩⟩⟩
  rw [pcN_D hl, pc_ds (n := 4) (fun i => by have := hW i; omega) g]
  exact hQ
theorem c_X10_unlike {d k : Nat} {M : mM} {Q : mRes → mM → Prop} {W : Nat → Nat} {g r : Nat} (hr : r < 8) (hg : g ≤ 599) (hM : ∀ i : Nat, i < g → M 136 (8 * (i : Int) + r) = ((W i : Nat) : Int)) (hQ : Q (.inl (some (mI ((dsW W g : Nat) : Int)))) M) : V d k qX10_unlike 0 [mR 18 58 112, mI r, mI g, mE 0, mE 0, mE 0, mE 0] [] M Q := by
  have outer : ∀ (n j : Nat) (u5 u6 : mV), j + n = g → V d k qX10_unlike 5 [mR 18 58 112, mI r, mI g, mI ((dsW W j : Nat) : Int), mI j, u5, u6] [] M Q := by
    intro n
    induction n with
    | zero =>
      intro j u5 u6 hj
      exact B_X10_unlike_5 ⟨fun _ => by rw [show j = g by omega]; exact hQ, fun z => by omega⟩
    | succ n ih =>
      intro j u5 u6 hj
      have hd := dsW_le (W := W) j
      have fin : ∀ (x : Nat) (u6 : Int), x = nwW W j j → V d k qX10_unlike 69 [mR 18 58 112, mI r, mI g, mI ((dsW W j : Nat) : Int), mI j, mI x, mI u6] [] M Q := fun x u6 hx => by
        have nx := fun u5 u6 => ih (j + 1) u5 u6 (by omega)
        have ed : dsW W (j + 1) = dsW W j + nwW W j j := rfl
        rw [ed, ← hx] at nx
        have h01 := nwW_01 (W := W) (g := j) j
        refine B_X10_unlike_69 ⟨fun z => ⟨by omega, by omega, ?_⟩, fun z => ⟨by omega, by omega, ?_⟩⟩
        · have e : x = 0 := by omega
          subst e
          exact nx _ _
        · have e : x = 1 := by omega
          subst e
          exact nx _ _
      have z0 : ∀ m i : Nat, nwW W j i = 0 → nwW W j (i + m) = 0 := fun m i h => by
        induction m with
        | zero => exact h
        | succ m ihm => show (if nwW W j (i + m) = 0 ∨ _ then 0 else 1) = 0; rw [if_pos (Or.inl ihm)]
      have inner : ∀ (m i : Nat), i + m = j → V d k qX10_unlike 17 [mR 18 58 112, mI r, mI g, mI ((dsW W j : Nat) : Int), mI j, mI ((nwW W j i : Nat) : Int), mI i] [] M Q := by
        intro m
        induction m with
        | zero =>
          intro i hi
          exact B_X10_unlike_17 ⟨fun _ => fin _ _ (by rw [show i = j by omega]), fun z => by omega⟩
        | succ m ihm =>
          intro i hi
          have h01 := nwW_01 (W := W) (g := j) i
          have Bk := B_X10_unlike_17 (d := d) (k := k) (M := M) (Q := Q) (x1 := r) (x2 := g) (x3 := ((dsW W j : Nat) : Int)) (x4 := j) (x5 := ((nwW W j i : Nat) : Int)) (x6 := i)
          rw [hM i (by omega), hM j (by omega)] at Bk
          have nx := ihm (i + 1) (by omega)
          have en : nwW W j (i + 1) = if nwW W j i = 0 ∨ W i = W j then 0 else 1 := rfl
          refine Bk ⟨fun z => by omega, fun _ => ⟨fun z => fin _ _ ?_, fun z => ⟨by omega, by omega, by omega, by omega, by omega, by omega, fun y => ⟨by omega, ?_⟩, fun y => ⟨by omega, ?_⟩⟩⟩⟩
          · have := z0 (m + 1) i (by omega)
            rw [show i + (m + 1) = j by omega] at this
            omega
          · rw [if_pos (Or.inr (by omega))] at en
            rw [en] at nx; exact nx
          · rw [if_neg (by omega)] at en
            rw [en] at nx; exact nx
      exact B_X10_unlike_5 ⟨fun z => by omega, fun _ => inner j 0 (by omega)⟩
  exact B_X10_unlike_0 (outer g 0 _ _ (by omega))
