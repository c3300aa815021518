/-! sums, and the smallest methods -/
def sg (f : Int → Int) : Nat → Int
  | 0 => 0
  | n + 1 => sg f n + f n
theorem sg_bd {f : Int → Int} {c : Int} : ∀ {n : Nat}, (∀ j : Nat, j < n → 0 ≤ f j ∧ f j ≤ c) → 0 ≤ sg f n ∧ sg f n ≤ c * n
  | 0, _ => by simp [sg]
  | n + 1, h => by
    have h1 := sg_bd (n := n) (fun j hj => h j (by omega))
    have h2 := h n (by omega)
    have h3 : c * ((n + 1 : Nat) : Int) = c * n + c := by rw [Int.natCast_add, Int.mul_add]; simp
    rw [h3]
    simp only [sg]
    omega
theorem sg_le {f : Int → Int} {n m : Nat} (h : n ≤ m) (h0 : ∀ j : Nat, j < m → 0 ≤ f j) : sg f n ≤ sg f m := by
  induction m with
  | zero => rw [show n = 0 by omega]; exact Int.le_refl _
  | succ m ih =>
    by_cases e : n = m + 1
    · subst e; exact Int.le_refl _
    · have h1 := ih (by omega) (fun j hj => h0 j (by omega))
      have h2 := h0 m (by omega)
      simp only [sg]
      omega
theorem sg_congr {f g : Int → Int} : ∀ {n : Nat}, (∀ j : Nat, j < n → f j = g j) → sg f n = sg g n
  | 0, _ => rfl
  | n + 1, h => by simp only [sg]; rw [sg_congr (fun j hj => h j (by omega)), h n (by omega)]
/-- a number by another, rounded up -/
def rUp (n b : Int) : Int := if n < 1 ∨ b < 1 then 0 else (n - 1) / b + 1
theorem rUp_bd {n b : Int} (h : 0 ≤ n) : 0 ≤ rUp n b ∧ rUp n b ≤ n := by
  unfold rUp
  split
  · omega
  · have h1 := Int.ediv_nonneg (a := n - 1) (b := b) (by omega) (by omega)
    have h2 := Int.ediv_le_self b (show 0 ≤ n - 1 by omega)
    omega
theorem c_X0_roundUp {d k : Nat} {M : mM} {Q : mRes → mM → Prop} {x y : Int} (hx : -1000000000 ≤ x ∧ x ≤ 1000000000) (hQ : ∀ r, r = rUp x y → Q (.inl (some (mI r))) M) : V d k qX0_roundUp 0 [mI x, mI y] [] M Q := by
  have hb : 1 ≤ x → 1 ≤ y → 0 ≤ (x - 1) / y ∧ (x - 1) / y ≤ x - 1 := fun h1 h2 => ⟨Int.ediv_nonneg (by omega) (by omega), Int.ediv_le_self y (by omega)⟩
  refine B_X0_roundUp_0  ⟨fun c1 => ?_, fun c1 => ⟨fun c2 => ⟨?_, ?_, ?_, ?_⟩, fun c2 => ?_⟩⟩ <;> try omega
  · exact hQ _ (by unfold rUp; rw [if_pos (by omega)])
  · exact hQ _ (by unfold rUp; rw [if_neg (by omega)])
  · exact hQ _ (by unfold rUp; rw [if_pos (by omega)])
theorem c_X2_cut {d k : Nat} {M : mM} {Q : mRes → mM → Prop} {x y : Int} (hx : 0 ≤ x) (hQ : ∀ r, r = (if y < 1 then 0 else x / y) → Q (.inl (some (mI r))) M) : V d k qX2_cut 0 [mI x, mI y] [] M Q := by
  refine B_X2_cut_0  ⟨fun c1 => ⟨?_, ?_⟩, fun c1 => ?_⟩ <;> try omega
  · exact hQ _ (by rw [if_neg (by omega)])
  · exact hQ _ (by rw [if_pos (by omega)])
theorem c_X2_weightOf {d k : Nat} {M : mM} {Q : mRes → mM → Prop} {n0 a1 : Int} {K : Nat} (hn0 : n0 = 3 ∨ n0 = 8 ∨ n0 = 12) (hK : M n0 1 = K) (hK6 : K ≤ 6) (hb : ∀ j : Nat, j < K → 0 ≤ M (n0 + 1) j * M a1 j ∧ M (n0 + 1) j * M a1 j ≤ 10000) (hQ : ∀ r, r = sg (fun j => M (n0 + 1) j * M a1 j) K → Q (.inl (some (mI r))) M) : V d k qX2_weightOf 0 [mR 11 5 n0, mR 0 6 a1, mE 0, mE 0] [] M Q := by
  have loop : ∀ r j : Nat, j + r = K → V d k qX2_weightOf 4 [mR 11 5 n0, mR 0 6 a1, mI (sg (fun j => M (n0 + 1) j * M a1 j) j), mI j] [] M Q := by
    intro r
    induction r with
    | zero =>
      intro j hj
      refine B_X2_weightOf_4 hn0 ⟨fun c1 => ?_, fun c1 => ⟨fun c2 => ?_, fun c2 => ⟨?_, ?_, ?_, ?_, ?_, ?_⟩⟩⟩ <;> try omega
      · exact hQ _ (by rw [show j = K by omega])
    | succ r ih =>
      intro j hj
      have h1 := hb j (by omega)
      have h2 := sg_bd (f := fun j => M (n0 + 1) j * M a1 j) (n := j) (fun i hi => hb i (by omega))
      refine B_X2_weightOf_4 hn0 ⟨fun c1 => ?_, fun c1 => ⟨fun c2 => ?_, fun c2 => ⟨?_, ?_, ?_, ?_, ?_, ?_⟩⟩⟩ <;> try omega
      · exact ih (j + 1) (by omega)
  exact B_X2_weightOf_0 hn0 (loop K 0 (by omega))
theorem mulb {x y a b : Int} (hx : 0 ≤ x ∧ x ≤ a) (hy : -b ≤ y ∧ y ≤ b) : -(a * b) ≤ x * y ∧ x * y ≤ a * b := by
  have hb : 0 ≤ b := by omega
  have h1 : x * y ≤ x * b := Int.mul_le_mul_of_nonneg_left hy.2 hx.1
  have h2 : x * b ≤ a * b := Int.mul_le_mul_of_nonneg_right hx.2 hb
  have h3 : x * (-b) ≤ x * y := Int.mul_le_mul_of_nonneg_left hy.1 hx.1
  rw [Int.mul_neg] at h3
  omega
theorem mulp {x y a b : Int} (hx : 0 ≤ x ∧ x ≤ a) (hy : 0 ≤ y ∧ y ≤ b) : 0 ≤ x * y ∧ x * y ≤ a * b := by
  have h1 : x * y ≤ x * b := Int.mul_le_mul_of_nonneg_left hy.2 hx.1
  have h2 : x * b ≤ a * b := Int.mul_le_mul_of_nonneg_right hx.2 (by omega)
  have h3 := Int.mul_nonneg hx.1 hy.1
  omega
