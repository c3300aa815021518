/-! one bit more -/
theorem or_by (a b : Nat) : a ||| b = (a / 256 ||| b / 256) * 256 + (a % 256 ||| b % 256) := by
  have h1 : (a ||| b) / 2 ^ 8 = a / 2 ^ 8 ||| b / 2 ^ 8 := Nat.or_div_two_pow
  have h2 : (a ||| b) % 2 ^ 8 = a % 2 ^ 8 ||| b % 2 ^ 8 := Nat.or_mod_two_pow
  have h3 : (a ||| b) / 2 ^ 8 * 256 + (a ||| b) % 2 ^ 8 = a ||| b := by omega
  rw [← h3, h1, h2]
theorem or8 : ∀ b : Fin 256, ∀ w : Fin 8, (b.val ||| 2 ^ w.val) < 256 ∧ pc8 (b.val ||| 2 ^ w.val) = pc8 b.val + (if b.val / 2 ^ w.val % 2 = 1 then 0 else 1) := by decide +kernel
theorem or8b : ∀ b : Fin 256, ∀ w v : Fin 8, (b.val ||| 2 ^ w.val) / 2 ^ v.val % 2 = if w.val = v.val then 1 else b.val / 2 ^ v.val % 2 := by decide +kernel
