/-! the bits of a mask: how many distinct numbers -/
def pcD : Nat → Nat → Nat
  | 0, _ => 0
  | n + 1, x => pc8 (x % 256) + pcD n (x / 256)
theorem pcN_D {x : Nat} (h : x < 33554432) : pcN x = pcD 4 x := by
  show _ = pc8 (x % 256) + (pc8 (x / 256 % 256) + (pc8 (x / 256 / 256 % 256) + (pc8 (x / 256 / 256 / 256 % 256) + 0)))
  unfold pcN
  rw [show x / 256 / 256 % 256 = x / 65536 % 256 by omega, show x / 256 / 256 / 256 % 256 = x / 16777216 by omega]
  omega
theorem p2_lo {w : Nat} (h : w < 8) : 2 ^ w < 256 := by
  have : 2 ^ w < 2 ^ 8 := Nat.pow_lt_pow_right (by omega) h
  omega
theorem p2_hi {w : Nat} (h : 8 ≤ w) : 2 ^ w = 2 ^ (w - 8) * 256 := by
  have e : w = (w - 8) + 8 := by omega
  rw [show (256 : Nat) = 2 ^ 8 from rfl, ← Nat.pow_add, ← e]
theorem or_lo {x w : Nat} (h : w < 8) : (x ||| 2 ^ w) / 256 = x / 256 ∧ (x ||| 2 ^ w) % 256 = (x % 256 ||| 2 ^ w) := by
  have hp := p2_lo h
  have o := or8 ⟨x % 256, by omega⟩ ⟨w, h⟩
  simp only [] at o
  have e := or_by x (2 ^ w)
  rw [Nat.div_eq_of_lt hp, Nat.mod_eq_of_lt hp, Nat.or_zero] at e
  rw [e]
  generalize (x % 256 ||| 2 ^ w) = y at *
  omega
theorem or_hi {x w : Nat} (h : 8 ≤ w) : (x ||| 2 ^ w) / 256 = (x / 256 ||| 2 ^ (w - 8)) ∧ (x ||| 2 ^ w) % 256 = x % 256 := by
  have hp := p2_hi h
  have e := or_by x (2 ^ w)
  rw [show 2 ^ w / 256 = 2 ^ (w - 8) by omega, show 2 ^ w % 256 = 0 by omega, Nat.or_zero] at e
  rw [e]
  generalize (x / 256 ||| 2 ^ (w - 8)) = y at *
  omega
theorem dv_lo {x w : Nat} (h : w < 8) : x / 2 ^ w % 2 = x % 256 / 2 ^ w % 2 := by
  have : w = 0 ∨ w = 1 ∨ w = 2 ∨ w = 3 ∨ w = 4 ∨ w = 5 ∨ w = 6 ∨ w = 7 := by omega
  rcases this with e | e | e | e | e | e | e | e <;> subst e <;> simp only [Nat.reducePow] <;> omega
theorem dv_hi {x w : Nat} (h : 8 ≤ w) : x / 2 ^ w % 2 = x / 256 / 2 ^ (w - 8) % 2 := by
  rw [Nat.div_div_eq_div_mul, p2_hi h, Nat.mul_comm]
theorem pcD_or : ∀ (n w x : Nat), w < 8 * n → pcD n (x ||| 2 ^ w) = pcD n x + (if x / 2 ^ w % 2 = 1 then 0 else 1)
  | 0, _, _, h => by omega
  | n + 1, w, x, h => by
    show pc8 ((x ||| 2 ^ w) % 256) + pcD n ((x ||| 2 ^ w) / 256) = pc8 (x % 256) + pcD n (x / 256) + _
    by_cases hw : w < 8
    · have o := or8 ⟨x % 256, by omega⟩ ⟨w, hw⟩
      simp only [] at o
      rw [(or_lo hw).1, (or_lo hw).2, o.2, ← dv_lo hw]; omega
    · have ih := pcD_or n (w - 8) (x / 256) (by omega)
      rw [(or_hi (by omega)).1, (or_hi (by omega)).2, ih, ← dv_hi (show 8 ≤ w by omega)]; omega
theorem bit_or : ∀ (n w v x : Nat), w < 8 * n → v < 8 * n → (x ||| 2 ^ w) / 2 ^ v % 2 = if w = v then 1 else x / 2 ^ v % 2
  | 0, _, _, _, h, _ => by omega
  | n + 1, w, v, x, h, h2 => by
    by_cases hv : v < 8
    · by_cases hw : w < 8
      · have o := or8b ⟨x % 256, by omega⟩ ⟨w, hw⟩ ⟨v, hv⟩
        simp only [] at o
        rw [dv_lo hv, (or_lo hw).2, o, ← dv_lo hv]
      · rw [dv_lo hv, (or_hi (by omega)).2, if_neg (by omega), ← dv_lo hv]
    · by_cases hw : w < 8
      · rw [dv_hi (by omega), (or_lo hw).1, if_neg (by omega), ← dv_hi (by omega)]
      · have ih := bit_or n (w - 8) (v - 8) (x / 256) (by omega) (by omega)
        rw [dv_hi (by omega), (or_hi (by omega)).1, ih, ← dv_hi (by omega)]
        by_cases e : w = v
        · rw [if_pos e, if_pos (by omega)]
        · rw [if_neg e, if_neg (by omega)]
def mkW (W : Nat → Nat) : Nat → Nat
  | 0 => 0
  | g + 1 => mkW W g ||| 2 ^ W g
/-- is the number of guess g new -/
def nwW (W : Nat → Nat) (g : Nat) : Nat → Nat
  | 0 => 1
  | i + 1 => if nwW W g i = 0 ∨ W i = W g then 0 else 1
def dsW (W : Nat → Nat) : Nat → Nat
  | 0 => 0
  | g + 1 => dsW W g + nwW W g g
theorem nwW_v {W : Nat → Nat} {n g : Nat} (hW : ∀ i, W i < 8 * n) : ∀ i : Nat, nwW W g i = if mkW W i / 2 ^ W g % 2 = 1 then 0 else 1
  | 0 => by
    have e : ¬ mkW W 0 / 2 ^ W g % 2 = 1 := by
      have : mkW W 0 / 2 ^ W g = 0 := Nat.zero_div _
      rw [this]; decide
    rw [if_neg e]; rfl
  | i + 1 => by
    have ih := nwW_v (g := g) hW i
    show (if nwW W g i = 0 ∨ W i = W g then 0 else 1) = if (mkW W i ||| 2 ^ W i) / 2 ^ W g % 2 = 1 then 0 else 1
    rw [bit_or n (W i) (W g) (mkW W i) (hW i) (hW g), ih]
    by_cases e : W i = W g
    · rw [if_pos (Or.inr e), if_pos (by rw [if_pos e])]
    · rw [if_neg e]
      by_cases h : mkW W i / 2 ^ W g % 2 = 1
      · rw [if_pos h, if_pos (Or.inl rfl)]
      · rw [if_neg h, if_neg (by omega)]
theorem pc_ds {W : Nat → Nat} {n : Nat} (hW : ∀ i, W i < 8 * n) : ∀ g : Nat, pcD n (mkW W g) = dsW W g
  | 0 => by
    show pcD n 0 = 0
    have : ∀ n : Nat, pcD n 0 = 0 := fun n => by
      induction n with
      | zero => rfl
      | succ n ih => show pc8 0 + pcD n 0 = 0; rw [ih]; rfl
    exact this n
  | g + 1 => by
    show pcD n (mkW W g ||| 2 ^ W g) = dsW W g + nwW W g g
    rw [pcD_or n (W g) (mkW W g) (hW g), pc_ds hW g, nwW_v hW g]
