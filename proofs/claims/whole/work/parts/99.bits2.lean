/-! Integer.bitCount, its value -/
def bN1 (x : Nat) : Nat := x - (x / 2 &&& 1431655765)
def bN2 (a : Nat) : Nat := (a &&& 858993459) + (a / 4 &&& 858993459)
def bN3 (a : Nat) : Nat := (a + a / 16) &&& 252645135
def bN4 (a : Nat) : Nat := a + a / 256
def bN5 (a : Nat) : Nat := a + a / 65536
def pcN (x : Nat) : Nat := pc8 (x % 256) + pc8 (x / 256 % 256) + pc8 (x / 65536 % 256) + pc8 (x / 16777216)
theorem f1_lt {b : Nat} (h : b < 256) : f1 b < 256 := by unfold f1; omega
theorem b_all {x : Nat} (hx : x < 33554432) : bN1 x < 33554432 ∧ bN2 (bN1 x) < 2147483648 ∧ bN2 (bN1 x) + bN2 (bN1 x) / 16 < 2147483648 ∧ bN3 (bN2 (bN1 x)) < 2147483648 ∧ bN4 (bN3 (bN2 (bN1 x))) < 2147483648 ∧ bN5 (bN4 (bN3 (bN2 (bN1 x)))) < 2147483648 ∧ bN5 (bN4 (bN3 (bN2 (bN1 x)))) % 64 = pcN x := by
  obtain ⟨b0, b1, b2, b3, h0, h1, h2, h3, e⟩ : ∃ b0 b1 b2 b3 : Nat, b0 < 256 ∧ b1 < 256 ∧ b2 < 256 ∧ b3 < 2 ∧ x = b0 + 256 * b1 + 65536 * b2 + 16777216 * b3 := ⟨x % 256, x / 256 % 256, x / 65536 % 256, x / 16777216, by omega, by omega, by omega, by omega, by omega⟩
  have t0 := st1 ⟨b0, h0⟩ ⟨b1 % 2, by omega⟩
  have t1 := st1 ⟨b1, h1⟩ ⟨b2 % 2, by omega⟩
  have t2 := st1 ⟨b2, h2⟩ ⟨b3 % 2, by omega⟩
  have t3 := st1 ⟨b3, by omega⟩ ⟨0, by omega⟩
  simp only [] at t0 t1 t2 t3
  have n1 : bN1 x = f1 b0 + 256 * f1 b1 + 65536 * f1 b2 + 16777216 * f1 b3 := by
    unfold bN1 f1
    have ed : x / 2 = (b0 / 2 + 128 * (b1 % 2)) + 256 * (b1 / 2 + 128 * (b2 % 2)) + 65536 * (b2 / 2 + 128 * (b3 % 2)) + 16777216 * (b3 / 2) := by omega
    have ea := and4 (b0 / 2 + 128 * (b1 % 2)) (b1 / 2 + 128 * (b2 % 2)) (b2 / 2 + 128 * (b3 % 2)) (b3 / 2) 85 (by omega) (by omega) (by omega) (by omega) (by omega)
    rw [ed, show (1431655765 : Nat) = 85 + 256 * 85 + 65536 * 85 + 16777216 * 85 from rfl, ea, t0.1, t1.1, t2.1]
    omega
  have g0 := f1_lt h0
  have g1 := f1_lt h1
  have g2 := f1_lt h2
  have g3 : f1 b3 < 2 := by unfold f1; omega
  have u0 := st2 ⟨b0, h0⟩ ⟨f1 b1 % 4, by omega⟩
  have u1 := st2 ⟨b1, h1⟩ ⟨f1 b2 % 4, by omega⟩
  have u2 := st2 ⟨b2, h2⟩ ⟨f1 b3 % 4, by omega⟩
  have u3 := st2 ⟨b3, by omega⟩ ⟨0, by omega⟩
  simp only [] at u0 u1 u2 u3
  have n2 : bN2 (bN1 x) = f2 b0 + 256 * f2 b1 + 65536 * f2 b2 + 16777216 * f2 b3 := by
    rw [n1]
    unfold bN2 f2
    have ed : (f1 b0 + 256 * f1 b1 + 65536 * f1 b2 + 16777216 * f1 b3) / 4 = (f1 b0 / 4 + 64 * (f1 b1 % 4)) + 256 * (f1 b1 / 4 + 64 * (f1 b2 % 4)) + 65536 * (f1 b2 / 4 + 64 * (f1 b3 % 4)) + 16777216 * (f1 b3 / 4) := by omega
    have ea := and4 (f1 b0 / 4 + 64 * (f1 b1 % 4)) (f1 b1 / 4 + 64 * (f1 b2 % 4)) (f1 b2 / 4 + 64 * (f1 b3 % 4)) (f1 b3 / 4) 51 (by omega) (by omega) (by omega) (by omega) (by omega)
    have eb := and4 (f1 b0) (f1 b1) (f1 b2) (f1 b3) 51 (by omega) (by omega) (by omega) (by omega) (by omega)
    rw [ed, show (858993459 : Nat) = 51 + 256 * 51 + 65536 * 51 + 16777216 * 51 from rfl, ea, eb, u0.1, u1.1, u2.1]
    omega
  have w0 := st3 ⟨b0, h0⟩
  have w1 := st3 ⟨b1, h1⟩
  have w2 := st3 ⟨b2, h2⟩
  have w3 := st3 ⟨b3, by omega⟩
  have v1 := st3b ⟨b1, h1⟩ ⟨f2 b2 % 16, by omega⟩
  have v2 := st3b ⟨b2, h2⟩ ⟨f2 b3 % 16, by omega⟩
  have v3 := st3b ⟨b3, by omega⟩ ⟨0, by omega⟩
  have v0 := st3b ⟨b0, h0⟩ ⟨f2 b1 % 16, by omega⟩
  simp only [] at v0 v1 v2 v3 w0 w1 w2 w3
  have ed3 : bN2 (bN1 x) + bN2 (bN1 x) / 16 = (f2 b0 + f2 b0 / 16 + 16 * (f2 b1 % 16)) + 256 * (f2 b1 + f2 b1 / 16 + 16 * (f2 b2 % 16)) + 65536 * (f2 b2 + f2 b2 / 16 + 16 * (f2 b3 % 16)) + 16777216 * (f2 b3 + f2 b3 / 16) := by rw [n2]; omega
  have n3 : bN3 (bN2 (bN1 x)) = pc8 b0 + 256 * pc8 b1 + 65536 * pc8 b2 + 16777216 * pc8 b3 := by
    unfold bN3
    have ea := and4 (f2 b0 + f2 b0 / 16 + 16 * (f2 b1 % 16)) (f2 b1 + f2 b1 / 16 + 16 * (f2 b2 % 16)) (f2 b2 + f2 b2 / 16 + 16 * (f2 b3 % 16)) (f2 b3 + f2 b3 / 16) 15 (by omega) (by omega) (by omega) (by omega) (by omega)
    have z0 := v0.1
    have z1 := v1.1
    have z2 := v2.1
    rw [Nat.mod_eq_of_lt (by omega)] at z0 z1 z2
    rw [ed3, show (252645135 : Nat) = 15 + 256 * 15 + 65536 * 15 + 16777216 * 15 from rfl, ea, z0, z1, z2, w3.1]
  have hp : pcN x = pc8 b0 + pc8 b1 + pc8 b2 + pc8 b3 := by
    unfold pcN
    rw [show x % 256 = b0 by omega, show x / 256 % 256 = b1 by omega, show x / 65536 % 256 = b2 by omega, show x / 16777216 = b3 by omega]
  have n4 : bN4 (bN3 (bN2 (bN1 x))) = (pc8 b0 + pc8 b1) + 256 * (pc8 b1 + pc8 b2) + 65536 * (pc8 b2 + pc8 b3) + 16777216 * pc8 b3 := by rw [n3]; unfold bN4; omega
  have n5 : bN5 (bN4 (bN3 (bN2 (bN1 x)))) = (pc8 b0 + pc8 b1 + pc8 b2 + pc8 b3) + 256 * (pc8 b1 + pc8 b2 + pc8 b3) + 65536 * (pc8 b2 + pc8 b3) + 16777216 * pc8 b3 := by rw [n4]; unfold bN5; omega
  refine ⟨by omega, by omega, by omega, by omega, by omega, by omega, by rw [n5, hp]; omega⟩
