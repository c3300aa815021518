/-! Integer.bitCount -/
theorem and_by (a b : Nat) : a &&& b = (a / 256 &&& b / 256) * 256 + (a % 256 &&& b % 256) := by
  have h1 : (a &&& b) / 2 ^ 8 = a / 2 ^ 8 &&& b / 2 ^ 8 := Nat.and_div_two_pow
  have h2 : (a &&& b) % 2 ^ 8 = a % 2 ^ 8 &&& b % 2 ^ 8 := Nat.and_mod_two_pow
  have h3 : (a &&& b) / 2 ^ 8 * 256 + (a &&& b) % 2 ^ 8 = a &&& b := by omega
  rw [← h3, h1, h2]
theorem and4 (a0 a1 a2 a3 m : Nat) (h0 : a0 < 256) (h1 : a1 < 256) (h2 : a2 < 256) (h3 : a3 < 256) (hm : m < 256) : (a0 + 256 * a1 + 65536 * a2 + 16777216 * a3) &&& (m + 256 * m + 65536 * m + 16777216 * m) = (a0 &&& m) + 256 * (a1 &&& m) + 65536 * (a2 &&& m) + 16777216 * (a3 &&& m) := by
  rw [and_by, show (a0 + 256 * a1 + 65536 * a2 + 16777216 * a3) / 256 = a1 + 256 * a2 + 65536 * a3 by omega, show (a0 + 256 * a1 + 65536 * a2 + 16777216 * a3) % 256 = a0 by omega, show (m + 256 * m + 65536 * m + 16777216 * m) / 256 = m + 256 * m + 65536 * m by omega, show (m + 256 * m + 65536 * m + 16777216 * m) % 256 = m by omega]
  rw [and_by (a1 + 256 * a2 + 65536 * a3), show (a1 + 256 * a2 + 65536 * a3) / 256 = a2 + 256 * a3 by omega, show (a1 + 256 * a2 + 65536 * a3) % 256 = a1 by omega, show (m + 256 * m + 65536 * m) / 256 = m + 256 * m by omega, show (m + 256 * m + 65536 * m) % 256 = m by omega]
  rw [and_by (a2 + 256 * a3), show (a2 + 256 * a3) / 256 = a3 by omega, show (a2 + 256 * a3) % 256 = a2 by omega, show (m + 256 * m) / 256 = m by omega, show (m + 256 * m) % 256 = m by omega]
  omega
def pc8 (b : Nat) : Nat := b % 2 + b / 2 % 2 + b / 4 % 2 + b / 8 % 2 + b / 16 % 2 + b / 32 % 2 + b / 64 % 2 + b / 128 % 2
def f1 (b : Nat) : Nat := b - ((b / 2) &&& 85)
def f2 (b : Nat) : Nat := (f1 b &&& 51) + ((f1 b / 4) &&& 51)
theorem st1 : ∀ b : Fin 256, ∀ y : Fin 2, ((b.val / 2 + 128 * y.val) &&& 85) = ((b.val / 2) &&& 85) ∧ ((b.val / 2) &&& 85) ≤ b.val := by decide +kernel
theorem st2 : ∀ b : Fin 256, ∀ y : Fin 4, (((f1 b.val) / 4 + 64 * y.val) &&& 51) = ((f1 b.val / 4) &&& 51) ∧ f2 b.val < 256 := by decide +kernel
theorem st3 : ∀ b : Fin 256, ((f2 b.val + f2 b.val / 16) &&& 15) = pc8 b.val ∧ pc8 b.val ≤ 8 ∧ f2 b.val ≤ 68 := by decide +kernel
theorem st3b : ∀ b : Fin 256, ∀ y : Fin 16, ((f2 b.val + f2 b.val / 16 + 16 * y.val) % 256 &&& 15) = pc8 b.val ∧ f2 b.val % 16 ≤ 4 ∧ f2 b.val / 16 ≤ 4 := by decide +kernel
theorem sh_v {x : Int} {n : Nat} (hx : 0 ≤ x ∧ x < 2147483648) (v : UInt32) (hv : v.toNat % 32 = n) : ((Int32.ofInt x).toUInt32 >>> v).toInt32.toInt = ((x.toNat / 2 ^ n : Nat) : Int) := by
  have e1 : ((Int32.ofInt x).toUInt32 >>> v).toNat = x.toNat / 2 ^ n := by
    rw [UInt32.toNat_shiftRight, hv]
    have e2 : (Int32.ofInt x).toUInt32.toNat = x.toNat := by
      show (BitVec.ofInt 32 x).toNat = _
      rw [BitVec.toNat_ofInt]
      show (x % 4294967296).toNat = _
      omega
    rw [e2, Nat.shiftRight_eq_div_pow]
  have e4 : ((Int32.ofInt x).toUInt32 >>> v).toBitVec.toNat = x.toNat / 2 ^ n := e1
  have hle : x.toNat / 2 ^ n ≤ x.toNat := Nat.div_le_self _ _
  show ((Int32.ofInt x).toUInt32 >>> v).toBitVec.toInt = _
  rw [BitVec.toInt_eq_toNat_of_lt (by rw [e4]; omega), e4]
theorem an_v {x m : Int} (hx : 0 ≤ x ∧ x < 2147483648) (hm : 0 ≤ m ∧ m < 2147483648) : (Int32.ofInt x &&& Int32.ofInt m).toInt = ((x.toNat &&& m.toNat : Nat) : Int) := by
  have h1 : (Int32.ofInt x &&& Int32.ofInt m).toBitVec = BitVec.ofInt 32 x &&& BitVec.ofInt 32 m := rfl
  have h2 : (BitVec.ofInt 32 x &&& BitVec.ofInt 32 m).toNat = x.toNat &&& m.toNat := by
    rw [BitVec.toNat_and, BitVec.toNat_ofInt, BitVec.toNat_ofInt]
    show (x % 4294967296).toNat &&& (m % 4294967296).toNat = _
    rw [show (x % 4294967296).toNat = x.toNat by omega, show (m % 4294967296).toNat = m.toNat by omega]
  have h3 : x.toNat &&& m.toNat ≤ x.toNat := Nat.and_le_left
  show (Int32.ofInt x &&& Int32.ofInt m).toBitVec.toInt = _
  rw [h1, BitVec.toInt_eq_toNat_of_lt (by rw [h2]; omega), h2]
