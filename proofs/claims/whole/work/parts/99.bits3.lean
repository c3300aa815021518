/-! Integer.bitCount: its contract -/
theorem c_J6_bitCount {d k : Nat} {M : mM} {Q : mRes → mM → Prop} {x : Nat} (hx : x < 33554432) (hQ : Q (.inl (some (mI ((pcN x : Nat) : Int)))) M) : V d k qJ6_bitCount_0f7a4 0 [mI x] [] M Q := by
  obtain ⟨h1, h2, h3, h4, h5, h6, h7⟩ := b_all hx
  have sv : ∀ (y n : Nat) (v : UInt32), y < 2147483648 → v.toNat % 32 = n → ((Int32.ofInt (y : Int)).toUInt32 >>> v).toInt32.toInt = ((y / 2 ^ n : Nat) : Int) := fun y n v hy hv => by
    have := sh_v (x := (y : Int)) (n := n) (by omega) v hv
    rw [show ((y : Int)).toNat = y by omega] at this
    exact this
  have av : ∀ (y : Nat) (m : Int) (mn : Nat), m = mn → y < 2147483648 → mn < 2147483648 → (Int32.ofInt (y : Int) &&& Int32.ofInt m).toInt = ((y &&& mn : Nat) : Int) := fun y m mn hm hy hmn => by
    have := an_v (x := (y : Int)) (m := m) (by omega) (by omega)
    rw [show ((y : Int)).toNat = y by omega, show m.toNat = mn by omega] at this
    exact this
  have Bk := B_J6_bitCount_0f7a4_0 (d := d) (k := k) (M := M) (Q := Q) (x1 := (x : Int))
  have l1 : x / 2 &&& 1431655765 ≤ x / 2 := Nat.and_le_left
  rw [sv x 1 _ (by omega) (by decide), Nat.pow_one, av (x / 2) 1431655765 1431655765 rfl (by omega) (by decide)] at Bk
  have e1 : (x : Int) - ((x / 2 &&& 1431655765 : Nat) : Int) = ((bN1 x : Nat) : Int) := by unfold bN1; omega
  rw [e1] at Bk
  generalize bN1 x = a at *
  rw [av a 858993459 858993459 rfl (by omega) (by decide), sv a 2 _ (by omega) (by decide), show (2 : Nat) ^ 2 = 4 from rfl, av (a / 4) 858993459 858993459 rfl (by omega) (by decide)] at Bk
  have e2 : ((a &&& 858993459 : Nat) : Int) + ((a / 4 &&& 858993459 : Nat) : Int) = ((bN2 a : Nat) : Int) := by unfold bN2; omega
  rw [e2] at Bk
  generalize bN2 a = b at *
  rw [sv b 4 _ h2 (by decide), show (2 : Nat) ^ 4 = 16 from rfl, ← Int.natCast_add, av (b + b / 16) 252645135 252645135 rfl h3 (by decide)] at Bk
  have e3 : ((b + b / 16 &&& 252645135 : Nat) : Int) = ((bN3 b : Nat) : Int) := rfl
  rw [e3] at Bk
  generalize bN3 b = e at *
  rw [sv e 8 _ h4 (by decide), show (2 : Nat) ^ 8 = 256 from rfl, ← Int.natCast_add] at Bk
  have e4 : ((e + e / 256 : Nat) : Int) = ((bN4 e : Nat) : Int) := rfl
  rw [e4] at Bk
  generalize bN4 e = f at *
  rw [sv f 16 _ h5 (by decide), show (2 : Nat) ^ 16 = 65536 from rfl, ← Int.natCast_add] at Bk
  have e5 : ((f + f / 65536 : Nat) : Int) = ((bN5 f : Nat) : Int) := rfl
  rw [e5] at Bk
  generalize bN5 f = g at *
  rw [av g 63 63 rfl h6 (by decide), show (63 : Nat) = 2 ^ 6 - 1 from rfl, Nat.and_two_pow_sub_one_eq_mod, show (2 : Nat) ^ 6 = 64 from rfl, h7] at Bk
  exact Bk ⟨by omega, by omega, by omega, by omega, by omega, hQ⟩
