/-! odds: all 32 ways against the binomial sum -/
def owt (t m : Nat) : Nat → Nat
  | 0 => 1
  | i + 1 => owt t m i * (if m / 2 ^ i % 2 = 1 then t else 10 - t)
def ocn (top m : Nat) : Nat → Nat
  | 0 => 0
  | i + 1 => ocn top m i + (if m / 2 ^ i % 2 = 1 ∧ i < top then 1 else 0)
def omC (t top e : Nat) : Nat → Nat
  | 0 => 0
  | m + 1 => omC t top e m + (if ocn top m 5 = e then owt t m 5 else 0)
def omS (t top : Nat) (g : Nat → Nat) : Nat → Nat
  | 0 => 0
  | m + 1 => omS t top g m + g (ocn top m 5) * owt t m 5
def ocB (top : Nat) : Nat → Nat
  | 0 => 1
  | e + 1 => ocB top e * (top - e) / (e + 1)
def oxT (t top e : Nat) : Nat := ocB top e * t ^ e * (10 - t) ^ (top - e)
def oxS (t top : Nat) (g : Nat → Nat) : Nat → Nat
  | 0 => 0
  | e + 1 => oxS t top g e + g (e + 1) * oxT t top (e + 1)
def osm (f : Nat → Nat) : Nat → Nat
  | 0 => 0
  | e + 1 => osm f e + f (e + 1)
set_option maxRecDepth 100000 in
theorem o_tab : ∀ t : Fin 11, ∀ top : Fin 6, ∀ e : Fin 6, omC t.val top.val e.val 32 = if e.val ≤ top.val then oxT t.val top.val e.val * 10 ^ (5 - top.val) else 0 := by decide +kernel
set_option maxRecDepth 100000 in
theorem o_bd : ∀ t : Fin 11, ∀ top : Fin 6, ∀ e : Fin 6, ocB top.val e.val ≤ 10 ∧ ocB top.val e.val * (top.val - e.val) ≤ 100 ∧ ocB top.val e.val * t.val ^ e.val ≤ 1000000 ∧ oxT t.val top.val e.val ≤ 1000000 ∧ t.val ^ e.val ≤ 100000 := by decide +kernel
theorem ocn_le {top m : Nat} : ∀ i : Nat, ocn top m i ≤ i ∧ ocn top m i ≤ top
  | 0 => ⟨Nat.le_refl _, Nat.zero_le _⟩
  | i + 1 => by
    have h := ocn_le (top := top) (m := m) i
    have h2 : i ≤ top → ocn top m i ≤ i := fun _ => h.1
    unfold ocn
    split
    · rename_i z
      have hi : ocn top m i ≤ i := h.1
      exact ⟨by omega, by omega⟩
    · exact ⟨by omega, by omega⟩
theorem owt_le {t m : Nat} (ht : t ≤ 10) : ∀ i : Nat, owt t m i ≤ 10 ^ i
  | 0 => Nat.le_refl _
  | i + 1 => by
    have h := owt_le (m := m) ht i
    unfold owt
    rw [Nat.pow_succ]
    exact Nat.mul_le_mul h (by split <;> omega)
theorem omS_lin {t top : Nat} {g : Nat → Nat} : ∀ m : Nat, omS t top g m = g 0 * omC t top 0 m + osm (fun e => g e * omC t top e m) 5
  | 0 => by simp [omS, omC, osm]
  | m + 1 => by
    have ih := omS_lin (t := t) (top := top) (g := g) m
    have hc := (ocn_le (top := top) (m := m) 5).1
    have e : ∀ x : Nat, omC t top x (m + 1) = omC t top x m + (if ocn top m 5 = x then owt t m 5 else 0) := fun _ => rfl
    have es : omS t top g (m + 1) = omS t top g m + g (ocn top m 5) * owt t m 5 := rfl
    rw [es, ih]
    simp only [osm, e]
    have : ocn top m 5 = 0 ∨ ocn top m 5 = 1 ∨ ocn top m 5 = 2 ∨ ocn top m 5 = 3 ∨ ocn top m 5 = 4 ∨ ocn top m 5 = 5 := by omega
    rcases this with h | h | h | h | h | h <;> rw [h] <;> simp [Nat.mul_add] <;> omega
theorem o_eq {t top : Nat} {g : Nat → Nat} (ht : t ≤ 10) (htop : top ≤ 5) (h0 : g 0 = 0) : omS t top g 32 = oxS t top g top * 10 ^ (5 - top) := by
  have tab : ∀ e : Nat, e ≤ 5 → omC t top e 32 = if e ≤ top then oxT t top e * 10 ^ (5 - top) else 0 := fun e he => o_tab ⟨t, by omega⟩ ⟨top, by omega⟩ ⟨e, by omega⟩
  have h1 : ∀ n : Nat, n ≤ top → oxS t top g n * 10 ^ (5 - top) = osm (fun e => g e * omC t top e 32) n := fun n => by
    induction n with
    | zero => intro _; simp [oxS, osm]
    | succ n ih =>
      intro hn
      show (oxS t top g n + g (n + 1) * oxT t top (n + 1)) * 10 ^ (5 - top) = osm (fun e => g e * omC t top e 32) n + g (n + 1) * omC t top (n + 1) 32
      rw [Nat.add_mul, ih (by omega), tab (n + 1) (by omega), if_pos hn, Nat.mul_assoc]
  have h2 : ∀ r n : Nat, n + r = 5 → top ≤ n → osm (fun e => g e * omC t top e 32) n = osm (fun e => g e * omC t top e 32) top := fun r n hr hn => by
    have : ∀ k : Nat, top + k ≤ 5 → osm (fun e => g e * omC t top e 32) (top + k) = osm (fun e => g e * omC t top e 32) top := fun k => by
      induction k with
      | zero => intro _; rfl
      | succ k ih =>
        intro hk
        show osm (fun e => g e * omC t top e 32) (top + k) + g (top + k + 1) * omC t top (top + k + 1) 32 = _
        rw [ih (by omega), tab (top + k + 1) (by omega), if_neg (by omega)]; omega
    have := this (n - top) (by omega)
    rw [show top + (n - top) = n by omega] at this
    exact this
  rw [omS_lin, h0, Nat.zero_mul, Nat.zero_add, h2 0 5 (by omega) htop, h1 top (Nat.le_refl _)]
theorem omS_le {t top : Nat} {g : Nat → Nat} (ht : t ≤ 10) (hg : ∀ e, g e ≤ 1) : ∀ m : Nat, omS t top g m ≤ m * 100000
  | 0 => Nat.le_refl _
  | m + 1 => by
    have ih := omS_le (top := top) ht hg m
    have h1 : owt t m 5 ≤ 10 ^ 5 := owt_le ht 5
    have h2 : g (ocn top m 5) * owt t m 5 ≤ 1 * 100000 := Nat.mul_le_mul (hg _) h1
    show omS t top g m + g (ocn top m 5) * owt t m 5 ≤ (m + 1) * 100000
    omega
theorem oxS_le {t top : Nat} {g : Nat → Nat} (ht : t ≤ 10) (htop : top ≤ 5) (hg : ∀ e, g e ≤ 1) : ∀ n : Nat, n ≤ 5 → oxS t top g n ≤ n * 1000000
  | 0, _ => Nat.le_refl _
  | n + 1, hn => by
    have ih := oxS_le ht htop hg n (by omega)
    have h1 : oxT t top (n + 1) ≤ 1000000 := (o_bd ⟨t, by omega⟩ ⟨top, by omega⟩ ⟨n + 1, by omega⟩).2.2.2.1
    have h2 : g (n + 1) * oxT t top (n + 1) ≤ 1 * 1000000 := Nat.mul_le_mul (hg _) h1
    show oxS t top g n + g (n + 1) * oxT t top (n + 1) ≤ (n + 1) * 1000000
    omega
theorem bit_v : ∀ x : Fin 32, ∀ y : Fin 5, ((Int32.ofInt ((Int32.ofInt (x.val : Int) >>> (Int32.ofInt (y.val : Int) &&& 31)).toInt) &&& Int32.ofInt 1).toInt) = ((x.val / 2 ^ y.val % 2 : Nat) : Int) := by decide +kernel
theorem c_X9_power {d k : Nat} {M : mM} {Q : mRes → mM → Prop} {a n : Nat} (ha : a ≤ 10) (hn : n ≤ 5) (hQ : Q (.inl (some (mI ((a ^ n : Nat) : Int)))) M) : V d k qX9_power 0 [mI a, mI n, mE 0, mE 0] [] M Q := by
  have loop : ∀ r j : Nat, j + r = n → V d k qX9_power 4 [mI a, mI n, mI ((a ^ j : Nat) : Int), mI j] [] M Q := by
    intro r
    induction r with
    | zero =>
      intro j hj
      exact B_X9_power_4 ⟨fun _ => by rw [show j = n by omega]; exact hQ, fun z => by omega⟩
    | succ r ih =>
      intro j hj
      have h1 : a ^ (j + 1) ≤ 100000 := (o_bd ⟨a, by omega⟩ ⟨0, by omega⟩ ⟨j + 1, by omega⟩).2.2.2.2
      have e : ((a ^ j : Nat) : Int) * (a : Int) = ((a ^ (j + 1) : Nat) : Int) := by rw [Nat.pow_succ, Int.natCast_mul]
      have Bk := B_X9_power_4 (d := d) (k := k) (M := M) (Q := Q) (x0 := a) (x1 := n) (x2 := ((a ^ j : Nat) : Int)) (x3 := j)
      rw [e] at Bk
      exact Bk ⟨fun z => by omega, fun _ => ⟨by omega, by omega, ih (j + 1) (by omega)⟩⟩
  exact B_X9_power_0 (loop n 0 (by omega))
