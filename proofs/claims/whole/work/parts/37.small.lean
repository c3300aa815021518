/-! packed rows, and small methods of them -/
theorem and127 (z : Int) : (Int32.ofInt z &&& Int32.ofInt 127).toInt = z % 128 := by
  have h1 : (Int32.ofInt z &&& Int32.ofInt 127).toBitVec = BitVec.ofInt 32 z &&& 127#32 := rfl
  have h2 : (BitVec.ofInt 32 z &&& 127#32).toNat = (z % 128).toNat := by
    rw [BitVec.toNat_and, BitVec.toNat_ofInt]
    show _ &&& 127 = _
    rw [show (127 : Nat) = 2 ^ 7 - 1 from rfl, Nat.and_two_pow_sub_one_eq_mod]
    omega
  show (Int32.ofInt z &&& Int32.ofInt 127).toBitVec.toInt = _
  rw [h1, BitVec.toInt_eq_toNat_of_lt (by rw [h2]; omega), h2]
  omega
theorem shr64 {x : Int} {s : Nat} (hx : 0 ≤ x ∧ x < 9223372036854775808) (y : Int64) (hy : y.toBitVec = BitVec.ofNat 64 s) (hs : s < 64) : (Int64.ofInt x >>> y).toInt = x / 2 ^ s := by
  show (Int64.ofInt x >>> y).toBitVec.toInt = _
  rw [Int64.toBitVec_shiftRight]
  have e : (y.toBitVec.smod 64).toNat = s := by
    rw [hy]
    have : ∀ s : Fin 64, ((BitVec.ofNat 64 s.1).smod 64).toNat = s.1 := by decide
    exact this ⟨s, hs⟩
  rw [BitVec.sshiftRight', e, BitVec.toInt_sshiftRight]
  have e2 : (Int64.ofInt x).toBitVec.toInt = x := by
    show (BitVec.ofInt 64 x).toInt = x
    rw [BitVec.toInt_ofInt]
    apply Int.bmod_eq_of_le <;> omega
  rw [e2, Int.shiftRight_eq_div_pow]
  norm_cast
theorem part_v {x : Int} {i : Nat} (hx : 0 ≤ x ∧ x < 9223372036854775808) (hi : i < 6) : (Int32.ofInt ((Int32.ofInt ((Int64.ofInt x >>> ((Int32.ofInt (7 * (i : Int))).toInt64 &&& 63)).toInt)).toInt) &&& Int32.ofInt 127).toInt = x / 2 ^ (7 * i) % 128 := by
  rw [Int32.ofInt_toInt, and127, shr64 (s := 7 * i) hx _ ?_ (by omega)]
  have : ∀ i : Fin 6, (((Int32.ofInt (7 * ((i.1 : Nat) : Int))).toInt64 &&& 63)).toBitVec = BitVec.ofNat 64 (7 * i.1) := by decide
  exact this ⟨i, hi⟩
theorem one_v {i : Nat} (hi : i < 6) : (Int64.ofInt 1 <<< ((Int32.ofInt (7 * (i : Int))).toInt64 &&& 63)).toInt = 2 ^ (7 * i) := by
  have : ∀ i : Fin 6, (Int64.ofInt 1 <<< ((Int32.ofInt (7 * ((i.1 : Nat) : Int))).toInt64 &&& 63)).toInt = 2 ^ (7 * i.1) := by decide
  exact this ⟨i, hi⟩
/-- six numbers of 7 bits each -/
def pkL (f : Int → Int) : Int := f 0 + 128 * f 1 + 16384 * f 2 + 2097152 * f 3 + 268435456 * f 4 + 34359738368 * f 5
def p7 (s : Nat) : Int := if s = 0 then 1 else if s = 1 then 128 else if s = 2 then 16384 else if s = 3 then 2097152 else if s = 4 then 268435456 else 34359738368
def bnd7 (f : Int → Int) : Prop := (0 ≤ f 0 ∧ f 0 ≤ 127) ∧ (0 ≤ f 1 ∧ f 1 ≤ 127) ∧ (0 ≤ f 2 ∧ f 2 ≤ 127) ∧ (0 ≤ f 3 ∧ f 3 ≤ 127) ∧ (0 ≤ f 4 ∧ f 4 ≤ 127) ∧ (0 ≤ f 5 ∧ f 5 ≤ 127)
theorem lt6 {s : Nat} (h : s < 6) : s = 0 ∨ s = 1 ∨ s = 2 ∨ s = 3 ∨ s = 4 ∨ s = 5 := by omega
theorem bnd7_of {f : Int → Int} (h : ∀ s : Nat, s < 6 → 0 ≤ f s ∧ f s ≤ 127) : bnd7 f := ⟨h 0 (by omega), h 1 (by omega), h 2 (by omega), h 3 (by omega), h 4 (by omega), h 5 (by omega)⟩
theorem p7_e {s : Nat} (hs : s < 6) : (2 : Int) ^ (7 * s) = p7 s := by
  rcases lt6 hs with e | e | e | e | e | e <;> subst e <;> rfl
theorem pkL_bd {f : Int → Int} (h : bnd7 f) : 0 ≤ pkL f ∧ pkL f < 4398046511104 := by
  unfold bnd7 at h; unfold pkL; omega
theorem pkL_at {f : Int → Int} (h : bnd7 f) {s : Nat} (hs : s < 6) : pkL f / 2 ^ (7 * s) % 128 = f s := by
  unfold bnd7 at h; unfold pkL
  rw [p7_e hs]
  rcases lt6 hs with e | e | e | e | e | e <;> subst e <;> simp only [p7, Int.cast_ofNat_Int, reduceIte, Nat.reduceEqDiff] <;> (try simp) <;> omega
theorem pkL_set {f : Int → Int} {s : Nat} (hs : s < 6) {v : Int} : pkL (fset f s v) = pkL f + (v - f s) * p7 s := by
  unfold pkL p7 fset
  rcases lt6 hs with e | e | e | e | e | e <;> subst e <;> simp <;> omega
theorem pkL_congr {f g : Int → Int} (h : ∀ s : Nat, s < 6 → f s = g s) : pkL f = pkL g := by
  have h0 := h 0 (by omega); have h1 := h 1 (by omega); have h2 := h 2 (by omega); have h3 := h 3 (by omega); have h4 := h 4 (by omega); have h5 := h 5 (by omega)
  simp at h0 h1 h2 h3 h4 h5
  unfold pkL; rw [h0, h1, h2, h3, h4, h5]
theorem c_X7_part {d k : Nat} {M : mM} {Q : mRes → mM → Prop} {f : Int → Int} {x s : Int} (hx : x = pkL f) (h : bnd7 f) (hs : 0 ≤ s ∧ s < 6) (hQ : ∀ r, r = f s → Q (.inl (some (mI r))) M) : V d k qX7_part 0 [mL x, mE 0, mI s] [] M Q := by
  obtain ⟨n, rfl⟩ : ∃ n : Nat, s = n := ⟨s.toNat, by omega⟩
  have hb := pkL_bd h
  refine B_X7_part_0 ⟨by omega, ?_⟩
  rw [part_v (by omega) (by omega)]
  exact hQ _ (by rw [hx]; exact pkL_at h (by omega))
theorem c_X7_one {d k : Nat} {M : mM} {Q : mRes → mM → Prop} {s : Int} (hs : 0 ≤ s ∧ s < 6) (hQ : ∀ r, r = p7 s.toNat → Q (.inl (some (mL r))) M) : V d k qX7_one 0 [mI s] [] M Q := by
  obtain ⟨n, rfl⟩ : ∃ n : Nat, s = n := ⟨s.toNat, by omega⟩
  refine B_X7_one_0 ⟨by omega, ?_⟩
  rw [one_v (by omega)]
  exact hQ _ (p7_e (by omega))
/-- a row of numbers (rest, how many bins, bins) as the class packs it -/
def stk (n : Int) (M : mM) (R : Int → Int) : Prop := M n 12 = pkL R ∧ M n 13 = R 6 ∧ ∀ b : Nat, b < 12 → M n b = pkL (fun s => R (7 + 6 * b + s))
def rowOK (c : Int) (K : Nat) (sz R : Int → Int) : Prop := (∀ s : Nat, s < 6 → 0 ≤ R s ∧ R s ≤ 12 ∧ (K ≤ s → R s = 0)) ∧ sg R K ≤ 24 ∧ (0 ≤ R 6 ∧ R 6 ≤ 12) ∧ (∀ b s : Nat, b < 12 → s < 6 → 0 ≤ R (7 + 6 * b + s) ∧ R (7 + 6 * b + s) ≤ 99 ∧ (K ≤ s → R (7 + 6 * b + s) = 0) ∧ (R 6 ≤ b → R (7 + 6 * b + s) = 0)) ∧ ∀ b : Nat, b < 12 → sg (fun s => sz s * R (7 + 6 * b + s)) K ≤ c
theorem rowOK.r7 {c : Int} {K : Nat} {sz R : Int → Int} (h : rowOK c K sz R) : bnd7 R := bnd7_of (fun s hs => by have := h.1 s hs; omega)
theorem rowOK.b7 {c : Int} {K : Nat} {sz R : Int → Int} (h : rowOK c K sz R) {b : Nat} (hb : b < 12) : bnd7 (fun s => R (7 + 6 * b + s)) := bnd7_of (fun s hs => by have := h.2.2.2.1 b s hb hs; omega)
theorem sg_ext {f : Int → Int} {n m : Nat} (h : n ≤ m) (h0 : ∀ j : Nat, n ≤ j → j < m → f j = 0) : sg f m = sg f n := by
  induction m with
  | zero => rw [show n = 0 by omega]
  | succ m ih =>
    by_cases e : n = m + 1
    · rw [e]
    · rw [show sg f (m + 1) = sg f m + f m from rfl, h0 m (by omega) (by omega), ih (by omega) (fun j h1 h2 => h0 j h1 (by omega))]; omega
theorem i32_id {z : Int} (h : -2147483648 ≤ z ∧ z ≤ 2147483647) : (Int32.ofInt z).toInt = z := by
  rw [Int32.toInt_ofInt]
  show Int.bmod z 4294967296 = z
  apply Int.bmod_eq_of_le <;> omega
theorem c_X7_bins {d k : Nat} {M : mM} {Q : mRes → mM → Prop} {n0 : Int} (hn0 : n0 = 16 ∨ n0 = 22) (h : 0 ≤ M (n0 + 1) 13 ∧ M (n0 + 1) 13 ≤ 12) (hQ : ∀ r, r = M (n0 + 1) 13 → Q (.inl (some (mI r))) M) : V d k qX7_bins 0 [mR 15 7 n0] [] M Q := by
  refine B_X7_bins_0 hn0 ?_
  rw [i32_id (by omega)]
  exact hQ _ rfl
theorem c_X7_isBin {d k : Nat} {M : mM} {Q : mRes → mM → Prop} {n0 x : Int} (hn0 : n0 = 16 ∨ n0 = 22) (h : 0 ≤ M (n0 + 1) 13 ∧ M (n0 + 1) 13 ≤ 12) (hQ : ∀ r, r = (if 0 ≤ x ∧ x < M (n0 + 1) 13 then 1 else 0) → Q (.inl (some (mI r))) M) : V (d + 1) k qX7_isBin 0 [mR 15 7 n0, mI x] [] M Q := by
  refine B_X7_isBin_0 hn0 ⟨fun c1 => ?_, fun c1 => ⟨fun c2 => ?_, fun c2 => ?_⟩⟩ <;> try omega
  · exact hQ _ (by rw [if_neg (by omega)])
  · exact hQ _ (by rw [if_neg (by omega)])
  · refine c_X7_bins hn0 h (fun r hr => ?_)
    have e1 := c1
    have e2 := c2
    refine B_X7_isBin_15 hn0 ⟨fun c1 => ?_, fun c1 => ?_⟩ <;> try omega
    · exact hQ _ (by rw [if_neg (by omega)])
    · exact hQ _ (by rw [if_pos (by omega)])
theorem c_X7_restOf {d k : Nat} {M : mM} {Q : mRes → mM → Prop} {n0 s : Int} {R : Int → Int} (hn0 : n0 = 16 ∨ n0 = 22) (h : M (n0 + 1) 12 = pkL R) (h7 : bnd7 R) (hs : 0 ≤ s ∧ s < 6) (hQ : ∀ r, r = R s → Q (.inl (some (mI r))) M) : V (d + 1) k qX7_restOf 0 [mR 15 7 n0, mI s] [] M Q :=
  B_X7_restOf_0 hn0 (c_X7_part h h7 hs (fun r hr => B_X7_restOf_11 hn0 (hQ r hr)))
theorem c_X7_restOfAll {d k : Nat} {M : mM} {Q : mRes → mM → Prop} {n0 : Int} {R : Int → Int} (hn0 : n0 = 16 ∨ n0 = 22) (h : M (n0 + 1) 12 = pkL R) (h7 : ∀ s : Nat, s < 6 → 0 ≤ R s ∧ R s ≤ 127) (hQ : ∀ r, r = sg R 6 → Q (.inl (some (mI r))) M) : V (d + 2) k qX7_restOfAll 0 [mR 15 7 n0, mE 0, mE 0] [] M Q := by
  have loop : ∀ r j : Nat, j + r = 6 → V (d + 2) k qX7_restOfAll 4 [mR 15 7 n0, mI (sg R j), mI j] [] M Q := by
    intro r
    induction r with
    | zero =>
      intro j hj
      refine B_X7_restOfAll_4 hn0 ⟨fun c1 => ?_, fun c1 => ?_⟩ <;> try omega
      · exact hQ _ (by rw [show j = 6 by omega])
    | succ r ih =>
      intro j hj
      have h2 := sg_bd (f := R) (n := j) (fun i hi => h7 i (by omega))
      have h3 := h7 j (by omega)
      refine B_X7_restOfAll_4 hn0 ⟨fun c1 => ?_, fun c1 => ?_⟩ <;> try omega
      · refine c_X7_restOf hn0 h (bnd7_of h7) (by omega) (fun r hr => ?_)
        subst hr
        refine B_X7_restOfAll_16 hn0 ⟨?_, ?_, ?_⟩ <;> try omega
        · exact ih (j + 1) (by omega)
  exact B_X7_restOfAll_0 hn0 (loop 6 0 (by omega))
theorem c_X7_inBins {d k : Nat} {M : mM} {Q : mRes → mM → Prop} {n0 s c : Int} {K : Nat} {sz R : Int → Int} (hn0 : n0 = 16 ∨ n0 = 22) (h : stk (n0 + 1) M R) (hR : rowOK c K sz R) (hs : 0 ≤ s ∧ s < 6) (hQ : ∀ r, r = sg (fun b => R (7 + 6 * b + s)) (R 6).toNat → Q (.inl (some (mI r))) M) : V (d + 2) k qX7_inBins 0 [mR 15 7 n0, mI s, mE 0, mE 0] [] M Q := by
  obtain ⟨s, rfl⟩ : ∃ n : Nat, s = n := ⟨s.toNat, by omega⟩
  obtain ⟨hr1, hr2, hr3, hr4, hr5⟩ := hR
  have hb7 : ∀ j : Nat, j < 12 → 0 ≤ (fun b : Int => R (7 + 6 * b + s)) j ∧ (fun b : Int => R (7 + 6 * b + s)) j ≤ 99 := fun j hj => by have := hr4 j s hj (by omega); exact ⟨this.1, this.2.1⟩
  have h13 := h.2.1
  have loop : ∀ r j : Nat, j + r = 12 → V (d + 2) k qX7_inBins 4 [mR 15 7 n0, mI s, mI (sg (fun b => R (7 + 6 * b + s)) j), mI j] [] M Q := by
    intro r
    induction r with
    | zero =>
      intro j hj
      refine B_X7_inBins_4 hn0 ⟨fun c1 => ?_, fun c1 => ?_⟩ <;> try omega
      · exact hQ _ (by rw [show j = 12 by omega]; exact sg_ext (by omega) (fun j h1 h2 => (hr4 j s (by omega) (by omega)).2.2.2 (by omega)))
    | succ r ih =>
      intro j hj
      have h2 := sg_bd (f := fun b => R (7 + 6 * b + s)) (c := 99) (n := j) (fun i hi => hb7 i (by omega))
      have h3 := hr4 j s (by omega) (by omega)
      have ih := ih (j + 1) (by omega)
      have e : sg (fun b => R (7 + 6 * b + s)) (j + 1) = sg (fun b => R (7 + 6 * b + s)) j + R (7 + 6 * j + s) := rfl
      rw [e] at ih
      refine B_X7_inBins_4 hn0 ⟨fun c1 => ?_, fun c1 => ?_⟩ <;> try omega
      · refine c_X7_isBin hn0 (by omega) (fun r hr => ?_)
        refine B_X7_inBins_16 hn0 ⟨fun c1 => ⟨?_, ?_, ?_⟩, fun c1 => ⟨?_, ?_⟩⟩ <;> try omega
        · have : ¬ ((0 : Int) ≤ j ∧ (j : Int) < M (n0 + 1) 13) := fun z => by rw [if_pos z] at hr; omega
          rw [h3.2.2.2 (by omega)] at ih
          exact ih
        · refine c_X7_part (h.2.2 j (by omega)) (bnd7_of (fun s hs => by have := hr4 j s (by omega) hs; omega)) (by omega) (fun r hr => ?_)
          subst hr
          refine B_X7_inBins_29 hn0 ⟨?_, ?_, ?_⟩ <;> try omega
          · exact ih
  exact B_X7_inBins_0 hn0 (loop 12 0 (by omega))
theorem c_X2_weightOfBin {d k : Nat} {M : mM} {Q : mRes → mM → Prop} {x : Int} {K : Nat} {f : Int → Int} (hK : M 8 1 = K) (hK6 : K ≤ 6) (hx : x = pkL f) (hf : ∀ s : Nat, s < 6 → 0 ≤ f s ∧ f s ≤ 127) (hz : ∀ s : Nat, s < K → 0 ≤ M 9 s ∧ M 9 s ≤ 99) (hQ : ∀ r, r = sg (fun s => M 9 s * f s) K → Q (.inl (some (mI r))) M) : V (d + 1) k qX2_weightOfBin 0 [mR 11 5 8, mL x, mE 0, mE 0, mE 0] [] M Q := by
  have hb : ∀ j : Nat, j < K → 0 ≤ (fun s => M 9 s * f s) j ∧ (fun s => M 9 s * f s) j ≤ 99 * 127 := fun j hj => mulp (hz j hj) (hf j (by omega))
  have loop : ∀ r j : Nat, j + r = K → V (d + 1) k qX2_weightOfBin 5 [mR 11 5 8, mL x, mE 0, mI (sg (fun s => M 9 s * f s) j), mI j] [] M Q := by
    intro r
    induction r with
    | zero =>
      intro j hj
      refine B_X2_weightOfBin_5 (n0 := 8) (by omega) ⟨fun c1 => hQ _ (by rw [show j = K by omega]), fun c1 => by omega⟩
    | succ r ih =>
      intro j hj
      have h1 : 0 ≤ M (8 + 1) j * f j ∧ M (8 + 1) j * f j ≤ 99 * 127 := hb j (by omega)
      have h2 := sg_bd (f := fun s => M 9 s * f s) (c := 99 * 127) (n := j) (fun i hi => hb i (by omega))
      refine B_X2_weightOfBin_5 (n0 := 8) (by omega) ⟨fun c1 => by omega, fun c1 => ⟨by omega, ?_⟩⟩
      refine c_X7_part hx (bnd7_of hf) (by omega) (fun r hr => ?_)
      subst hr
      refine B_X2_weightOfBin_28 (n0 := 8) (by omega) ⟨by omega, by omega, by omega, ?_⟩
      exact ih (j + 1) (by omega)
  exact B_X2_weightOfBin_0 (n0 := 8) (by omega) (loop K 0 (by omega))
