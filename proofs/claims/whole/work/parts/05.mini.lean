/-! A small machine over names. A value: a whole number (int), a long, a cell by its name with kind and length, what lies outside.
A memory: a name and a place give a whole number. -/
abbrev mV : Type := Int ⊕ (Int ⊕ ((Nat × Nat × Int) ⊕ Nat))
abbrev mI (x : Int) : mV := Sum.inl x
abbrev mL (x : Int) : mV := Sum.inr (Sum.inl x)
abbrev mR (k l : Nat) (n : Int) : mV := Sum.inr (Sum.inr (Sum.inl (k, l, n)))
abbrev mE (j : Nat) : mV := Sum.inr (Sum.inr (Sum.inr j))
abbrev mM : Type := Int → Int → Int
abbrev mRes : Type := Option mV ⊕ Nat
abbrev mMth : Type := MethodName × ByteArray × Nat × Option FieldType
abbrev mG : Type := Nat × (Nat → ClassId) × (Nat → Nat → Nat) × (Nat → ClassId) × (Nat → Nat) × (Nat → Int32) × Nat
/-- in the range of an int, of a long -/
abbrev r32 (x : Int) : Prop := -2147483648 ≤ x ∧ x ≤ 2147483647
abbrev r64 (x : Int) : Prop := -9223372036854775808 ≤ x ∧ x ≤ 9223372036854775807
def mUp (M : mM) (n i v : Int) : mM := fun n' i' => if n' = n ∧ i' = i then v else M n' i'
/-- System.arraycopy of cnt places -/
def mCp (M : mM) (n0 i0 n1 i1 cnt : Int) : mM := fun n' i' => if n' = n1 ∧ i1 ≤ i' ∧ i' < i1 + cnt then M n0 (i0 + (i' - i1)) else M n' i'
/-- the cells: kind (0 int[], 1 long[], 2 byte[], 3 boolean[], 4 int[][], 10 and on objects by their class) and length -/
def mShL : List (Nat × Nat) := [(17, 15), (2, 700), (14, 8), (11, 5), (0, 6), (0, 6), (0, 6), (1, 14), (11, 5), (0, 6), (0, 6), (0, 6), (11, 5), (0, 6), (0, 6), (0, 6), (15, 7), (1, 14), (0, 3), (1, 560), (0, 8), (0, 8), (15, 7), (1, 14), (0, 3), (1, 560), (0, 8), (0, 8), (13, 5), (0, 24), (0, 144), (0, 24), (16, 10), (0, 144), (13, 5), (0, 24), (0, 144), (0, 24), (4, 25), (0, 6), (0, 6), (0, 6), (0, 6), (0, 6), (0, 6), (0, 6), (0, 6), (0, 6), (0, 6), (0, 6), (0, 6), (0, 6), (0, 6), (0, 6), (0, 6), (0, 6), (0, 6), (0, 6), (0, 6), (0, 6), (0, 6), (0, 6), (0, 6), (0, 6), (4, 25), (0, 6), (0, 6), (0, 6), (0, 6), (0, 6), (0, 6), (0, 6), (0, 6), (0, 6), (0, 6), (0, 6), (0, 6), (0, 6), (0, 6), (0, 6), (0, 6), (0, 6), (0, 6), (0, 6), (0, 6), (0, 6), (0, 6), (0, 6), (0, 6), (0, 6), (12, 4), (4, 7), (0, 100), (0, 100), (0, 100), (0, 100), (0, 100), (0, 100), (0, 100), (4, 7), (0, 100), (0, 100), (0, 100), (0, 100), (0, 100), (0, 100), (0, 100), (0, 6), (10, 3), (0, 8), (0, 6), (0, 72), (18, 58), (0, 6800), (0, 6), (0, 16), (0, 16), (0, 6), (0, 700), (0, 6), (0, 80), (0, 6), (0, 6), (0, 6), (0, 24), (0, 24), (0, 100), (0, 168), (0, 168), (0, 150), (3, 28), (0, 7), (0, 700), (0, 700), (0, 700), (0, 6), (0, 4800), (1, 1)]
/-- a class's fields: 0 int, 3 boolean, 9 a reference (how many names further on) -/
def mFt : Nat → List (Nat × Nat)
  | 0 => [(0, 0), (0, 0), (9, 1)]
  | 1 => [(0, 0), (0, 0), (9, 1), (9, 2), (9, 3)]
  | 2 => [(9, 1), (9, 9), (9, 17), (0, 0)]
  | 3 => [(9, 1), (9, 2), (0, 0), (0, 0), (9, 3)]
  | 4 => [(9, 1), (9, 5), (0, 0), (0, 0), (0, 0), (0, 0), (0, 0), (0, 0)]
  | 5 => [(9, 1), (9, 2), (0, 0), (0, 0), (9, 3), (9, 4), (9, 5)]
  | 6 => [(9, 1), (0, 0), (0, 0), (0, 0), (0, 0), (0, 0), (3, 0), (9, 2), (9, 6), (9, 32)]
  | 7 => [(9, 1), (0, 0), (0, 0), (3, 0), (9, 2), (9, 8), (9, 12), (9, 16), (9, 22), (9, 28), (9, 32), (9, 90), (9, 108), (9, 110), (9, 111)]
  | 8 => [(9, 1), (9, 2), (9, 3), (9, 4), (9, 5), (0, 0), (0, 0), (0, 0), (0, 0), (0, 0), (0, 0), (0, 0), (0, 0), (0, 0), (0, 0), (9, 6), (0, 0), (0, 0), (0, 0), (0, 0), (0, 0), (0, 0), (0, 0), (0, 0), (0, 0), (9, 7), (9, 8), (0, 0), (0, 0), (0, 0), (9, 9), (9, 10), (9, 11), (0, 0), (9, 12), (9, 13), (9, 14), (0, 0), (0, 0), (9, 15), (0, 0), (9, 16), (9, 17), (9, 18), (0, 0), (0, 0), (0, 0), (0, 0), (0, 0), (3, 0), (9, 19), (9, 20), (9, 21), (0, 0), (9, 22), (9, 23), (9, 24), (0, 0)]
  | _ => []
def mStr : List (String × Nat × String) := [("BinProver$Reader", 88, "capacity"), ("BinProver$Reader", 93, "sort"), ("BinProver$Reader", 95, "bin"), ("BinProver", 92, "the tape has not so many bytes"), ("BinProver", 159, "no such count"), ("BinProver", 426, "no such sort"), ("BinProver", 178, "no such number of a sort"), ("BinProver", 428, "no such bin"), ("BinProver", 430, "no such rule"), ("BinProver", 205, "no such thing"), ("BinProver", 207, "no such guarantee"), ("BinProver", 237, "no such bound"), ("BinProver", 239, "not 0 to half of the capacity"), ("BinProver", 241, "not 1 to 20"), ("BinProver", 252, "no such number of patterns"), ("BinProver", 261, "no such pattern"), ("BinProver", 267, "no such number of the tree"), ("BinProver", 286, "no such bin of the best packing"), ("BinProver", 291, "no such number of the net"), ("BinProver", 304, "no such point"), ("BinProver", 363, "not 1 to 24 bins"), ("BinProver", 386, "no such number of others"), ("BinProver", 402, "no such number to look at"), ("BinProver", 410, "not 0 to 10 tenths"), ("BinProver", 415, "no such number of years"), ("BinProver", 417, "not 0 to 60 things by a rule of 0 to 3")]
/-- range by kind: 0 int, 1 long, 2 byte, 3 boolean -/
def mRg (k : Nat) (x : Int) : Prop := match k with
  | 0 => r32 x
  | 1 => r64 x
  | 2 => -128 ≤ x ∧ x ≤ 127
  | _ => 0 ≤ x ∧ x ≤ 1
/-- what kind of number lies at a place of a name -/
def mEl (n j : Nat) : Option Nat := match mShL[n]? with
  | none => none
  | some (k, l) => if k < 4 then (if j < l then some k else none) else if k < 10 then none else match (mFt (k - 10))[j]? with
    | none => none
    | some ft => if ft.1 = 9 then none else some ft.1
def mOK (M : mM) : Prop := ∀ n j k : Nat, mEl n j = some k → mRg k (M n j)
def mFd (b0 : Nat) (M : mM) (n : Nat) (ft : Nat × Nat) (j : Nat) : Value := if ft.1 = 9 then .ref (b0 + n + ft.2) else .int (Int32.ofInt (M n j))
def mFds (b0 : Nat) (M : mM) (n : Nat) (fts : List (Nat × Nat)) : List Value := (List.range fts.length).map fun j => mFd b0 M n (fts.getD j (0, 0)) j
def mEnt (b0 : Nat) (κ : Nat → ClassId) (M : mM) (n : Nat) : va_E := match mShL[n]? with
  | some (0, l) => .inl (κ 0, l, .inl (fun j => Int32.ofInt (M n j)))
  | some (1, l) => .inl (κ 1, l, .inr (.inl (fun j => Int64.ofInt (M n j))))
  | some (2, l) => .inl (κ 2, l, .inl (fun j => Int32.ofInt (M n j)))
  | some (3, l) => .inl (κ 3, l, .inl (fun j => Int32.ofInt (M n j)))
  | some (4, l) => .inl (κ 4, l, .inr (.inr (.inr (.inr (fun j => some (b0 + n + 1 + j))))))
  | some (k, _) => .inr (k - 10, mFds b0 M n (mFt (k - 10)))
  | none => .inr (0, [])
def mWd (b0 : Nat) (κ : Nat → ClassId) (M : mM) : va_W := (List.range mShL.length).map fun n => (b0 + n, mEnt b0 κ M n)
theorem mWd_get {b0 : Nat} {κ : Nat → ClassId} {M : mM} {n : Nat} {kl : Nat × Nat} (h : mShL[n]? = some kl) : (mWd b0 κ M)[n]? = some (b0 + n, mEnt b0 κ M n) := by
  have hn : n < mShL.length := (List.getElem?_eq_some_iff.mp h).1
  unfold mWd
  rw [List.getElem?_map, List.getElem?_range hn]
  rfl
theorem mWd_set {b0 : Nat} {κ : Nat → ClassId} {M M' : mM} {n : Nat} {e : va_E} (he : mEnt b0 κ M' n = e) (ho : ∀ k : Nat, k ≠ n → mEnt b0 κ M' k = mEnt b0 κ M k) : (mWd b0 κ M).set n (b0 + n, e) = mWd b0 κ M' := by
  apply List.ext_getElem?
  intro k
  unfold mWd
  by_cases hk : k = n
  · subst hk
    rw [List.getElem?_set_self']
    by_cases hl : k < mShL.length
    · rw [List.getElem?_map, List.getElem?_map, List.getElem?_range hl]
      simp [he]
    · rw [List.getElem?_map, List.getElem?_map, List.getElem?_eq_none (by rw [List.length_range]; omega)]
      rfl
  · rw [List.getElem?_set_ne (fun h => hk h.symm), List.getElem?_map, List.getElem?_map]
    by_cases hl : k < mShL.length
    · rw [List.getElem?_range hl]
      simp [ho k hk]
    · rw [List.getElem?_eq_none (by rw [List.length_range]; omega)]
      rfl
/-- the machine's value of a value -/
def mRv (g : mG) : mV → Value
  | .inl x => .int (Int32.ofInt x)
  | .inr (.inl x) => .long (Int64.ofInt x)
  | .inr (.inr (.inl (_, _, n))) => .ref (g.1 + n.toNat)
  | .inr (.inr (.inr j)) => .ref (g.2.2.2.2.1 j)
def mVk : mV → Prop
  | .inl x => r32 x
  | .inr (.inl x) => r64 x
  | .inr (.inr (.inl (k, l, n))) => 0 ≤ n ∧ mShL[n.toNat]? = some (k, l)
  | .inr (.inr (.inr _)) => True
/-- the locals that are known: mE 0 is none -/
def mJ : mV → Bool
  | Sum.inl _ => false
  | Sum.inr (Sum.inl _) => false
  | Sum.inr (Sum.inr (Sum.inl _)) => false
  | Sum.inr (Sum.inr (Sum.inr j)) => j == 0
theorem mJ_ne {v : mV} (h : v ≠ mE 0) : mJ v = false := by
  rcases v with x | x | x | x
  · rfl
  · rfl
  · rfl
  · cases x with
    | zero => exact absurd rfl h
    | succ x => rfl
theorem mJ_eq {v : mV} (h : mJ v = false) : v ≠ mE 0 := fun e => by subst e; cases h
def mLv (g : mG) (ls : List mV) : List (Nat × Value) := (List.range ls.length).filterMap fun i => (ls[i]?).bind fun v => if mJ v then none else some (i, mRv g v)
theorem mLv_mem {g : mG} {ls : List mV} {i : Nat} {w : Value} : (i, w) ∈ mLv g ls ↔ ∃ v, ls[i]? = some v ∧ v ≠ mE 0 ∧ w = mRv g v := by
  unfold mLv
  rw [List.mem_filterMap]
  constructor
  · rintro ⟨j, -, hj⟩
    cases hv : ls[j]? with
    | none => rw [hv] at hj; cases hj
    | some v =>
      rw [hv, Option.bind_some] at hj
      by_cases h0 : mJ v = true
      · rw [if_pos h0] at hj; cases hj
      · rw [if_neg h0] at hj
        cases hj
        exact ⟨v, hv, mJ_eq (by simpa using h0), rfl⟩
  · rintro ⟨v, hv, h0, rfl⟩
    refine ⟨i, List.mem_range.mpr (List.getElem?_eq_some_iff.mp hv).1, ?_⟩
    rw [hv, Option.bind_some, if_neg (by rw [mJ_ne h0]; decide)]
theorem lv_has.mono {ls : Array Slot} {nL : Nat} {l l' : List (Nat × Value)} (h : lv_has ls nL l) (hs : ∀ q ∈ l', q ∈ l) : lv_has ls nL l' := ⟨h.1, h.2.1, fun q hq => h.2.2 q (hs q hq)⟩
theorem mLv_at {g : mG} {ls : List mV} {rls : Array Slot} {nL i : Nat} {v : mV} (h : lv_has rls nL (mLv g ls)) (hv : ls[i]? = some v) (h0 : v ≠ mE 0) : rls[i]? = some (.val (mRv g v)) := h.2.2 (i, mRv g v) (mLv_mem.mpr ⟨v, hv, h0, rfl⟩)
/-- a value of one slot may be put at place i: no long stands just ahead of it -/
def mFree (ls : List mV) (i : Nat) : Bool := match i with
  | 0 => true
  | j + 1 => match ls[j]? with
    | some (.inr (.inl _)) => false
    | _ => true
theorem mRv_cat {g : mG} {v : mV} (h : (mRv g v).category = 2) : ∃ x, v = mL x := by
  rcases v with x | x | x | x
  · cases h
  · exact ⟨x, rfl⟩
  · cases h
  · cases h
theorem mFree_ok {g : mG} {ls : List mV} {i j : Nat} {v : mV} (hf : mFree ls i = true) (hj : ls[j]? = some v) (hji : j + 1 = i) : ¬ (mRv g v).category = 2 := by
  intro hc
  obtain ⟨x, rfl⟩ := mRv_cat hc
  subst hji
  simp [mFree, hj] at hf
theorem mLv_st1 {g : mG} {ls : List mV} {i : Nat} {v : mV} (hf : mFree ls i = true) : ∀ q ∈ mLv g (ls.set i v), q ∈ (i, mRv g v) :: (mLv g ls).filter (fun q => !(q.1 == i) && !(q.1 + 1 == i && q.2.category == 2)) := by
  rintro ⟨j, w⟩ hq
  obtain ⟨u, hu, h0, rfl⟩ := mLv_mem.mp hq
  by_cases hji : j = i
  · subst hji
    rw [List.getElem?_set_self'] at hu
    cases hl : ls[j]? with
    | none => rw [hl] at hu; cases hu
    | some z =>
      rw [hl] at hu
      cases hu
      exact List.mem_cons_self
  · rw [List.getElem?_set_ne (fun h => hji h.symm)] at hu
    refine List.mem_cons_of_mem _ (List.mem_filter.mpr ⟨mLv_mem.mpr ⟨u, hu, h0, rfl⟩, ?_⟩)
    have h1 : (j == i) = false := by simp [hji]
    by_cases h2 : j + 1 = i
    · have h3 := mFree_ok (g := g) hf hu h2
      simp [h1, h2, h3]
    · simp [h1, h2]
theorem mLv_st2 {g : mG} {ls : List mV} {i : Nat} {x : Int} (hf : mFree ls i = true) : ∀ q ∈ mLv g ((ls.set i (mL x)).set (i + 1) (mE 0)), q ∈ (i, mRv g (mL x)) :: (mLv g ls).filter (fun q => !(q.1 == i) && (!(q.1 == i + 1) && !(q.1 + 1 == i && q.2.category == 2))) := by
  rintro ⟨j, w⟩ hq
  obtain ⟨u, hu, h0, rfl⟩ := mLv_mem.mp hq
  by_cases hj1 : j = i + 1
  · subst hj1
    rw [List.getElem?_set_self'] at hu
    cases hl : (ls.set i (mL x))[i + 1]? with
    | none => rw [hl] at hu; cases hu
    | some z => rw [hl] at hu; cases hu; exact absurd rfl h0
  · rw [List.getElem?_set_ne (fun h => hj1 h.symm)] at hu
    by_cases hji : j = i
    · subst hji
      rw [List.getElem?_set_self'] at hu
      cases hl : ls[j]? with
      | none => rw [hl] at hu; cases hu
      | some z => rw [hl] at hu; cases hu; exact List.mem_cons_self
    · rw [List.getElem?_set_ne (fun h => hji h.symm)] at hu
      refine List.mem_cons_of_mem _ (List.mem_filter.mpr ⟨mLv_mem.mpr ⟨u, hu, h0, rfl⟩, ?_⟩)
      have h1 : (j == i) = false := by simp [hji]
      have h4 : (j == i + 1) = false := by simp [hj1]
      by_cases h2 : j + 1 = i
      · have h3 := mFree_ok (g := g) hf hu h2
        simp [h1, h4, h2, h3]
      · simp [h1, h4, h2]
theorem mVk_set {ls : List mV} {i : Nat} {v : mV} (h : ∀ u ∈ ls, mVk u) (hv : mVk v) : ∀ u ∈ ls.set i v, mVk u := fun u hu => by
  rcases List.mem_or_eq_of_mem_set hu with h1 | h1
  · exact h u h1
  · rw [h1]; exact hv
theorem mVk_at {ls : List mV} {i : Nat} {v : mV} (h : ∀ u ∈ ls, mVk u) (hv : ls[i]? = some v) : mVk v := h v (List.mem_of_getElem? hv)
theorem mVk_c {st : List mV} {v : mV} (hv : mVk v) (h : ∀ u ∈ st, mVk u) : ∀ u ∈ v :: st, mVk u := fun u hu => by
  rcases List.mem_cons.mp hu with h1 | h1
  · rw [h1]; exact hv
  · exact h u h1
theorem mVk_h {st : List mV} {v : mV} (h : ∀ u ∈ v :: st, mVk u) : mVk v := h v List.mem_cons_self
theorem mVk_t {st : List mV} {v : mV} (h : ∀ u ∈ v :: st, mVk u) : ∀ u ∈ st, mVk u := fun u hu => h u (List.mem_cons_of_mem _ hu)
theorem mVk_n : ∀ u ∈ ([] : List mV), mVk u := fun _ h => nomatch h
/-! numbers of the machine -/
theorem i_ti {x : Int} (h : r32 x) : (Int32.ofInt x).toInt = x := Int32.toInt_ofInt_of_le (by omega) (by omega)
theorem l_ti {x : Int} (h : r64 x) : (Int64.ofInt x).toInt = x := Int64.toInt_ofInt_of_le (by omega) (by omega)
theorem i_rg (x : Int32) : r32 x.toInt := ⟨by have := x.le_toInt; omega, by have := x.toInt_lt; omega⟩
theorem l_rg (x : Int64) : r64 x.toInt := ⟨by have := x.le_toInt; omega, by have := x.toInt_lt; omega⟩
theorem i_lt {x y : Int} (hx : r32 x) (hy : r32 y) : Int32.ofInt x < Int32.ofInt y ↔ x < y := by rw [Int32.lt_iff_toInt_lt, i_ti hx, i_ti hy]
theorem i_le {x y : Int} (hx : r32 x) (hy : r32 y) : Int32.ofInt x ≤ Int32.ofInt y ↔ x ≤ y := by rw [Int32.le_iff_toInt_le, i_ti hx, i_ti hy]
theorem i_eq {x y : Int} (hx : r32 x) (hy : r32 y) : Int32.ofInt x = Int32.ofInt y ↔ x = y := by rw [← Int32.toInt_inj, i_ti hx, i_ti hy]
theorem l_lt {x y : Int} (hx : r64 x) (hy : r64 y) : Int64.ofInt x < Int64.ofInt y ↔ x < y := by rw [Int64.lt_iff_toInt_lt, l_ti hx, l_ti hy]
theorem l_eq {x y : Int} (hx : r64 x) (hy : r64 y) : Int64.ofInt x = Int64.ofInt y ↔ x = y := by rw [← Int64.toInt_inj, l_ti hx, l_ti hy]
theorem r32_0 : r32 0 := by omega
theorem i_nat {x : Int} (h : r32 x) (h0 : 0 ≤ x) : (Int32.ofInt x).toNatClampNeg = x.toNat := by
  rw [← Int32.toNat_toInt, i_ti h]
theorem i_in {x : Int} {n : Nat} (h : r32 x) (h0 : 0 ≤ x ∧ x < n) : vp_in (Int32.ofInt x) n := by
  rw [vp_in_iff, i_ti h]; omega
/-- the tables' words that stay as they are; of the others the two kinds that a throw needs -/
def mTbl : List Cond := lw_tbl.filter goodWord
theorem mTbl_mem {w : Cond} (h : w ∈ lw_tbl) (hg : goodWord w = true) : w ∈ mTbl := List.mem_filter.mpr ⟨h, hg⟩
theorem mTbl_at {w : Cond} (i : Nat) (h : lw_tbl[i]? = some w) (hg : goodWord w = true) : w ∈ mTbl := mTbl_mem (List.mem_of_getElem? h) hg
def mCast : Cond → Bool
  | .castable .. => true
  | .declares _ => true
  | _ => false
/-! where a method runs: the machine, the code, the tables, the room for d more frames, what lies outside -/
def mKn : List Int32 := [99, 97, 112, 97, 99, 105, 116, 121, 32, 115, 111, 114, 116, 32, 98, 105, 110, 32]
abbrev mTy (κ : Nat → ClassId) : List (ClassId × FieldType) := [(κ 0, .int), (κ 1, .long), (κ 2, .byte), (κ 3, .boolean), (κ 4, .array .int)]
def mExt (g : mG) (A : Nat → Prop) (l : Launch) (s : State) : Prop :=
  l.stackTraces = false ∧ (vx_Zq Bundle.tN "UNASSIGNED_STACK" Bundle.steD A s s.heap ∧ vx_Zq Bundle.tN "SUPPRESSED_SENTINEL" Bundle.listD A s s.heap) ∧
  (va_Z "BinProverModel" "KNOWN" "[B" (.ref (g.2.2.2.2.1 1)) A s s.heap ∧ va_T .byte (g.2.2.2.2.1 1) 18 (fun j => .int (mKn.getD j 0)) A s s.heap) ∧
  (va_X (g.2.2.2.2.1 2) g.2.2.2.2.2.2 g.2.2.2.2.2.1 s s.heap ∧ g.2.2.2.2.1 2 < s.heap.size ∧ ¬ A (g.2.2.2.2.1 2)) ∧
  (∀ (i : Nat) (o : String × Nat × String), mStr[i]? = some o → vk_R o.1 o.2.1 o.2.2 (g.2.2.2.2.1 (10 + i)) s) ∧
  vk_S 3 [8, 4, 3] [[99, 97, 112, 97, 99, 105, 116, 121], [115, 111, 114, 116], [98, 105, 110]] (fun i => g.2.2.2.2.1 (10 + i)) (fun i => g.2.2.2.2.1 (60 + i)) A s s.heap ∧
  va_Z "java/lang/String" "COMPACT_STRINGS" "Z" (.int 1) A s s.heap ∧ va_Zq "jdk/internal/util/Preconditions" "SIOOBE_FORMATTER" "Ljava/util/function/BiFunction;" A s s.heap ∧
  (∀ w ∈ lw_tbl, mCast w = true → va_Nw w s) ∧ va_Nc "java/lang/IllegalArgumentException" "java/util/NoSuchElementException" s
def mCtx (d : Nat) (q : mMth) (g : mG) (A : Nat → Prop) (p : Program) (l : Launch) (R : Room) (s : State) (m : MethodId) (args : Array Value) (meth : Method) (c : Code) : Prop :=
  p.tables.exec = Jvm.exec ∧ c.code = q.2.1 ∧ c.maxLocals = q.2.2.1 ∧ s.vm.findClass q.1.cls = some m.cls ∧ (∀ w ∈ mTbl, w.before args s = true) ∧ meth.locks = false ∧ d ≤ R.frames ∧ 64 * d ≤ R.locals ∧
  va_K (g.2.1, g.2.2.1) vwCl (mTy g.2.2.2.1) s ∧ (∀ x : Nat, s.heap.size ≤ x → A x) ∧ mExt g A l s
def mRel (g : mG) (A : Nat → Prop) (H0 : Heap) (M : mM) (H : Heap) (locs : List Loc) : Prop :=
  va_P (g.2.1, g.2.2.1) vwCl (mWd g.1 g.2.2.2.1 M) H ∧ va_D A (mWd g.1 g.2.2.2.1 M) ∧ va_S A H0 H locs ∧ mOK M ∧ M (-1) (-1) = g.2.2.2.2.2.2 ∧ ∀ j : Nat, j < g.2.2.2.2.2.2 → M (-1) j = (g.2.2.2.2.2.1 j).toInt
def mRi : Option FieldType → Instr
  | none => .return_
  | some .long => .lreturn
  | some (.object _) => .areturn
  | some (.array _) => .areturn
  | some _ => .ireturn
/-- an answer of the type -/
def mOut : Option FieldType → Option mV → Prop
  | none, none => True
  | some .int, some (.inl x) => r32 x
  | some .boolean, some (.inl x) => 0 ≤ x ∧ x ≤ 1
  | some .byte, some (.inl x) => -128 ≤ x ∧ x ≤ 127
  | some .char, some (.inl x) => 0 ≤ x ∧ x ≤ 65535
  | some .long, some (.inr (.inl x)) => r64 x
  | some (.object _), some (.inr (.inr (.inl (k, l, n)))) => mVk (mR k l n)
  | _, _ => False
/-- the classes that are thrown: 1, 2 -/
def mXn : Nat → String
  | 1 => "java/util/NoSuchElementException"
  | _ => "java/lang/IllegalArgumentException"
/-- by which entry its constructor calls super, and that constructor -/
def mXi : Nat → Nat × ByteArray
  | 1 => (13, tx_rx)
  | _ => (7, Bundle.six)
theorem mXd (E : Nat) : tx_dec (mXi E).1 (mXi E).2 := by
  unfold mXi
  split
  · exact tx_dec13
  · exact tx_dec7
/-- pc is where 'throw new' of a class begins -/
def mThr (q : mMth) (pc E : Nat) : Prop := ∃ (ik is ic i : Nat) (tx : String),
  decode q.2.1 pc = .ok (.new ik, 3) ∧ decode q.2.1 (pc + 3) = .ok (.dup, 1) ∧ mStr[i]? = some (q.1.cls, is, tx) ∧
  Cond.classLink q.1.cls ik (mXn E) ∈ mTbl ∧ Cond.initialized (mXn E) ∈ mTbl ∧ Bundle.fit (mXn E) = true ∧
  (∀ w ∈ tx_at q.1.cls ic (mXn E) (mXi E).1 (mXi E).2 ["java/lang/RuntimeException", "java/lang/Exception"], (w ∈ mTbl ∨ (w ∈ lw_tbl ∧ mCast w = true)) ∧ vx_ot w = true) ∧
  ((decode q.2.1 (pc + 4) = .ok (.ldc is, 2) ∧ decode q.2.1 (pc + 6) = .ok (.invokespecial ic, 3) ∧ decode q.2.1 (pc + 9) = .ok (.athrow, 1)) ∨
   (decode q.2.1 (pc + 4) = .ok (.ldc_w is, 3) ∧ decode q.2.1 (pc + 7) = .ok (.invokespecial ic, 3) ∧ decode q.2.1 (pc + 10) = .ok (.athrow, 1)))
/-- how a method ends: it returns, 'throw new' begins, something thrown by a callee goes on -/
def mEnd (q : mMth) (g : mG) (A : Nat → Prop) (p : Program) (l : Launch) (e : Env) (R : Room) (s : State) (m : MethodId) (args : Array Value) (below : List Frame) (meth : Method) (c : Code) (cT sT : Nat) (Qf : State → Prop) (Q : mRes → mM → Prop) : Prop :=
  (∀ (r : Option mV) (M' : mM) (H' : Heap) (locs' : List Loc) (cells' slots' pc' : Nat) (rls' : Array Slot), Q (.inl r) M' → mRel g A s.heap M' H' locs' → mOut q.2.2.2 r → cells' ≤ cT → slots' ≤ sT → decode q.2.1 pc' = .ok (mRi q.2.2.2, 1) →
    W p l e R s m args below meth c H' locs' cells' slots' Qf (F0 m pc' rls' (r.toList.map (mRv g)))) ∧
  (∀ (E : Nat) (M' : mM) (H' : Heap) (locs' : List Loc) (cells' slots' pc' : Nat) (rls' : Array Slot) (rst : List Value), Q (.inr E) M' → mRel g A s.heap M' H' locs' → cells' + 1 ≤ cT → slots' + 6 ≤ sT → mThr q pc' E → 7 ≤ R.frames → 160 ≤ R.locals → rls'.size = q.2.2.1 → (rst.map fun v => v.category).sum ≤ 8 →
    W p l e R s m args below meth c H' locs' cells' slots' Qf (F0 m pc' rls' rst)) ∧
  (∀ (E : Nat) (M' : mM) (H' : Heap) (locs' : List Loc) (cells' slots' pc' : Nat) (rls' : Array Slot) (rst : List Value) (x : Addr) (ce : Cell), Q (.inr E) M' → mRel g A s.heap M' H' locs' → cells' ≤ cT → slots' ≤ sT → H'[x]? = some ce → ce.vm = .none → s.vm.findClass (mXn E) = some ce.cls →
    vx_W p l e R s m args below meth c H' locs' cells' slots' Qf (F0 m pc' rls' rst) x)
/-- from this place of the method, with these locals, this stack, this memory, the method ends with Q; d frames deep at most, k exceptions at most -/
def V (d k : Nat) (q : mMth) (pc : Nat) (ls st : List mV) (M : mM) (Q : mRes → mM → Prop) : Prop :=
  ∀ (g : mG) (A : Nat → Prop) (p : Program) (l : Launch) (e : Env) (R : Room) (s : State) (m : MethodId) (args : Array Value) (below : List Frame) (meth : Method) (c : Code) (H : Heap) (locs : List Loc) (cells slots cT sT : Nat) (Qf : State → Prop) (rls : Array Slot),
    mCtx d q g A p l R s m args meth c → mRel g A s.heap M H locs → lv_has rls q.2.2.1 (mLv g ls) → (∀ v ∈ ls, mVk v) → (∀ v ∈ st, mVk v) → (cells + k ≤ cT ∧ slots + 6 * k ≤ sT ∧ cT ≤ R.cells ∧ sT ≤ R.slots) →
    mEnd q g A p l e R s m args below meth c cT sT Qf Q → W p l e R s m args below meth c H locs cells slots Qf (F0 m pc rls (st.map (mRv g)))
section Rules
variable {d k : Nat} {q : mMth} {pc : Nat} {ls st : List mV} {M : mM} {Q : mRes → mM → Prop}
theorem mVk_cmp (x y : Int) : r32 (if y < x then 1 else if x = y then 0 else -1) := by
  split
  · omega
  · split <;> omega
theorem i8_32 (x : Int8) : Int32.ofInt x.toInt = x.toInt32 := rfl
theorem mRv_c1 {g : mG} {v : mV} (hv : ∀ x, v ≠ mL x) : (mRv g v).category = 1 := by
  rcases v with x | x | x | x
  · rfl
  · exact absurd rfl (hv x)
  · rfl
  · rfl
theorem V_iconst {n : Int} (hd : decode q.2.1 pc = .ok (.iconst n, 1)) (hn : r32 n) (h : V d k q (pc + 1) ls (mI n :: st) M Q) : V d k q pc ls (st) M Q := by
  intro g A p l e R s m args below meth c H locs cells slots cT sT Qf rls hC hM hl hlk hsk hr hE
  have h := h g A p l e R s m args below meth c H locs cells slots cT sT Qf rls hC hM hl hlk (mVk_c hn hsk) hr hE
  refine lv_iconst hC.1 hC.2.1 hd rfl ?_
  exact h

theorem V_bipush {n : Int} (hd : decode q.2.1 pc = .ok (.bipush n, 2)) (hn : r32 n) (hv : (Int8.ofInt n).toInt32 = Int32.ofInt n) (h : V d k q (pc + 2) ls (mI n :: st) M Q) : V d k q pc ls (st) M Q := by
  intro g A p l e R s m args below meth c H locs cells slots cT sT Qf rls hC hM hl hlk hsk hr hE
  have h := h g A p l e R s m args below meth c H locs cells slots cT sT Qf rls hC hM hl hlk (mVk_c hn hsk) hr hE
  refine lv_bipush hC.1 hC.2.1 hd hv ?_
  exact h

theorem V_sipush {n : Int} (hd : decode q.2.1 pc = .ok (.sipush n, 3)) (hn : r32 n) (hv : (Int16.ofInt n).toInt32 = Int32.ofInt n) (h : V d k q (pc + 3) ls (mI n :: st) M Q) : V d k q pc ls (st) M Q := by
  intro g A p l e R s m args below meth c H locs cells slots cT sT Qf rls hC hM hl hlk hsk hr hE
  have h := h g A p l e R s m args below meth c H locs cells slots cT sT Qf rls hC hM hl hlk (mVk_c hn hsk) hr hE
  refine lv_sipush hC.1 hC.2.1 hd hv ?_
  exact h

theorem V_lconst {n : Fin 2} {x : Int} (hd : decode q.2.1 pc = .ok (.lconst n, 1)) (hn : r64 x) (hv : Int64.ofNat (n : Nat) = Int64.ofInt x) (h : V d k q (pc + 1) ls (mL x :: st) M Q) : V d k q pc ls (st) M Q := by
  intro g A p l e R s m args below meth c H locs cells slots cT sT Qf rls hC hM hl hlk hsk hr hE
  have h := h g A p l e R s m args below meth c H locs cells slots cT sT Qf rls hC hM hl hlk (mVk_c hn hsk) hr hE
  refine lv_lconst hC.1 hC.2.1 hd hv ?_
  exact h

theorem V_ldc {i : Nat} {v : Int32} {n : Int} (hd : decode q.2.1 pc = .ok (.ldc i, 2)) (hw : Cond.constant q.1.cls i v ∈ mTbl) (hn : r32 n) (hv : v = Int32.ofInt n) (h : V d k q (pc + 2) ls (mI n :: st) M Q) : V d k q pc ls (st) M Q := by
  intro g A p l e R s m args below meth c H locs cells slots cT sT Qf rls hC hM hl hlk hsk hr hE
  have h := h g A p l e R s m args below meth c H locs cells slots cT sT Qf rls hC hM hl hlk (mVk_c hn hsk) hr hE
  refine lv_ldc hC.1 hC.2.1 hC.2.2.2.1 (hC.2.2.2.2.1 _ hw) hd ?_
  rw [hv]; exact h

theorem V_ldcw {i : Nat} {v : Int32} {n : Int} (hd : decode q.2.1 pc = .ok (.ldc_w i, 3)) (hw : Cond.constant q.1.cls i v ∈ mTbl) (hn : r32 n) (hv : v = Int32.ofInt n) (h : V d k q (pc + 3) ls (mI n :: st) M Q) : V d k q pc ls (st) M Q := by
  intro g A p l e R s m args below meth c H locs cells slots cT sT Qf rls hC hM hl hlk hsk hr hE
  have h := h g A p l e R s m args below meth c H locs cells slots cT sT Qf rls hC hM hl hlk (mVk_c hn hsk) hr hE
  refine lv_ldcw hC.1 hC.2.1 hC.2.2.2.1 (hC.2.2.2.2.1 _ hw) hd ?_
  rw [hv]; exact h

theorem V_iload {i : Nat} {x : Int} (hd : decode q.2.1 pc = .ok (.iload i, 2)) (hv : ls[i]? = some (mI x)) (h : V d k q (pc + 2) ls (mI x :: st) M Q) : V d k q pc ls (st) M Q := by
  intro g A p l e R s m args below meth c H locs cells slots cT sT Qf rls hC hM hl hlk hsk hr hE
  have h := h g A p l e R s m args below meth c H locs cells slots cT sT Qf rls hC hM hl hlk (mVk_c (mVk_at hlk hv) hsk) hr hE
  refine lv_iload hC.1 hC.2.1 hd (mLv_at hl hv (fun h => by cases h)) ?_
  exact h

theorem V_iload_n {i : Fin 4} {x : Int} (hd : decode q.2.1 pc = .ok (.iload_n i, 1)) (hv : ls[(i : Nat)]? = some (mI x)) (h : V d k q (pc + 1) ls (mI x :: st) M Q) : V d k q pc ls (st) M Q := by
  intro g A p l e R s m args below meth c H locs cells slots cT sT Qf rls hC hM hl hlk hsk hr hE
  have h := h g A p l e R s m args below meth c H locs cells slots cT sT Qf rls hC hM hl hlk (mVk_c (mVk_at hlk hv) hsk) hr hE
  refine lv_iload_n hC.1 hC.2.1 hd rfl (mLv_at hl hv (fun h => by cases h)) ?_
  exact h

theorem V_lload {i : Nat} {x : Int} (hd : decode q.2.1 pc = .ok (.lload i, 2)) (hv : ls[i]? = some (mL x)) (h : V d k q (pc + 2) ls (mL x :: st) M Q) : V d k q pc ls (st) M Q := by
  intro g A p l e R s m args below meth c H locs cells slots cT sT Qf rls hC hM hl hlk hsk hr hE
  have h := h g A p l e R s m args below meth c H locs cells slots cT sT Qf rls hC hM hl hlk (mVk_c (mVk_at hlk hv) hsk) hr hE
  refine lv_lload hC.1 hC.2.1 hd (mLv_at hl hv (fun h => by cases h)) ?_
  exact h

theorem V_lload_n {i : Fin 4} {x : Int} (hd : decode q.2.1 pc = .ok (.lload_n i, 1)) (hv : ls[(i : Nat)]? = some (mL x)) (h : V d k q (pc + 1) ls (mL x :: st) M Q) : V d k q pc ls (st) M Q := by
  intro g A p l e R s m args below meth c H locs cells slots cT sT Qf rls hC hM hl hlk hsk hr hE
  have h := h g A p l e R s m args below meth c H locs cells slots cT sT Qf rls hC hM hl hlk (mVk_c (mVk_at hlk hv) hsk) hr hE
  refine lv_lload_n hC.1 hC.2.1 hd rfl (mLv_at hl hv (fun h => by cases h)) ?_
  exact h

theorem V_aload {i : Nat} {a b : Nat} {n : Int} (hd : decode q.2.1 pc = .ok (.aload i, 2)) (hv : ls[i]? = some (mR a b n)) (h : V d k q (pc + 2) ls (mR a b n :: st) M Q) : V d k q pc ls (st) M Q := by
  intro g A p l e R s m args below meth c H locs cells slots cT sT Qf rls hC hM hl hlk hsk hr hE
  have h := h g A p l e R s m args below meth c H locs cells slots cT sT Qf rls hC hM hl hlk (mVk_c (mVk_at hlk hv) hsk) hr hE
  refine lv_aload hC.1 hC.2.1 hd (mLv_at hl hv (fun h => by cases h)) ?_
  exact h

theorem V_aload_n {i : Fin 4} {a b : Nat} {n : Int} (hd : decode q.2.1 pc = .ok (.aload_n i, 1)) (hv : ls[(i : Nat)]? = some (mR a b n)) (h : V d k q (pc + 1) ls (mR a b n :: st) M Q) : V d k q pc ls (st) M Q := by
  intro g A p l e R s m args below meth c H locs cells slots cT sT Qf rls hC hM hl hlk hsk hr hE
  have h := h g A p l e R s m args below meth c H locs cells slots cT sT Qf rls hC hM hl hlk (mVk_c (mVk_at hlk hv) hsk) hr hE
  refine lv_aload_n hC.1 hC.2.1 hd rfl (mLv_at hl hv (fun h => by cases h)) ?_
  exact h

theorem V_aloadE {i : Nat} {j : Nat} (hd : decode q.2.1 pc = .ok (.aload i, 2)) (hv : ls[i]? = some (mE (j + 1))) (h : V d k q (pc + 2) ls (mE (j + 1) :: st) M Q) : V d k q pc ls (st) M Q := by
  intro g A p l e R s m args below meth c H locs cells slots cT sT Qf rls hC hM hl hlk hsk hr hE
  have h := h g A p l e R s m args below meth c H locs cells slots cT sT Qf rls hC hM hl hlk (mVk_c (mVk_at hlk hv) hsk) hr hE
  refine lv_aload hC.1 hC.2.1 hd (mLv_at hl hv (fun h => by cases h)) ?_
  exact h

theorem V_aloadE_n {i : Fin 4} {j : Nat} (hd : decode q.2.1 pc = .ok (.aload_n i, 1)) (hv : ls[(i : Nat)]? = some (mE (j + 1))) (h : V d k q (pc + 1) ls (mE (j + 1) :: st) M Q) : V d k q pc ls (st) M Q := by
  intro g A p l e R s m args below meth c H locs cells slots cT sT Qf rls hC hM hl hlk hsk hr hE
  have h := h g A p l e R s m args below meth c H locs cells slots cT sT Qf rls hC hM hl hlk (mVk_c (mVk_at hlk hv) hsk) hr hE
  refine lv_aload_n hC.1 hC.2.1 hd rfl (mLv_at hl hv (fun h => by cases h)) ?_
  exact h

theorem V_istore {i : Nat} {x : Int} (hd : decode q.2.1 pc = .ok (.istore i, 2)) (hf : mFree ls i = true) (hi : i < q.2.2.1) (h : V d k q (pc + 2) (ls.set i (mI x)) st M Q) : V d k q pc ls (mI x :: st) M Q := by
  intro g A p l e R s m args below meth c H locs cells slots cT sT Qf rls hC hM hl hlk hsk hr hE
  refine lv_istore hC.1 hC.2.1 hd hl hi rfl (fun rls2 hl2 => ?_)
  exact h g A p l e R s m args below meth c H locs cells slots cT sT Qf rls2 hC hM (hl2.mono (mLv_st1 hf)) (mVk_set hlk (mVk_h hsk)) (mVk_t hsk) hr hE

theorem V_istore_n {i : Fin 4} {x : Int} (hd : decode q.2.1 pc = .ok (.istore_n i, 1)) (hf : mFree ls (i : Nat) = true) (hi : (i : Nat) < q.2.2.1) (h : V d k q (pc + 1) (ls.set (i : Nat) (mI x)) st M Q) : V d k q pc ls (mI x :: st) M Q := by
  intro g A p l e R s m args below meth c H locs cells slots cT sT Qf rls hC hM hl hlk hsk hr hE
  refine lv_istore_n hC.1 hC.2.1 hd rfl hl hi rfl (fun rls2 hl2 => ?_)
  exact h g A p l e R s m args below meth c H locs cells slots cT sT Qf rls2 hC hM (hl2.mono (mLv_st1 hf)) (mVk_set hlk (mVk_h hsk)) (mVk_t hsk) hr hE

theorem V_lstore_n {i : Fin 4} {x : Int} (hd : decode q.2.1 pc = .ok (.lstore_n i, 1)) (hf : mFree ls (i : Nat) = true) (hi : (i : Nat) + 1 < q.2.2.1) (h : V d k q (pc + 1) ((ls.set (i : Nat) (mL x)).set ((i : Nat) + 1) (mE 0)) st M Q) : V d k q pc ls (mL x :: st) M Q := by
  intro g A p l e R s m args below meth c H locs cells slots cT sT Qf rls hC hM hl hlk hsk hr hE
  refine lv_lstore_n hC.1 hC.2.1 hd rfl hl hi rfl (fun rls2 hl2 => ?_)
  exact h g A p l e R s m args below meth c H locs cells slots cT sT Qf rls2 hC hM (hl2.mono (mLv_st2 hf)) (mVk_set (mVk_set hlk (mVk_h hsk)) trivial) (mVk_t hsk) hr hE

theorem V_lstore {i : Nat} {x : Int} (hd : decode q.2.1 pc = .ok (.lstore i, 2)) (hf : mFree ls i = true) (hi : i + 1 < q.2.2.1) (h : V d k q (pc + 2) ((ls.set i (mL x)).set (i + 1) (mE 0)) st M Q) : V d k q pc ls (mL x :: st) M Q := by
  intro g A p l e R s m args below meth c H locs cells slots cT sT Qf rls hC hM hl hlk hsk hr hE
  refine lv_lstore hC.1 hC.2.1 hd hl hi rfl (fun rls2 hl2 => ?_)
  exact h g A p l e R s m args below meth c H locs cells slots cT sT Qf rls2 hC hM (hl2.mono (mLv_st2 hf)) (mVk_set (mVk_set hlk (mVk_h hsk)) trivial) (mVk_t hsk) hr hE

theorem V_astore {i a b : Nat} {n : Int} (hd : decode q.2.1 pc = .ok (.astore i, 2)) (hf : mFree ls i = true) (hi : i < q.2.2.1) (h : V d k q (pc + 2) (ls.set i (mR a b n)) st M Q) : V d k q pc ls (mR a b n :: st) M Q := by
  intro g A p l e R s m args below meth c H locs cells slots cT sT Qf rls hC hM hl hlk hsk hr hE
  refine lv_astore hC.1 hC.2.1 hd hl hi rfl (fun rls2 hl2 => ?_)
  exact h g A p l e R s m args below meth c H locs cells slots cT sT Qf rls2 hC hM (hl2.mono (mLv_st1 hf)) (mVk_set hlk (mVk_h hsk)) (mVk_t hsk) hr hE

theorem V_astore_n {i : Fin 4} {a b : Nat} {n : Int} (hd : decode q.2.1 pc = .ok (.astore_n i, 1)) (hf : mFree ls (i : Nat) = true) (hi : (i : Nat) < q.2.2.1) (h : V d k q (pc + 1) (ls.set (i : Nat) (mR a b n)) st M Q) : V d k q pc ls (mR a b n :: st) M Q := by
  intro g A p l e R s m args below meth c H locs cells slots cT sT Qf rls hC hM hl hlk hsk hr hE
  refine lv_astore_n hC.1 hC.2.1 hd rfl hl hi rfl (fun rls2 hl2 => ?_)
  exact h g A p l e R s m args below meth c H locs cells slots cT sT Qf rls2 hC hM (hl2.mono (mLv_st1 hf)) (mVk_set hlk (mVk_h hsk)) (mVk_t hsk) hr hE

theorem V_iinc {i : Nat} {n x : Int} (hd : decode q.2.1 pc = .ok (.iinc i n, 3)) (hv : ls[i]? = some (mI x)) (hn : r32 (x + n)) (hf : mFree ls i = true) (hi : i < q.2.2.1) (h : V d k q (pc + 3) (ls.set i (mI (x + n))) st M Q) : V d k q pc ls st M Q := by
  intro g A p l e R s m args below meth c H locs cells slots cT sT Qf rls hC hM hl hlk hsk hr hE
  obtain ⟨kk, hkk⟩ := List.getElem?_of_mem (mLv_mem (g := g).mpr ⟨_, hv, (fun h => by cases h), rfl⟩)
  refine lv_iinc (v := Int32.ofInt (x + n)) hC.1 hC.2.1 hd hl hkk (by rw [Int32.ofInt_add]) hi rfl (fun rls2 hl2 => ?_)
  exact h g A p l e R s m args below meth c H locs cells slots cT sT Qf rls2 hC hM (hl2.mono (mLv_st1 hf)) (mVk_set hlk hn) hsk hr hE

theorem V_iadd {x y : Int} (hd : decode q.2.1 pc = .ok (.iadd, 1)) (hn : r32 (x + y)) (h : V d k q (pc + 1) ls (mI (x + y) :: st) M Q) : V d k q pc ls (mI y :: mI x :: st) M Q := by
  intro g A p l e R s m args below meth c H locs cells slots cT sT Qf rls hC hM hl hlk hsk hr hE
  have h := h g A p l e R s m args below meth c H locs cells slots cT sT Qf rls hC hM hl hlk (mVk_c hn (mVk_t (mVk_t hsk))) hr hE
  refine lv_iadd hC.1 hC.2.1 hd ?_
  rw [← Int32.ofInt_add]; exact h

theorem V_iaddW {x y : Int} (hd : decode q.2.1 pc = .ok (.iadd, 1))  (h : V d k q (pc + 1) ls (mI (Int32.ofInt (x + y)).toInt :: st) M Q) : V d k q pc ls (mI y :: mI x :: st) M Q := by
  intro g A p l e R s m args below meth c H locs cells slots cT sT Qf rls hC hM hl hlk hsk hr hE
  have h := h g A p l e R s m args below meth c H locs cells slots cT sT Qf rls hC hM hl hlk (mVk_c (i_rg _) (mVk_t (mVk_t hsk))) hr hE
  refine lv_iadd hC.1 hC.2.1 hd ?_
  rw [← Int32.ofInt_add, ← Int32.ofInt_toInt (Int32.ofInt (x + y))]; exact h

theorem V_isub {x y : Int} (hd : decode q.2.1 pc = .ok (.isub, 1)) (hn : r32 (x - y)) (h : V d k q (pc + 1) ls (mI (x - y) :: st) M Q) : V d k q pc ls (mI y :: mI x :: st) M Q := by
  intro g A p l e R s m args below meth c H locs cells slots cT sT Qf rls hC hM hl hlk hsk hr hE
  have h := h g A p l e R s m args below meth c H locs cells slots cT sT Qf rls hC hM hl hlk (mVk_c hn (mVk_t (mVk_t hsk))) hr hE
  refine lv_isub hC.1 hC.2.1 hd ?_
  rw [← Int32.ofInt_sub]; exact h

theorem V_isubW {x y : Int} (hd : decode q.2.1 pc = .ok (.isub, 1))  (h : V d k q (pc + 1) ls (mI (Int32.ofInt (x - y)).toInt :: st) M Q) : V d k q pc ls (mI y :: mI x :: st) M Q := by
  intro g A p l e R s m args below meth c H locs cells slots cT sT Qf rls hC hM hl hlk hsk hr hE
  have h := h g A p l e R s m args below meth c H locs cells slots cT sT Qf rls hC hM hl hlk (mVk_c (i_rg _) (mVk_t (mVk_t hsk))) hr hE
  refine lv_isub hC.1 hC.2.1 hd ?_
  rw [← Int32.ofInt_sub, ← Int32.ofInt_toInt (Int32.ofInt (x - y))]; exact h

theorem V_imul {x y : Int} (hd : decode q.2.1 pc = .ok (.imul, 1)) (hn : r32 (x * y)) (h : V d k q (pc + 1) ls (mI (x * y) :: st) M Q) : V d k q pc ls (mI y :: mI x :: st) M Q := by
  intro g A p l e R s m args below meth c H locs cells slots cT sT Qf rls hC hM hl hlk hsk hr hE
  have h := h g A p l e R s m args below meth c H locs cells slots cT sT Qf rls hC hM hl hlk (mVk_c hn (mVk_t (mVk_t hsk))) hr hE
  refine lv_imul hC.1 hC.2.1 hd ?_
  rw [← Int32.ofInt_mul]; exact h

theorem V_imulW {x y : Int} (hd : decode q.2.1 pc = .ok (.imul, 1))  (h : V d k q (pc + 1) ls (mI (Int32.ofInt (x * y)).toInt :: st) M Q) : V d k q pc ls (mI y :: mI x :: st) M Q := by
  intro g A p l e R s m args below meth c H locs cells slots cT sT Qf rls hC hM hl hlk hsk hr hE
  have h := h g A p l e R s m args below meth c H locs cells slots cT sT Qf rls hC hM hl hlk (mVk_c (i_rg _) (mVk_t (mVk_t hsk))) hr hE
  refine lv_imul hC.1 hC.2.1 hd ?_
  rw [← Int32.ofInt_mul, ← Int32.ofInt_toInt (Int32.ofInt (x * y))]; exact h

theorem V_ineg {x : Int} (hd : decode q.2.1 pc = .ok (.ineg, 1)) (hn : r32 (-x)) (h : V d k q (pc + 1) ls (mI (-x) :: st) M Q) : V d k q pc ls (mI x :: st) M Q := by
  intro g A p l e R s m args below meth c H locs cells slots cT sT Qf rls hC hM hl hlk hsk hr hE
  have h := h g A p l e R s m args below meth c H locs cells slots cT sT Qf rls hC hM hl hlk (mVk_c hn (mVk_t hsk)) hr hE
  refine lv_ineg hC.1 hC.2.1 hd ?_
  rw [← Int32.ofInt_neg]; exact h

theorem i_mn : Int32.minValue.toInt = -2147483648 := by decide +kernel
theorem i_mx : Int32.maxValue.toInt = 2147483647 := by decide +kernel
theorem i_m1 : (-1 : Int32).toInt = -1 := by decide +kernel
theorem i_2l {x : Int} (hx : r32 x) : (Int32.ofInt x).toInt64 = Int64.ofInt x := Int32.toInt64_ofInt (by rw [i_mn]; omega) (by rw [i_mx]; omega)
theorem i_nm1 {y : Int} (hy : r32 y) (h1 : 0 < y) : Int32.ofInt y ≠ -1 := fun h => by
  have h2 := congrArg Int32.toInt h
  rw [i_ti hy, i_m1] at h2
  omega
theorem i_tdiv {x y : Int} (hx : r32 x) (hy : r32 y) (h0 : 0 ≤ x) (h1 : 0 < y) : Int32.ofInt x / Int32.ofInt y = Int32.ofInt (x / y) := by
  have h2 := Int.ediv_nonneg h0 (Int.le_of_lt h1)
  have h3 := Int.ediv_le_self y h0
  have h4 : r32 (x / y) := ⟨by omega, by omega⟩
  rw [← Int32.toInt_inj, Int32.toInt_div_of_ne_right _ _ (i_nm1 hy h1), i_ti hx, i_ti hy, i_ti h4, Int.tdiv_eq_ediv_of_nonneg h0]
theorem r32_div {x y : Int} (hx : r32 x) (h0 : 0 ≤ x) (h1 : 0 < y) : r32 (x / y) := by
  have h2 := Int.ediv_nonneg h0 (Int.le_of_lt h1)
  have h3 := Int.ediv_le_self y h0
  exact ⟨by omega, by omega⟩
theorem r32_mod {x y : Int} (hy : r32 y) (h1 : 0 < y) : r32 (x % y) := by
  have h2 := Int.emod_nonneg x (by omega : y ≠ 0)
  have h3 := Int.emod_lt_of_pos x h1
  exact ⟨by omega, by omega⟩
theorem i_ne0 {y : Int} (hy : r32 y) (h1 : 0 < y) : ¬ Int32.ofInt y = 0 := fun h => by
  have h2 := congrArg Int32.toInt h
  rw [i_ti hy, Int32.toInt_zero] at h2
  omega

theorem V_idiv {x y : Int} (hd : decode q.2.1 pc = .ok (.idiv, 1)) (h0 : 0 ≤ x) (h1 : 0 < y) (h : V d k q (pc + 1) ls (mI (x / y) :: st) M Q) : V d k q pc ls (mI y :: mI x :: st) M Q := by
  intro g A p l e R s m args below meth c H locs cells slots cT sT Qf rls hC hM hl hlk hsk hr hE
  have h := h g A p l e R s m args below meth c H locs cells slots cT sT Qf rls hC hM hl hlk (mVk_c (r32_div (mVk_h (mVk_t hsk)) h0 h1) (mVk_t (mVk_t hsk))) hr hE
  refine lv_idiv hC.1 hC.2.1 hd (i_ne0 (mVk_h hsk) h1) ?_
  rw [i_tdiv (mVk_h (mVk_t hsk)) (mVk_h hsk) h0 h1]; exact h

theorem V_irem {x y : Int} (hd : decode q.2.1 pc = .ok (.irem, 1)) (h0 : 0 ≤ x) (h1 : 0 < y) (h : V d k q (pc + 1) ls (mI (x % y) :: st) M Q) : V d k q pc ls (mI y :: mI x :: st) M Q := by
  intro g A p l e R s m args below meth c H locs cells slots cT sT Qf rls hC hM hl hlk hsk hr hE
  have h := h g A p l e R s m args below meth c H locs cells slots cT sT Qf rls hC hM hl hlk (mVk_c (r32_mod (mVk_h hsk) h1) (mVk_t (mVk_t hsk))) hr hE
  refine lv_irem hC.1 hC.2.1 hd (i_ne0 (mVk_h hsk) h1) ?_
  rw [i_tdiv (mVk_h (mVk_t hsk)) (mVk_h hsk) h0 h1, ← Int32.ofInt_mul, ← Int32.ofInt_sub, show x - x / y * y = x % y by rw [Int.mul_comm]; exact (Int.emod_def x y).symm]; exact h

theorem V_iand {x y : Int} (hd : decode q.2.1 pc = .ok (.iand, 1))  (h : V d k q (pc + 1) ls (mI (Int32.ofInt x &&& Int32.ofInt y).toInt :: st) M Q) : V d k q pc ls (mI y :: mI x :: st) M Q := by
  intro g A p l e R s m args below meth c H locs cells slots cT sT Qf rls hC hM hl hlk hsk hr hE
  have h := h g A p l e R s m args below meth c H locs cells slots cT sT Qf rls hC hM hl hlk (mVk_c (i_rg _) (mVk_t (mVk_t hsk))) hr hE
  refine lv_iand hC.1 hC.2.1 hd ?_
  rw [← Int32.ofInt_toInt (Int32.ofInt x &&& Int32.ofInt y)]; exact h

theorem V_ior {x y : Int} (hd : decode q.2.1 pc = .ok (.ior, 1))  (h : V d k q (pc + 1) ls (mI (Int32.ofInt x ||| Int32.ofInt y).toInt :: st) M Q) : V d k q pc ls (mI y :: mI x :: st) M Q := by
  intro g A p l e R s m args below meth c H locs cells slots cT sT Qf rls hC hM hl hlk hsk hr hE
  have h := h g A p l e R s m args below meth c H locs cells slots cT sT Qf rls hC hM hl hlk (mVk_c (i_rg _) (mVk_t (mVk_t hsk))) hr hE
  refine lv_ior hC.1 hC.2.1 hd ?_
  rw [← Int32.ofInt_toInt (Int32.ofInt x ||| Int32.ofInt y)]; exact h

theorem V_ishl {x y : Int} (hd : decode q.2.1 pc = .ok (.ishl, 1))  (h : V d k q (pc + 1) ls (mI (Int32.ofInt x <<< (Int32.ofInt y &&& 31)).toInt :: st) M Q) : V d k q pc ls (mI y :: mI x :: st) M Q := by
  intro g A p l e R s m args below meth c H locs cells slots cT sT Qf rls hC hM hl hlk hsk hr hE
  have h := h g A p l e R s m args below meth c H locs cells slots cT sT Qf rls hC hM hl hlk (mVk_c (i_rg _) (mVk_t (mVk_t hsk))) hr hE
  refine lv_ishl hC.1 hC.2.1 hd ?_
  rw [← Int32.ofInt_toInt (Int32.ofInt x <<< (Int32.ofInt y &&& 31))]; exact h

theorem V_ishr {x y : Int} (hd : decode q.2.1 pc = .ok (.ishr, 1))  (h : V d k q (pc + 1) ls (mI (Int32.ofInt x >>> (Int32.ofInt y &&& 31)).toInt :: st) M Q) : V d k q pc ls (mI y :: mI x :: st) M Q := by
  intro g A p l e R s m args below meth c H locs cells slots cT sT Qf rls hC hM hl hlk hsk hr hE
  have h := h g A p l e R s m args below meth c H locs cells slots cT sT Qf rls hC hM hl hlk (mVk_c (i_rg _) (mVk_t (mVk_t hsk))) hr hE
  refine lv_ishr hC.1 hC.2.1 hd ?_
  rw [← Int32.ofInt_toInt (Int32.ofInt x >>> (Int32.ofInt y &&& 31))]; exact h

theorem V_iushr {x y : Int} (hd : decode q.2.1 pc = .ok (.iushr, 1))  (h : V d k q (pc + 1) ls (mI ((Int32.ofInt x).toUInt32 >>> ((Int32.ofInt y).toUInt32 &&& Int32.toUInt32 31)).toInt32.toInt :: st) M Q) : V d k q pc ls (mI y :: mI x :: st) M Q := by
  intro g A p l e R s m args below meth c H locs cells slots cT sT Qf rls hC hM hl hlk hsk hr hE
  have h := h g A p l e R s m args below meth c H locs cells slots cT sT Qf rls hC hM hl hlk (mVk_c (i_rg _) (mVk_t (mVk_t hsk))) hr hE
  refine lv_iushr hC.1 hC.2.1 hd (Int32.ofInt_toInt _).symm ?_
  exact h

theorem V_ladd {x y : Int} (hd : decode q.2.1 pc = .ok (.ladd, 1)) (hn : r64 (x + y)) (h : V d k q (pc + 1) ls (mL (x + y) :: st) M Q) : V d k q pc ls (mL y :: mL x :: st) M Q := by
  intro g A p l e R s m args below meth c H locs cells slots cT sT Qf rls hC hM hl hlk hsk hr hE
  have h := h g A p l e R s m args below meth c H locs cells slots cT sT Qf rls hC hM hl hlk (mVk_c hn (mVk_t (mVk_t hsk))) hr hE
  refine lv_ladd hC.1 hC.2.1 hd ?_
  rw [← Int64.ofInt_add]; exact h

theorem V_lsub {x y : Int} (hd : decode q.2.1 pc = .ok (.lsub, 1)) (hn : r64 (x - y)) (h : V d k q (pc + 1) ls (mL (x - y) :: st) M Q) : V d k q pc ls (mL y :: mL x :: st) M Q := by
  intro g A p l e R s m args below meth c H locs cells slots cT sT Qf rls hC hM hl hlk hsk hr hE
  have h := h g A p l e R s m args below meth c H locs cells slots cT sT Qf rls hC hM hl hlk (mVk_c hn (mVk_t (mVk_t hsk))) hr hE
  refine lv_lsub hC.1 hC.2.1 hd ?_
  rw [← Int64.ofInt_sub]; exact h

theorem V_lmul {x y : Int} (hd : decode q.2.1 pc = .ok (.lmul, 1)) (hn : r64 (x * y)) (h : V d k q (pc + 1) ls (mL (x * y) :: st) M Q) : V d k q pc ls (mL y :: mL x :: st) M Q := by
  intro g A p l e R s m args below meth c H locs cells slots cT sT Qf rls hC hM hl hlk hsk hr hE
  have h := h g A p l e R s m args below meth c H locs cells slots cT sT Qf rls hC hM hl hlk (mVk_c hn (mVk_t (mVk_t hsk))) hr hE
  refine lv_lmul hC.1 hC.2.1 hd ?_
  rw [← Int64.ofInt_mul]; exact h

theorem V_lshl {x y : Int} (hd : decode q.2.1 pc = .ok (.lshl, 1))  (h : V d k q (pc + 1) ls (mL (Int64.ofInt x <<< ((Int32.ofInt y).toInt64 &&& 63)).toInt :: st) M Q) : V d k q pc ls (mI y :: mL x :: st) M Q := by
  intro g A p l e R s m args below meth c H locs cells slots cT sT Qf rls hC hM hl hlk hsk hr hE
  have h := h g A p l e R s m args below meth c H locs cells slots cT sT Qf rls hC hM hl hlk (mVk_c (l_rg _) (mVk_t (mVk_t hsk))) hr hE
  refine lv_lshl hC.1 hC.2.1 hd (Int64.ofInt_toInt _).symm ?_
  exact h

theorem V_lshr {x y : Int} (hd : decode q.2.1 pc = .ok (.lshr, 1))  (h : V d k q (pc + 1) ls (mL (Int64.ofInt x >>> ((Int32.ofInt y).toInt64 &&& 63)).toInt :: st) M Q) : V d k q pc ls (mI y :: mL x :: st) M Q := by
  intro g A p l e R s m args below meth c H locs cells slots cT sT Qf rls hC hM hl hlk hsk hr hE
  have h := h g A p l e R s m args below meth c H locs cells slots cT sT Qf rls hC hM hl hlk (mVk_c (l_rg _) (mVk_t (mVk_t hsk))) hr hE
  refine lv_lshr hC.1 hC.2.1 hd (Int64.ofInt_toInt _).symm ?_
  exact h

theorem V_i2l {x : Int} (hd : decode q.2.1 pc = .ok (.i2l, 1))  (h : V d k q (pc + 1) ls (mL x :: st) M Q) : V d k q pc ls (mI x :: st) M Q := by
  intro g A p l e R s m args below meth c H locs cells slots cT sT Qf rls hC hM hl hlk hsk hr hE
  have h := h g A p l e R s m args below meth c H locs cells slots cT sT Qf rls hC hM hl hlk (mVk_c (by have h1 : r32 x := mVk_h hsk; exact (show r64 x from ⟨by omega, by omega⟩)) (mVk_t hsk)) hr hE
  refine lv_i2l hC.1 hC.2.1 hd (i_2l (mVk_h hsk)) ?_
  exact h

theorem V_l2i {x : Int} (hd : decode q.2.1 pc = .ok (.l2i, 1))  (h : V d k q (pc + 1) ls (mI (Int32.ofInt x).toInt :: st) M Q) : V d k q pc ls (mL x :: st) M Q := by
  intro g A p l e R s m args below meth c H locs cells slots cT sT Qf rls hC hM hl hlk hsk hr hE
  have h := h g A p l e R s m args below meth c H locs cells slots cT sT Qf rls hC hM hl hlk (mVk_c (i_rg _) (mVk_t hsk)) hr hE
  refine lv_l2i hC.1 hC.2.1 hd (Int64.toInt32_ofInt) ?_
  rw [← Int32.ofInt_toInt (Int32.ofInt x)]; exact h

theorem V_i2b {x : Int} (hd : decode q.2.1 pc = .ok (.i2b, 1))  (h : V d k q (pc + 1) ls (mI (Int8.ofInt x).toInt :: st) M Q) : V d k q pc ls (mI x :: st) M Q := by
  intro g A p l e R s m args below meth c H locs cells slots cT sT Qf rls hC hM hl hlk hsk hr hE
  have h := h g A p l e R s m args below meth c H locs cells slots cT sT Qf rls hC hM hl hlk (mVk_c (by have h1 := (Int8.ofInt x).le_toInt; have h2 := (Int8.ofInt x).toInt_lt; exact (show r32 _ from ⟨by omega, by omega⟩)) (mVk_t hsk)) hr hE
  refine lv_i2b hC.1 hC.2.1 hd (by rw [Int32.toInt8_ofInt, ← i8_32]) ?_
  exact h

theorem V_lcmp {x y : Int} (hd : decode q.2.1 pc = .ok (.lcmp, 1))  (h : V d k q (pc + 1) ls (mI (if y < x then 1 else if x = y then 0 else -1) :: st) M Q) : V d k q pc ls (mL y :: mL x :: st) M Q := by
  intro g A p l e R s m args below meth c H locs cells slots cT sT Qf rls hC hM hl hlk hsk hr hE
  have h := h g A p l e R s m args below meth c H locs cells slots cT sT Qf rls hC hM hl hlk (mVk_c (mVk_cmp x y) (mVk_t (mVk_t hsk))) hr hE
  refine W.lcmp hC.1 hC.2.1 hd ?_
  have e : lg_cmp (Int64.ofInt x) (Int64.ofInt y) = Int32.ofInt (if y < x then 1 else if x = y then 0 else -1) := by
    have a1 := l_lt (mVk_h hsk) (mVk_h (mVk_t hsk))
    have a2 := l_eq (mVk_h (mVk_t hsk)) (mVk_h hsk)
    unfold lg_cmp
    by_cases c1 : y < x
    · rw [if_pos (a1.mpr c1), if_pos c1]; rfl
    · rw [if_neg (fun z => c1 (a1.mp z)), if_neg c1]
      by_cases c2 : x = y
      · rw [if_pos (a2.mpr c2), if_pos c2]; rfl
      · rw [if_neg (fun z => c2 (a2.mp z)), if_neg c2]; rfl
  rw [e]; exact h

theorem V_dup {v : mV} (hd : decode q.2.1 pc = .ok (.dup, 1)) (hv : ∀ x, v ≠ mL x) (h : V d k q (pc + 1) ls (v :: v :: st) M Q) : V d k q pc ls (v :: st) M Q := by
  intro g A p l e R s m args below meth c H locs cells slots cT sT Qf rls hC hM hl hlk hsk hr hE
  have h := h g A p l e R s m args below meth c H locs cells slots cT sT Qf rls hC hM hl hlk (mVk_c (mVk_h hsk) hsk) hr hE
  refine lv_dup hC.1 hC.2.1 hd (mRv_c1 hv) ?_
  exact h

theorem V_dup_x1 {v u : mV} (hd : decode q.2.1 pc = .ok (.dup_x1, 1)) (hv : ∀ x, v ≠ mL x) (hu : ∀ x, u ≠ mL x) (h : V d k q (pc + 1) ls (v :: u :: v :: st) M Q) : V d k q pc ls (v :: u :: st) M Q := by
  intro g A p l e R s m args below meth c H locs cells slots cT sT Qf rls hC hM hl hlk hsk hr hE
  have h := h g A p l e R s m args below meth c H locs cells slots cT sT Qf rls hC hM hl hlk (mVk_c (mVk_h hsk) (mVk_c (mVk_h (mVk_t hsk)) (mVk_c (mVk_h hsk) (mVk_t (mVk_t hsk))))) hr hE
  refine lv_dup_x1 hC.1 hC.2.1 hd (mRv_c1 hv) (mRv_c1 hu) ?_
  exact h

theorem V_dup2 {v u : mV} (hd : decode q.2.1 pc = .ok (.dup2, 1)) (hv : ∀ x, v ≠ mL x) (hu : ∀ x, u ≠ mL x) (h : V d k q (pc + 1) ls (v :: u :: v :: u :: st) M Q) : V d k q pc ls (v :: u :: st) M Q := by
  intro g A p l e R s m args below meth c H locs cells slots cT sT Qf rls hC hM hl hlk hsk hr hE
  have h := h g A p l e R s m args below meth c H locs cells slots cT sT Qf rls hC hM hl hlk (mVk_c (mVk_h hsk) (mVk_c (mVk_h (mVk_t hsk)) hsk)) hr hE
  refine lv_dup2_11 hC.1 hC.2.1 hd (mRv_c1 hv) (mRv_c1 hu) ?_
  exact h

theorem V_pop {v : mV} (hd : decode q.2.1 pc = .ok (.pop, 1)) (hv : ∀ x, v ≠ mL x) (h : V d k q (pc + 1) ls (st) M Q) : V d k q pc ls (v :: st) M Q := by
  intro g A p l e R s m args below meth c H locs cells slots cT sT Qf rls hC hM hl hlk hsk hr hE
  have h := h g A p l e R s m args below meth c H locs cells slots cT sT Qf rls hC hM hl hlk (mVk_t hsk) hr hE
  refine lv_pop hC.1 hC.2.1 hd (mRv_c1 hv) ?_
  exact h

theorem V_icmp_eq {x y : Int} {off : Int} {tgt : Nat} (hd : decode q.2.1 pc = .ok (.if_icmp .eq off, 3)) (ht : (pc : Int) + off = (tgt : Int)) (kt : x = y → V d k q tgt ls st M Q) (kf : ¬ (x = y) → V d k q (pc + 3) ls st M Q) : V d k q pc ls (mI y :: mI x :: st) M Q := by
  intro g A p l e R s m args below meth c H locs cells slots cT sT Qf rls hC hM hl hlk hsk hr hE
  have hq := (i_eq (mVk_h (mVk_t hsk)) (mVk_h hsk))
  refine lv_icmp_eq hC.1 hC.2.1 hd ht (fun z => kt (hq.mp z) g A p l e R s m args below meth c H locs cells slots cT sT Qf rls hC hM hl hlk (mVk_t (mVk_t hsk)) hr hE) (fun z => kf (fun z2 => z (hq.mpr z2)) g A p l e R s m args below meth c H locs cells slots cT sT Qf rls hC hM hl hlk (mVk_t (mVk_t hsk)) hr hE)

theorem V_if_eq {x : Int} {off : Int} {tgt : Nat} (hd : decode q.2.1 pc = .ok (.ifCond .eq off, 3)) (ht : (pc : Int) + off = (tgt : Int)) (kt : x = 0 → V d k q tgt ls st M Q) (kf : ¬ (x = 0) → V d k q (pc + 3) ls st M Q) : V d k q pc ls (mI x :: st) M Q := by
  intro g A p l e R s m args below meth c H locs cells slots cT sT Qf rls hC hM hl hlk hsk hr hE
  have hq := (i_eq (mVk_h hsk) r32_0)
  refine lv_if_eq hC.1 hC.2.1 hd ht (fun z => kt (hq.mp z) g A p l e R s m args below meth c H locs cells slots cT sT Qf rls hC hM hl hlk (mVk_t hsk) hr hE) (fun z => kf (fun z2 => z (hq.mpr z2)) g A p l e R s m args below meth c H locs cells slots cT sT Qf rls hC hM hl hlk (mVk_t hsk) hr hE)

theorem V_icmp_ne {x y : Int} {off : Int} {tgt : Nat} (hd : decode q.2.1 pc = .ok (.if_icmp .ne off, 3)) (ht : (pc : Int) + off = (tgt : Int)) (kt : ¬ x = y → V d k q tgt ls st M Q) (kf : x = y → V d k q (pc + 3) ls st M Q) : V d k q pc ls (mI y :: mI x :: st) M Q := by
  intro g A p l e R s m args below meth c H locs cells slots cT sT Qf rls hC hM hl hlk hsk hr hE
  have hq := (i_eq (mVk_h (mVk_t hsk)) (mVk_h hsk))
  refine lv_icmp_ne hC.1 hC.2.1 hd ht (fun z => kt (fun z2 => z (hq.mpr z2)) g A p l e R s m args below meth c H locs cells slots cT sT Qf rls hC hM hl hlk (mVk_t (mVk_t hsk)) hr hE) (fun z => kf (hq.mp z) g A p l e R s m args below meth c H locs cells slots cT sT Qf rls hC hM hl hlk (mVk_t (mVk_t hsk)) hr hE)

theorem V_if_ne {x : Int} {off : Int} {tgt : Nat} (hd : decode q.2.1 pc = .ok (.ifCond .ne off, 3)) (ht : (pc : Int) + off = (tgt : Int)) (kt : ¬ x = 0 → V d k q tgt ls st M Q) (kf : x = 0 → V d k q (pc + 3) ls st M Q) : V d k q pc ls (mI x :: st) M Q := by
  intro g A p l e R s m args below meth c H locs cells slots cT sT Qf rls hC hM hl hlk hsk hr hE
  have hq := (i_eq (mVk_h hsk) r32_0)
  refine lv_if_ne hC.1 hC.2.1 hd ht (fun z => kt (fun z2 => z (hq.mpr z2)) g A p l e R s m args below meth c H locs cells slots cT sT Qf rls hC hM hl hlk (mVk_t hsk) hr hE) (fun z => kf (hq.mp z) g A p l e R s m args below meth c H locs cells slots cT sT Qf rls hC hM hl hlk (mVk_t hsk) hr hE)

theorem V_icmp_lt {x y : Int} {off : Int} {tgt : Nat} (hd : decode q.2.1 pc = .ok (.if_icmp .lt off, 3)) (ht : (pc : Int) + off = (tgt : Int)) (kt : x < y → V d k q tgt ls st M Q) (kf : ¬ (x < y) → V d k q (pc + 3) ls st M Q) : V d k q pc ls (mI y :: mI x :: st) M Q := by
  intro g A p l e R s m args below meth c H locs cells slots cT sT Qf rls hC hM hl hlk hsk hr hE
  have hq := (i_lt (mVk_h (mVk_t hsk)) (mVk_h hsk))
  refine lv_icmp_lt hC.1 hC.2.1 hd ht (fun z => kt (hq.mp z) g A p l e R s m args below meth c H locs cells slots cT sT Qf rls hC hM hl hlk (mVk_t (mVk_t hsk)) hr hE) (fun z => kf (fun z2 => z (hq.mpr z2)) g A p l e R s m args below meth c H locs cells slots cT sT Qf rls hC hM hl hlk (mVk_t (mVk_t hsk)) hr hE)

theorem V_if_lt {x : Int} {off : Int} {tgt : Nat} (hd : decode q.2.1 pc = .ok (.ifCond .lt off, 3)) (ht : (pc : Int) + off = (tgt : Int)) (kt : x < 0 → V d k q tgt ls st M Q) (kf : ¬ (x < 0) → V d k q (pc + 3) ls st M Q) : V d k q pc ls (mI x :: st) M Q := by
  intro g A p l e R s m args below meth c H locs cells slots cT sT Qf rls hC hM hl hlk hsk hr hE
  have hq := (i_lt (mVk_h hsk) r32_0)
  refine lv_if_lt hC.1 hC.2.1 hd ht (fun z => kt (hq.mp z) g A p l e R s m args below meth c H locs cells slots cT sT Qf rls hC hM hl hlk (mVk_t hsk) hr hE) (fun z => kf (fun z2 => z (hq.mpr z2)) g A p l e R s m args below meth c H locs cells slots cT sT Qf rls hC hM hl hlk (mVk_t hsk) hr hE)

theorem V_icmp_ge {x y : Int} {off : Int} {tgt : Nat} (hd : decode q.2.1 pc = .ok (.if_icmp .ge off, 3)) (ht : (pc : Int) + off = (tgt : Int)) (kt : y ≤ x → V d k q tgt ls st M Q) (kf : ¬ (y ≤ x) → V d k q (pc + 3) ls st M Q) : V d k q pc ls (mI y :: mI x :: st) M Q := by
  intro g A p l e R s m args below meth c H locs cells slots cT sT Qf rls hC hM hl hlk hsk hr hE
  have hq := (i_le (mVk_h hsk) (mVk_h (mVk_t hsk)))
  refine lv_icmp_ge hC.1 hC.2.1 hd ht (fun z => kt (hq.mp z) g A p l e R s m args below meth c H locs cells slots cT sT Qf rls hC hM hl hlk (mVk_t (mVk_t hsk)) hr hE) (fun z => kf (fun z2 => z (hq.mpr z2)) g A p l e R s m args below meth c H locs cells slots cT sT Qf rls hC hM hl hlk (mVk_t (mVk_t hsk)) hr hE)

theorem V_if_ge {x : Int} {off : Int} {tgt : Nat} (hd : decode q.2.1 pc = .ok (.ifCond .ge off, 3)) (ht : (pc : Int) + off = (tgt : Int)) (kt : 0 ≤ x → V d k q tgt ls st M Q) (kf : ¬ (0 ≤ x) → V d k q (pc + 3) ls st M Q) : V d k q pc ls (mI x :: st) M Q := by
  intro g A p l e R s m args below meth c H locs cells slots cT sT Qf rls hC hM hl hlk hsk hr hE
  have hq := (i_le r32_0 (mVk_h hsk))
  refine lv_if_ge hC.1 hC.2.1 hd ht (fun z => kt (hq.mp z) g A p l e R s m args below meth c H locs cells slots cT sT Qf rls hC hM hl hlk (mVk_t hsk) hr hE) (fun z => kf (fun z2 => z (hq.mpr z2)) g A p l e R s m args below meth c H locs cells slots cT sT Qf rls hC hM hl hlk (mVk_t hsk) hr hE)

theorem V_icmp_gt {x y : Int} {off : Int} {tgt : Nat} (hd : decode q.2.1 pc = .ok (.if_icmp .gt off, 3)) (ht : (pc : Int) + off = (tgt : Int)) (kt : y < x → V d k q tgt ls st M Q) (kf : ¬ (y < x) → V d k q (pc + 3) ls st M Q) : V d k q pc ls (mI y :: mI x :: st) M Q := by
  intro g A p l e R s m args below meth c H locs cells slots cT sT Qf rls hC hM hl hlk hsk hr hE
  have hq := (i_lt (mVk_h hsk) (mVk_h (mVk_t hsk)))
  refine lv_icmp_gt hC.1 hC.2.1 hd ht (fun z => kt (hq.mp z) g A p l e R s m args below meth c H locs cells slots cT sT Qf rls hC hM hl hlk (mVk_t (mVk_t hsk)) hr hE) (fun z => kf (fun z2 => z (hq.mpr z2)) g A p l e R s m args below meth c H locs cells slots cT sT Qf rls hC hM hl hlk (mVk_t (mVk_t hsk)) hr hE)

theorem V_if_gt {x : Int} {off : Int} {tgt : Nat} (hd : decode q.2.1 pc = .ok (.ifCond .gt off, 3)) (ht : (pc : Int) + off = (tgt : Int)) (kt : 0 < x → V d k q tgt ls st M Q) (kf : ¬ (0 < x) → V d k q (pc + 3) ls st M Q) : V d k q pc ls (mI x :: st) M Q := by
  intro g A p l e R s m args below meth c H locs cells slots cT sT Qf rls hC hM hl hlk hsk hr hE
  have hq := (i_lt r32_0 (mVk_h hsk))
  refine lv_if_gt hC.1 hC.2.1 hd ht (fun z => kt (hq.mp z) g A p l e R s m args below meth c H locs cells slots cT sT Qf rls hC hM hl hlk (mVk_t hsk) hr hE) (fun z => kf (fun z2 => z (hq.mpr z2)) g A p l e R s m args below meth c H locs cells slots cT sT Qf rls hC hM hl hlk (mVk_t hsk) hr hE)

theorem V_icmp_le {x y : Int} {off : Int} {tgt : Nat} (hd : decode q.2.1 pc = .ok (.if_icmp .le off, 3)) (ht : (pc : Int) + off = (tgt : Int)) (kt : x ≤ y → V d k q tgt ls st M Q) (kf : ¬ (x ≤ y) → V d k q (pc + 3) ls st M Q) : V d k q pc ls (mI y :: mI x :: st) M Q := by
  intro g A p l e R s m args below meth c H locs cells slots cT sT Qf rls hC hM hl hlk hsk hr hE
  have hq := (i_le (mVk_h (mVk_t hsk)) (mVk_h hsk))
  refine lv_icmp_le hC.1 hC.2.1 hd ht (fun z => kt (hq.mp z) g A p l e R s m args below meth c H locs cells slots cT sT Qf rls hC hM hl hlk (mVk_t (mVk_t hsk)) hr hE) (fun z => kf (fun z2 => z (hq.mpr z2)) g A p l e R s m args below meth c H locs cells slots cT sT Qf rls hC hM hl hlk (mVk_t (mVk_t hsk)) hr hE)

theorem V_if_le {x : Int} {off : Int} {tgt : Nat} (hd : decode q.2.1 pc = .ok (.ifCond .le off, 3)) (ht : (pc : Int) + off = (tgt : Int)) (kt : x ≤ 0 → V d k q tgt ls st M Q) (kf : ¬ (x ≤ 0) → V d k q (pc + 3) ls st M Q) : V d k q pc ls (mI x :: st) M Q := by
  intro g A p l e R s m args below meth c H locs cells slots cT sT Qf rls hC hM hl hlk hsk hr hE
  have hq := (i_le (mVk_h hsk) r32_0)
  refine lv_if_le hC.1 hC.2.1 hd ht (fun z => kt (hq.mp z) g A p l e R s m args below meth c H locs cells slots cT sT Qf rls hC hM hl hlk (mVk_t hsk) hr hE) (fun z => kf (fun z2 => z (hq.mpr z2)) g A p l e R s m args below meth c H locs cells slots cT sT Qf rls hC hM hl hlk (mVk_t hsk) hr hE)

theorem V_goto {off : Int} {tgt : Nat} (hd : decode q.2.1 pc = .ok (.goto off, 3)) (ht : (pc : Int) + off = (tgt : Int)) (h : V d k q tgt ls st M Q) : V d k q pc ls st M Q := by
  intro g A p l e R s m args below meth c H locs cells slots cT sT Qf rls hC hM hl hlk hsk hr hE
  exact lv_goto hC.1 hC.2.1 hd ht (h g A p l e R s m args below meth c H locs cells slots cT sT Qf rls hC hM hl hlk hsk hr hE)

theorem V_table {x dflt lo hi : Int} {offs : Array Int} {len : Nat} (hd : decode q.2.1 pc = .ok (.tableswitch dflt lo hi offs, len)) (tgt : Int → Nat) (ht : (pc : Int) + dflt = (tgt (hi + 1) : Int)) (hi' : ∀ j : Nat, lo + j ≤ hi → ∃ off, offs[j]? = some off ∧ (pc : Int) + off = (tgt (lo + j) : Int)) (ki : lo ≤ x → x ≤ hi → V d k q (tgt x) ls st M Q) (ko : x < lo ∨ hi < x → V d k q (tgt (hi + 1)) ls st M Q) : V d k q pc ls (mI x :: st) M Q := by
  intro g A p l e R s m args below meth c H locs cells slots cT sT Qf rls hC hM hl hlk hsk hr hE
  have ex := i_ti (mVk_h hsk)
  by_cases hcs : x < lo ∨ hi < x
  · exact lv_tableOut hC.1 hC.2.1 hd (by rw [ex]; exact hcs) ht (ko hcs g A p l e R s m args below meth c H locs cells slots cT sT Qf rls hC hM hl hlk (mVk_t hsk) hr hE)
  · have c1 : lo ≤ x := by omega
    have c2 : x ≤ hi := by omega
    obtain ⟨off, ho, h2⟩ := hi' (x - lo).toNat (by omega)
    refine lv_tableIn (off := off) (tgt := tgt x) hC.1 hC.2.1 hd (by rw [ex]; omega) (by rw [ex]; omega) (by rw [ex]; exact ho) ?_ (ki c1 c2 g A p l e R s m args below meth c H locs cells slots cT sT Qf rls hC hM hl hlk (mVk_t hsk) hr hE)
    rw [h2]
    rw [show lo + ((x - lo).toNat : Int) = x by omega]

end Rules
