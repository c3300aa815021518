/-! the cells of the world by their names -/
theorem mEnt_i {b0 : Nat} {κ : Nat → ClassId} {M : mM} {n l : Nat} (h : mShL[n]? = some (0, l)) : mEnt b0 κ M n = .inl (κ 0, l, .inl (fun j => Int32.ofInt (M n j))) := by unfold mEnt; rw [h]; rfl
theorem mEnt_l {b0 : Nat} {κ : Nat → ClassId} {M : mM} {n l : Nat} (h : mShL[n]? = some (1, l)) : mEnt b0 κ M n = .inl (κ 1, l, .inr (.inl (fun j => Int64.ofInt (M n j)))) := by unfold mEnt; rw [h]; rfl
theorem mEnt_b {b0 : Nat} {κ : Nat → ClassId} {M : mM} {n l : Nat} (h : mShL[n]? = some (2, l)) : mEnt b0 κ M n = .inl (κ 2, l, .inl (fun j => Int32.ofInt (M n j))) := by unfold mEnt; rw [h]; rfl
theorem mEnt_z {b0 : Nat} {κ : Nat → ClassId} {M : mM} {n l : Nat} (h : mShL[n]? = some (3, l)) : mEnt b0 κ M n = .inl (κ 3, l, .inl (fun j => Int32.ofInt (M n j))) := by unfold mEnt; rw [h]; rfl
theorem mEnt_q {b0 : Nat} {κ : Nat → ClassId} {M : mM} {n l : Nat} (h : mShL[n]? = some (4, l)) : mEnt b0 κ M n = .inl (κ 4, l, .inr (.inr (.inr (.inr (fun j => some (b0 + n + 1 + j)))))) := by unfold mEnt; rw [h]; rfl
theorem mEnt_o {b0 : Nat} {κ : Nat → ClassId} {M : mM} {n ci l : Nat} (h : mShL[n]? = some (ci + 10, l)) : mEnt b0 κ M n = .inr (ci, mFds b0 M n (mFt ci)) := by
  unfold mEnt; rw [h]
  simp
theorem mFd_ne {b0 : Nat} {M M' : mM} {n : Nat} (h : ∀ j : Int, M' n j = M n j) (ft : Nat × Nat) (j : Nat) : mFd b0 M' n ft j = mFd b0 M n ft j := by unfold mFd; rw [h]
theorem mEnt_ne {b0 : Nat} {κ : Nat → ClassId} {M M' : mM} {n : Nat} (h : ∀ j : Int, M' n j = M n j) : mEnt b0 κ M' n = mEnt b0 κ M n := by
  unfold mEnt mFds
  simp only [h, mFd_ne h]
theorem mUp_ne {M : mM} {n i v : Int} {k : Nat} {n' : Nat} (hk : k ≠ n') (hn : n = (n' : Int)) (j : Int) : mUp M n i v k j = M k j := by
  unfold mUp
  rw [if_neg]
  omega
theorem mUp_fun32 {M : mM} {n i v : Int} (h0 : 0 ≤ i) : (fun j : Nat => Int32.ofInt (mUp M n i v n j)) = upd (fun j : Nat => Int32.ofInt (M n j)) i.toNat (Int32.ofInt v) := by
  funext j
  unfold mUp
  by_cases h : j = i.toNat
  · subst h
    rw [pk_us, if_pos ⟨rfl, by omega⟩]
  · rw [pk_un h, if_neg (by omega)]
theorem mUp_fun64 {M : mM} {n i v : Int} (h0 : 0 ≤ i) : (fun j : Nat => Int64.ofInt (mUp M n i v n j)) = vp_updL (fun j : Nat => Int64.ofInt (M n j)) i.toNat (Int64.ofInt v) := by
  funext j
  unfold mUp
  by_cases h : j = i.toNat
  · subst h
    rw [pk_uLs, if_pos ⟨rfl, by omega⟩]
  · rw [pk_uLn h, if_neg (by omega)]
theorem mFds_len {b0 : Nat} {M : mM} {n : Nat} {fts : List (Nat × Nat)} : (mFds b0 M n fts).length = fts.length := by simp [mFds]
theorem mFds_get {b0 : Nat} {M : mM} {n j : Nat} {fts : List (Nat × Nat)} {ft : Nat × Nat} (h : fts[j]? = some ft) : (mFds b0 M n fts)[j]? = some (mFd b0 M n ft j) := by
  have hj : j < fts.length := (List.getElem?_eq_some_iff.mp h).1
  unfold mFds
  rw [List.getElem?_map, List.getElem?_range hj]
  simp [List.getD_eq_getElem?_getD, h]
theorem mFds_up {b0 : Nat} {M : mM} {n j : Nat} {fts : List (Nat × Nat)} {ft : Nat × Nat} {v : Int} (h : fts[j]? = some ft) (h9 : ft.1 ≠ 9) : mFds b0 (mUp M n j v) n fts = (mFds b0 M n fts).set j (.int (Int32.ofInt v)) := by
  have hj : j < fts.length := (List.getElem?_eq_some_iff.mp h).1
  apply List.ext_getElem?
  intro i
  by_cases hi : i = j
  · subst hi
    rw [mFds_get h, List.getElem?_set_self (by rw [mFds_len]; exact hj)]
    simp [mFd, h9, mUp]
  · rw [List.getElem?_set_ne (fun z => hi z.symm)]
    by_cases hl : i < fts.length
    · rw [mFds_get (List.getElem?_eq_getElem hl), mFds_get (List.getElem?_eq_getElem hl)]
      unfold mFd mUp
      rw [if_neg (show ¬ ((n : Int) = n ∧ (i : Int) = j) by omega)]
    · rw [List.getElem?_eq_none (by rw [mFds_len]; omega), List.getElem?_eq_none (by rw [mFds_len]; omega)]
theorem mOK_up {M : mM} {n j k : Nat} {v : Int} (h : mOK M) (hk : mEl n j = some k) (hv : mRg k v) : mOK (mUp M n j v) := by
  intro n' j' k' hk'
  unfold mUp
  by_cases e : (n' : Int) = n ∧ (j' : Int) = j
  · rw [if_pos e]
    obtain ⟨e1, e2⟩ := e
    have e1 : n' = n := by omega
    have e2 : j' = j := by omega
    subst e1; subst e2
    rw [hk] at hk'
    cases hk'
    exact hv
  · rw [if_neg e]
    exact h n' j' k' hk'
theorem mScr_up {M : mM} {n : Nat} {j v : Int} : ∀ i : Int, mUp M n j v (-1) i = M (-1) i := fun i => by
  unfold mUp
  rw [if_neg]
  omega
/-- a write of a place of a name: what the relation is then -/
theorem mRel_up {g : mG} {A : Nat → Prop} {H0 H H1 : Heap} {locs locs1 : List Loc} {M : mM} {n j k : Nat} {v : Int} {e : va_E} (hM : mRel g A H0 M H locs) (hk : mEl n j = some k) (hv : mRg k v) (he : mEnt g.1 g.2.2.2.1 (mUp M n j v) n = e)
    (hP : va_P (g.2.1, g.2.2.1) vwCl ((mWd g.1 g.2.2.2.1 M).set n (g.1 + n, e)) H1) (hD : va_D A ((mWd g.1 g.2.2.2.1 M).set n (g.1 + n, e))) (hS : va_S A H0 H1 locs1) : mRel g A H0 (mUp M n j v) H1 locs1 := by
  have hw := mWd_set (b0 := g.1) (κ := g.2.2.2.1) (M := M) (M' := mUp M n j v) he (fun k hk => mEnt_ne (fun j' => mUp_ne hk rfl j'))
  rw [hw] at hP hD
  refine ⟨hP, hD, hS, mOK_up hM.2.2.2.1 hk hv, ?_, fun i hi => ?_⟩
  · rw [mScr_up]; exact hM.2.2.2.2.1
  · rw [mScr_up]; exact hM.2.2.2.2.2 i hi
theorem mEl_arr {n j k l : Nat} (h : mShL[n]? = some (k, l)) (hk : k < 4) (hj : j < l) : mEl n j = some k := by
  unfold mEl
  rw [h]
  simp [hk, hj]
theorem mEl_fld {n j ci l : Nat} {ft : Nat × Nat} (h : mShL[n]? = some (ci + 10, l)) (hj : (mFt ci)[j]? = some ft) (h9 : ft.1 ≠ 9) : mEl n j = some ft.1 := by
  unfold mEl
  rw [h]
  show (if ci + 10 < 4 then (if j < l then some (ci + 10) else none) else if ci + 10 < 10 then none else match (mFt (ci + 10 - 10))[j]? with | none => none | some ft => if ft.1 = 9 then none else some ft.1) = _
  rw [if_neg (by omega), if_neg (by omega), Nat.add_sub_cancel, hj]
  exact if_neg h9
/-- field j of class number ci, as class own's entry idx has it -/
def mFL (own : String) (idx ci j : Nat) : Prop := ∃ (C : String) (T : u_T) (N : Nat) (ty : Nat → FieldType), vwCl[ci]? = some (C, T, N) ∧ j < N ∧ N = (mFt ci).length ∧ (∀ w ∈ u_ws C T N, w ∈ mTbl) ∧ Cond.fieldLink own idx (T j).1 (T j).2.1 (T j).2.2.1 ∈ mTbl ∧
  (∀ k, k < N → parseFieldDescriptor (T k).2.2.1 = some (ty k)) ∧ (∀ a, a < N → ∀ b, b < N → a ≠ b → (T a).2.1 ≠ (T b).2.1)
/-- .. of a type, that may be written -/
def mFW (ci j : Nat) (t : FieldType) : Prop := ∀ (C : String) (T : u_T) (N : Nat), vwCl[ci]? = some (C, T, N) → (T j).2.2.2 = false ∧ parseFieldDescriptor (T j).2.2.1 = some t
section HRules
variable {d k : Nat} {q : mMth} {pc : Nat} {ls st : List mV} {M : mM} {Q : mRes → mM → Prop}
theorem V_getI {idx ci j l : Nat} {n : Int} (hd : decode q.2.1 pc = .ok (.getfield idx, 3)) (hf : mFL q.1.cls idx ci j) {t o : Nat} (ht : (mFt ci)[j]? = some (t, o)) (h03 : t = 0 ∨ t = 3) (h : V d k q (pc + 3) ls (mI (M n (j : Int)) :: st) M Q) : V d k q pc ls (mR (ci + 10) l n :: st) M Q := by
  intro g A p l_1 e R s m args below meth c H locs cells slots cT sT Qf rls hC hM hl hlk hsk hr hE
  obtain ⟨h0, hsh⟩ : 0 ≤ n ∧ mShL[n.toNat]? = some (ci + 10, l) := mVk_h hsk
  obtain ⟨N, rfl⟩ : ∃ N : Nat, n = N := ⟨n.toNat, by omega⟩
  rw [Int.toNat_natCast] at hsh
  obtain ⟨C, T, NN, ty, hcl, hj, -, hws, hlink, -⟩ := hf
  have hge := mWd_get (b0 := g.1) (κ := g.2.2.2.1) (M := M) hsh
  rw [mEnt_o hsh] at hge
  have h9 : t ≠ 9 := by omega
  have hrg : r32 (M N (j : Int)) := by
    have h1 := hM.2.2.2.1 N j t (mEl_fld hsh ht h9)
    rcases h03 with rfl | rfl
    · exact h1
    · exact ⟨by have := h1.1; omega, by have := h1.2; omega⟩
  have h := h g A p l_1 e R s m args below meth c H locs cells slots cT sT Qf rls hC hM hl hlk (mVk_c hrg (mVk_t hsk)) hr hE
  refine va_get (v := .int (Int32.ofInt (M N (j : Int)))) hC.1 hC.2.1 hC.2.2.2.2.1 hws hC.2.2.2.1 hC.2.2.2.2.2.2.2.2.1 hM.1 N hge hcl j hj (hC.2.2.2.2.1 _ hlink) (fun _ h => h) ?_ hd h
  rw [mFds_get ht]
  simp [mFd, h9]
theorem V_getR {idx ci j l : Nat} {n : Int} (hd : decode q.2.1 pc = .ok (.getfield idx, 3)) (hf : mFL q.1.cls idx ci j) {o k' l' : Nat} (ht : (mFt ci)[j]? = some (9, o)) (n' : Int) (hn' : n' = n + o) (hsh' : mShL[n'.toNat]? = some (k', l')) (h : V d k q (pc + 3) ls (mR k' l' n' :: st) M Q) : V d k q pc ls (mR (ci + 10) l n :: st) M Q := by
  intro g A p l_1 e R s m args below meth c H locs cells slots cT sT Qf rls hC hM hl hlk hsk hr hE
  obtain ⟨h0, hsh⟩ : 0 ≤ n ∧ mShL[n.toNat]? = some (ci + 10, l) := mVk_h hsk
  obtain ⟨N, rfl⟩ : ∃ N : Nat, n = N := ⟨n.toNat, by omega⟩
  rw [Int.toNat_natCast] at hsh
  obtain ⟨C, T, NN, ty, hcl, hj, -, hws, hlink, -⟩ := hf
  have hge := mWd_get (b0 := g.1) (κ := g.2.2.2.1) (M := M) hsh
  rw [mEnt_o hsh] at hge
  have h := h g A p l_1 e R s m args below meth c H locs cells slots cT sT Qf rls hC hM hl hlk (mVk_c ⟨by omega, hsh'⟩ (mVk_t hsk)) hr hE
  refine va_get (v := .ref (g.1 + n'.toNat)) hC.1 hC.2.1 hC.2.2.2.2.1 hws hC.2.2.2.1 hC.2.2.2.2.2.2.2.2.1 hM.1 N hge hcl j hj (hC.2.2.2.2.1 _ hlink) (fun _ h => h) ?_ hd h
  rw [mFds_get ht]
  simp only [mFd, if_true]
  rw [show g.1 + N + o = g.1 + n'.toNat by omega]
theorem V_putI {idx ci j l : Nat} {n x : Int} (hd : decode q.2.1 pc = .ok (.putfield idx, 3)) (hf : mFL q.1.cls idx ci j) {o : Nat} (ht : (mFt ci)[j]? = some (0, o)) (hw : mFW ci j .int) (h : V d k q (pc + 3) ls st (mUp M n (j : Int) x) Q) : V d k q pc ls (mI x :: mR (ci + 10) l n :: st) M Q := by
  intro g A p l_1 e R s m args below meth c H locs cells slots cT sT Qf rls hC hM hl hlk hsk hr hE
  obtain ⟨h0, hsh⟩ : 0 ≤ n ∧ mShL[n.toNat]? = some (ci + 10, l) := mVk_h (mVk_t hsk)
  obtain ⟨N, rfl⟩ : ∃ N : Nat, n = N := ⟨n.toNat, by omega⟩
  rw [Int.toNat_natCast] at hsh
  obtain ⟨C, T, NN, ty, hcl, hj, hN, hws, hlink, hty, hnm⟩ := hf
  have hge := mWd_get (b0 := g.1) (κ := g.2.2.2.1) (M := M) hsh
  rw [mEnt_o hsh] at hge
  obtain ⟨w1, w2⟩ := hw C T NN hcl
  refine va_put hC.1 hC.2.1 hC.2.2.2.2.1 hws ty hty hnm hC.2.2.2.1 hC.2.2.2.2.2.2.2.2.1 hM.1 hM.2.1 hM.2.2.1 N hge hcl j hj (hC.2.2.2.2.1 _ hlink) (fun _ h => h) w1 w2 (vp_nar_int _) rfl (by rw [mFds_len, ← hN]; exact hj) hd (fun H1 locs1 hP1 hD1 hS1 => ?_)
  have hM1 : mRel g A s.heap (mUp M N j x) H1 locs1 := mRel_up hM (mEl_fld hsh ht (by simp)) (mVk_h hsk) (by rw [mEnt_o hsh, mFds_up ht (by simp)]; rfl) hP1 hD1 hS1
  exact h g A p l_1 e R s m args below meth c H1 locs1 cells slots cT sT Qf rls hC hM1 hl hlk (mVk_t (mVk_t hsk)) hr hE
theorem V_putZ {idx ci j l : Nat} {n x : Int} (hd : decode q.2.1 pc = .ok (.putfield idx, 3)) (hf : mFL q.1.cls idx ci j) {o : Nat} (ht : (mFt ci)[j]? = some (3, o)) (hw : mFW ci j .boolean) (hx : 0 ≤ x ∧ x ≤ 1) (h : V d k q (pc + 3) ls st (mUp M n (j : Int) x) Q) : V d k q pc ls (mI x :: mR (ci + 10) l n :: st) M Q := by
  intro g A p l_1 e R s m args below meth c H locs cells slots cT sT Qf rls hC hM hl hlk hsk hr hE
  obtain ⟨h0, hsh⟩ : 0 ≤ n ∧ mShL[n.toNat]? = some (ci + 10, l) := mVk_h (mVk_t hsk)
  obtain ⟨N, rfl⟩ : ∃ N : Nat, n = N := ⟨n.toNat, by omega⟩
  rw [Int.toNat_natCast] at hsh
  obtain ⟨C, T, NN, ty, hcl, hj, hN, hws, hlink, hty, hnm⟩ := hf
  have hge := mWd_get (b0 := g.1) (κ := g.2.2.2.1) (M := M) hsh
  rw [mEnt_o hsh] at hge
  obtain ⟨w1, w2⟩ := hw C T NN hcl
  have hx2 : x = 0 ∨ x = 1 := by omega
  refine va_put hC.1 hC.2.1 hC.2.2.2.2.1 hws ty hty hnm hC.2.2.2.1 hC.2.2.2.2.2.2.2.2.1 hM.1 hM.2.1 hM.2.2.1 N hge hcl j hj (hC.2.2.2.2.1 _ hlink) (fun _ h => h) w1 w2 (by rcases hx2 with rfl | rfl <;> rfl) (by rcases hx2 with rfl | rfl <;> rfl) (by rw [mFds_len, ← hN]; exact hj) hd (fun H1 locs1 hP1 hD1 hS1 => ?_)
  have hM1 : mRel g A s.heap (mUp M N j x) H1 locs1 := mRel_up hM (mEl_fld hsh ht (by simp)) hx (by rw [mEnt_o hsh, mFds_up ht (by simp)]; rfl) hP1 hD1 hS1
  exact h g A p l_1 e R s m args below meth c H1 locs1 cells slots cT sT Qf rls hC hM1 hl hlk (mVk_t (mVk_t hsk)) hr hE
theorem mNarB {x : Int} (hx : -128 ≤ x ∧ x ≤ 127) : vp_nar .byte (Int32.ofInt x) = Int32.ofInt x := by
  rw [vp_nar_byte, Int32.toInt8_ofInt, ← i8_32, Int8.toInt_ofInt_of_le (by omega) (by omega)]
theorem mNarZ {x : Int} (hx : 0 ≤ x ∧ x ≤ 1) : vp_nar .boolean (Int32.ofInt x) = Int32.ofInt x := by
  rcases (show x = 0 ∨ x = 1 by omega) with rfl | rfl <;> rfl
theorem V_iaload {l : Nat} {n i : Int} (hd : decode q.2.1 pc = .ok (.iaload, 1)) (hi : 0 ≤ i ∧ i < l) (h : V d k q (pc + 1) ls (mI (M n i) :: st) M Q) : V d k q pc ls (mI i :: mR 0 l n :: st) M Q := by
  intro g A p l_1 e R s m args below meth c H locs cells slots cT sT Qf rls hC hM hl hlk hsk hr hE
  obtain ⟨h0, hsh⟩ : 0 ≤ n ∧ mShL[n.toNat]? = some (0, l) := mVk_h (mVk_t hsk)
  obtain ⟨N, rfl⟩ : ∃ N : Nat, n = N := ⟨n.toNat, by omega⟩
  rw [Int.toNat_natCast] at hsh
  have hge := mWd_get (b0 := g.1) (κ := g.2.2.2.1) (M := M) hsh
  rw [mEnt_i hsh] at hge
  obtain ⟨I, rfl⟩ : ∃ I : Nat, i = I := ⟨i.toNat, by omega⟩
  have hrg : r32 (M N (I : Int)) := by
    have h1 : mRg 0 (M N (I : Int)) := hM.2.2.2.1 N I 0 (mEl_arr hsh (by decide) (by omega))
    exact h1
  have h := h g A p l_1 e R s m args below meth c H locs cells slots cT sT Qf rls hC hM hl hlk (mVk_c hrg (mVk_t (mVk_t hsk))) hr hE
  refine va_iald hC.1 hC.2.1 hC.2.2.2.2.2.2.2.2.1 hM.1 N 0 hge rfl (i_in (mVk_h hsk) hi) hd ?_
  rw [i_nat (mVk_h hsk) hi.1, Int.toNat_natCast]
  exact h

theorem V_laload {l : Nat} {n i : Int} (hd : decode q.2.1 pc = .ok (.laload, 1)) (hi : 0 ≤ i ∧ i < l) (h : V d k q (pc + 1) ls (mL (M n i) :: st) M Q) : V d k q pc ls (mI i :: mR 1 l n :: st) M Q := by
  intro g A p l_1 e R s m args below meth c H locs cells slots cT sT Qf rls hC hM hl hlk hsk hr hE
  obtain ⟨h0, hsh⟩ : 0 ≤ n ∧ mShL[n.toNat]? = some (1, l) := mVk_h (mVk_t hsk)
  obtain ⟨N, rfl⟩ : ∃ N : Nat, n = N := ⟨n.toNat, by omega⟩
  rw [Int.toNat_natCast] at hsh
  have hge := mWd_get (b0 := g.1) (κ := g.2.2.2.1) (M := M) hsh
  rw [mEnt_l hsh] at hge
  obtain ⟨I, rfl⟩ : ∃ I : Nat, i = I := ⟨i.toNat, by omega⟩
  have hrg : r64 (M N (I : Int)) := by
    have h1 : mRg 1 (M N (I : Int)) := hM.2.2.2.1 N I 1 (mEl_arr hsh (by decide) (by omega))
    exact h1
  have h := h g A p l_1 e R s m args below meth c H locs cells slots cT sT Qf rls hC hM hl hlk (mVk_c hrg (mVk_t (mVk_t hsk))) hr hE
  refine va_lald hC.1 hC.2.1 hC.2.2.2.2.2.2.2.2.1 hM.1 N 1 hge rfl (i_in (mVk_h hsk) hi) hd ?_
  rw [i_nat (mVk_h hsk) hi.1, Int.toNat_natCast]
  exact h

theorem V_baload {l : Nat} {n i : Int} (hd : decode q.2.1 pc = .ok (.baload, 1)) (hi : 0 ≤ i ∧ i < l) (h : V d k q (pc + 1) ls (mI (M n i) :: st) M Q) : V d k q pc ls (mI i :: mR 2 l n :: st) M Q := by
  intro g A p l_1 e R s m args below meth c H locs cells slots cT sT Qf rls hC hM hl hlk hsk hr hE
  obtain ⟨h0, hsh⟩ : 0 ≤ n ∧ mShL[n.toNat]? = some (2, l) := mVk_h (mVk_t hsk)
  obtain ⟨N, rfl⟩ : ∃ N : Nat, n = N := ⟨n.toNat, by omega⟩
  rw [Int.toNat_natCast] at hsh
  have hge := mWd_get (b0 := g.1) (κ := g.2.2.2.1) (M := M) hsh
  rw [mEnt_b hsh] at hge
  obtain ⟨I, rfl⟩ : ∃ I : Nat, i = I := ⟨i.toNat, by omega⟩
  have hrg : r32 (M N (I : Int)) := by
    have h1 : mRg 2 (M N (I : Int)) := hM.2.2.2.1 N I 2 (mEl_arr hsh (by decide) (by omega))
    exact ⟨by have := h1.1; omega, by have := h1.2; omega⟩
  have h := h g A p l_1 e R s m args below meth c H locs cells slots cT sT Qf rls hC hM hl hlk (mVk_c hrg (mVk_t (mVk_t hsk))) hr hE
  refine va_bald hC.1 hC.2.1 hC.2.2.2.2.2.2.2.2.1 hM.1 N 2 hge rfl (i_in (mVk_h hsk) hi) hd ?_
  rw [i_nat (mVk_h hsk) hi.1, Int.toNat_natCast]
  exact h

theorem V_zaload {l : Nat} {n i : Int} (hd : decode q.2.1 pc = .ok (.baload, 1)) (hi : 0 ≤ i ∧ i < l) (h : V d k q (pc + 1) ls (mI (M n i) :: st) M Q) : V d k q pc ls (mI i :: mR 3 l n :: st) M Q := by
  intro g A p l_1 e R s m args below meth c H locs cells slots cT sT Qf rls hC hM hl hlk hsk hr hE
  obtain ⟨h0, hsh⟩ : 0 ≤ n ∧ mShL[n.toNat]? = some (3, l) := mVk_h (mVk_t hsk)
  obtain ⟨N, rfl⟩ : ∃ N : Nat, n = N := ⟨n.toNat, by omega⟩
  rw [Int.toNat_natCast] at hsh
  have hge := mWd_get (b0 := g.1) (κ := g.2.2.2.1) (M := M) hsh
  rw [mEnt_z hsh] at hge
  obtain ⟨I, rfl⟩ : ∃ I : Nat, i = I := ⟨i.toNat, by omega⟩
  have hrg : r32 (M N (I : Int)) := by
    have h1 : mRg 3 (M N (I : Int)) := hM.2.2.2.1 N I 3 (mEl_arr hsh (by decide) (by omega))
    exact ⟨by have := h1.1; omega, by have := h1.2; omega⟩
  have h := h g A p l_1 e R s m args below meth c H locs cells slots cT sT Qf rls hC hM hl hlk (mVk_c hrg (mVk_t (mVk_t hsk))) hr hE
  refine va_zald hC.1 hC.2.1 hC.2.2.2.2.2.2.2.2.1 hM.1 N 3 hge rfl (i_in (mVk_h hsk) hi) hd ?_
  rw [i_nat (mVk_h hsk) hi.1, Int.toNat_natCast]
  exact h

theorem V_iastore {l : Nat} {n i x : Int} (hd : decode q.2.1 pc = .ok (.iastore, 1)) (hi : 0 ≤ i ∧ i < l)  (h : V d k q (pc + 1) ls st (mUp M n i x) Q) : V d k q pc ls (mI x :: mI i :: mR 0 l n :: st) M Q := by
  intro g A p l_1 e R s m args below meth c H locs cells slots cT sT Qf rls hC hM hl hlk hsk hr hE
  obtain ⟨h0, hsh⟩ : 0 ≤ n ∧ mShL[n.toNat]? = some (0, l) := mVk_h (mVk_t (mVk_t hsk))
  obtain ⟨N, rfl⟩ : ∃ N : Nat, n = N := ⟨n.toNat, by omega⟩
  rw [Int.toNat_natCast] at hsh
  have hge := mWd_get (b0 := g.1) (κ := g.2.2.2.1) (M := M) hsh
  rw [mEnt_i hsh] at hge
  obtain ⟨I, rfl⟩ : ∃ I : Nat, i = I := ⟨i.toNat, by omega⟩
  refine va_iast hC.1 hC.2.1 hC.2.2.2.2.2.2.2.2.1 hM.1 hM.2.1 hM.2.2.1 N 0 hge rfl (i_in (mVk_h (mVk_t hsk)) hi) hd (fun H1 locs1 hP1 hD1 hS1 => ?_)
  rw [i_nat (mVk_h (mVk_t hsk)) hi.1, Int.toNat_natCast] at hP1 hD1
  have hM1 : mRel g A s.heap (mUp M N I x) H1 locs1 := mRel_up hM (mEl_arr hsh (by decide) (by omega)) (mVk_h hsk) (by rw [mEnt_i hsh, mUp_fun32 (by omega), Int.toNat_natCast]) hP1 hD1 hS1
  exact h g A p l_1 e R s m args below meth c H1 locs1 cells slots cT sT Qf rls hC hM1 hl hlk (mVk_t (mVk_t (mVk_t hsk))) hr hE

theorem V_lastore {l : Nat} {n i x : Int} (hd : decode q.2.1 pc = .ok (.lastore, 1)) (hi : 0 ≤ i ∧ i < l)  (h : V d k q (pc + 1) ls st (mUp M n i x) Q) : V d k q pc ls (mL x :: mI i :: mR 1 l n :: st) M Q := by
  intro g A p l_1 e R s m args below meth c H locs cells slots cT sT Qf rls hC hM hl hlk hsk hr hE
  obtain ⟨h0, hsh⟩ : 0 ≤ n ∧ mShL[n.toNat]? = some (1, l) := mVk_h (mVk_t (mVk_t hsk))
  obtain ⟨N, rfl⟩ : ∃ N : Nat, n = N := ⟨n.toNat, by omega⟩
  rw [Int.toNat_natCast] at hsh
  have hge := mWd_get (b0 := g.1) (κ := g.2.2.2.1) (M := M) hsh
  rw [mEnt_l hsh] at hge
  obtain ⟨I, rfl⟩ : ∃ I : Nat, i = I := ⟨i.toNat, by omega⟩
  refine va_last hC.1 hC.2.1 hC.2.2.2.2.2.2.2.2.1 hM.1 hM.2.1 hM.2.2.1 N 1 hge rfl (i_in (mVk_h (mVk_t hsk)) hi) hd (fun H1 locs1 hP1 hD1 hS1 => ?_)
  rw [i_nat (mVk_h (mVk_t hsk)) hi.1, Int.toNat_natCast] at hP1 hD1
  have hM1 : mRel g A s.heap (mUp M N I x) H1 locs1 := mRel_up hM (mEl_arr hsh (by decide) (by omega)) (mVk_h hsk) (by rw [mEnt_l hsh, mUp_fun64 (by omega), Int.toNat_natCast]) hP1 hD1 hS1
  exact h g A p l_1 e R s m args below meth c H1 locs1 cells slots cT sT Qf rls hC hM1 hl hlk (mVk_t (mVk_t (mVk_t hsk))) hr hE

theorem V_bastore {l : Nat} {n i x : Int} (hd : decode q.2.1 pc = .ok (.bastore, 1)) (hi : 0 ≤ i ∧ i < l) (hx : -128 ≤ x ∧ x ≤ 127) (h : V d k q (pc + 1) ls st (mUp M n i x) Q) : V d k q pc ls (mI x :: mI i :: mR 2 l n :: st) M Q := by
  intro g A p l_1 e R s m args below meth c H locs cells slots cT sT Qf rls hC hM hl hlk hsk hr hE
  obtain ⟨h0, hsh⟩ : 0 ≤ n ∧ mShL[n.toNat]? = some (2, l) := mVk_h (mVk_t (mVk_t hsk))
  obtain ⟨N, rfl⟩ : ∃ N : Nat, n = N := ⟨n.toNat, by omega⟩
  rw [Int.toNat_natCast] at hsh
  have hge := mWd_get (b0 := g.1) (κ := g.2.2.2.1) (M := M) hsh
  rw [mEnt_b hsh] at hge
  obtain ⟨I, rfl⟩ : ∃ I : Nat, i = I := ⟨i.toNat, by omega⟩
  refine va_bast hC.1 hC.2.1 hC.2.2.2.2.2.2.2.2.1 hM.1 hM.2.1 hM.2.2.1 N 2 hge rfl (i_in (mVk_h (mVk_t hsk)) hi) hd (fun H1 locs1 hP1 hD1 hS1 => ?_)
  rw [i_nat (mVk_h (mVk_t hsk)) hi.1, Int.toNat_natCast] at hP1 hD1
  rw [mNarB hx] at hP1 hD1
  have hM1 : mRel g A s.heap (mUp M N I x) H1 locs1 := mRel_up hM (mEl_arr hsh (by decide) (by omega)) (hx) (by rw [mEnt_b hsh, mUp_fun32 (by omega), Int.toNat_natCast]) hP1 hD1 hS1
  exact h g A p l_1 e R s m args below meth c H1 locs1 cells slots cT sT Qf rls hC hM1 hl hlk (mVk_t (mVk_t (mVk_t hsk))) hr hE

theorem V_zastore {l : Nat} {n i x : Int} (hd : decode q.2.1 pc = .ok (.bastore, 1)) (hi : 0 ≤ i ∧ i < l) (hx : 0 ≤ x ∧ x ≤ 1) (h : V d k q (pc + 1) ls st (mUp M n i x) Q) : V d k q pc ls (mI x :: mI i :: mR 3 l n :: st) M Q := by
  intro g A p l_1 e R s m args below meth c H locs cells slots cT sT Qf rls hC hM hl hlk hsk hr hE
  obtain ⟨h0, hsh⟩ : 0 ≤ n ∧ mShL[n.toNat]? = some (3, l) := mVk_h (mVk_t (mVk_t hsk))
  obtain ⟨N, rfl⟩ : ∃ N : Nat, n = N := ⟨n.toNat, by omega⟩
  rw [Int.toNat_natCast] at hsh
  have hge := mWd_get (b0 := g.1) (κ := g.2.2.2.1) (M := M) hsh
  rw [mEnt_z hsh] at hge
  obtain ⟨I, rfl⟩ : ∃ I : Nat, i = I := ⟨i.toNat, by omega⟩
  refine va_zast hC.1 hC.2.1 hC.2.2.2.2.2.2.2.2.1 hM.1 hM.2.1 hM.2.2.1 N 3 hge rfl (i_in (mVk_h (mVk_t hsk)) hi) hd (fun H1 locs1 hP1 hD1 hS1 => ?_)
  rw [i_nat (mVk_h (mVk_t hsk)) hi.1, Int.toNat_natCast] at hP1 hD1
  rw [mNarZ hx] at hP1 hD1
  have hM1 : mRel g A s.heap (mUp M N I x) H1 locs1 := mRel_up hM (mEl_arr hsh (by decide) (by omega)) (hx) (by rw [mEnt_z hsh, mUp_fun32 (by omega), Int.toNat_natCast]) hP1 hD1 hS1
  exact h g A p l_1 e R s m args below meth c H1 locs1 cells slots cT sT Qf rls hC hM1 hl hlk (mVk_t (mVk_t (mVk_t hsk))) hr hE

theorem V_aaload {l l2 : Nat} {n i : Int} (hd : decode q.2.1 pc = .ok (.aaload, 1)) (hi : 0 ≤ i ∧ i < l) (n2 : Int) (hn2 : n2 = n + 1 + i) (hsh2 : mShL[n2.toNat]? = some (0, l2)) (h : V d k q (pc + 1) ls (mR 0 l2 n2 :: st) M Q) : V d k q pc ls (mI i :: mR 4 l n :: st) M Q := by
  intro g A p l_1 e R s m args below meth c H locs cells slots cT sT Qf rls hC hM hl hlk hsk hr hE
  obtain ⟨h0, hsh⟩ : 0 ≤ n ∧ mShL[n.toNat]? = some (4, l) := mVk_h (mVk_t hsk)
  obtain ⟨N, rfl⟩ : ∃ N : Nat, n = N := ⟨n.toNat, by omega⟩
  rw [Int.toNat_natCast] at hsh
  have hge := mWd_get (b0 := g.1) (κ := g.2.2.2.1) (M := M) hsh
  rw [mEnt_q hsh] at hge
  obtain ⟨I, rfl⟩ : ∃ I : Nat, i = I := ⟨i.toNat, by omega⟩
  have h := h g A p l_1 e R s m args below meth c H locs cells slots cT sT Qf rls hC hM hl hlk (mVk_c ⟨by omega, hsh2⟩ (mVk_t (mVk_t hsk))) hr hE
  have hin : vp_in (Int32.ofInt (I : Int)) l := i_in (mVk_h hsk) hi
  have hlt : (Int32.ofInt (I : Int)).toNatClampNeg < l := Nat.not_le.mp fun z => hin (Or.inr z)
  have hcell := hM.1 N _ hge
  refine W.aald (v := .ref (g.1 + n2.toNat)) (ty := .array .int) hC.1 hC.2.1 hcell ((hC.2.2.2.2.2.2.2.2.1.2 4 _ rfl).1 l (fun j => va_rf (some (g.1 + N + 1 + j)))) rfl (fun z => by cases z) (by show ¬ (_ ∨ (arrV _ _ _).slots.size ≤ _); rw [arrV_size]; exact hin) ?_ rfl rfl hd h
  show (arrV _ _ _).slots[_]? = _
  rw [arrV_read _ _ hlt, i_nat (mVk_h hsk) hi.1, Int.toNat_natCast]
  show some (Value.ref (g.1 + N + 1 + I)) = _
  rw [show g.1 + N + 1 + I = g.1 + n2.toNat by omega]

theorem V_aleni {l : Nat} {n : Int} (hd : decode q.2.1 pc = .ok (.arraylength, 1)) (hlr : r32 l) (h : V d k q (pc + 1) ls (mI l :: st) M Q) : V d k q pc ls (mR 0 l n :: st) M Q := by
  intro g A p l_1 e R s m args below meth c H locs cells slots cT sT Qf rls hC hM hl hlk hsk hr hE
  obtain ⟨h0, hsh⟩ : 0 ≤ n ∧ mShL[n.toNat]? = some (0, l) := mVk_h hsk
  obtain ⟨N, rfl⟩ : ∃ N : Nat, n = N := ⟨n.toNat, by omega⟩
  rw [Int.toNat_natCast] at hsh
  have hge := mWd_get (b0 := g.1) (κ := g.2.2.2.1) (M := M) hsh
  rw [mEnt_i hsh] at hge
  have h := h g A p l_1 e R s m args below meth c H locs cells slots cT sT Qf rls hC hM hl hlk (mVk_c hlr (mVk_t hsk)) hr hE
  exact va_alen (v := Int32.ofInt (l : Int)) hC.1 hC.2.1 hC.2.2.2.2.2.2.2.2.1 hM.1 N 0 hge rfl rfl hd h

theorem V_alenl {l : Nat} {n : Int} (hd : decode q.2.1 pc = .ok (.arraylength, 1)) (hlr : r32 l) (h : V d k q (pc + 1) ls (mI l :: st) M Q) : V d k q pc ls (mR 1 l n :: st) M Q := by
  intro g A p l_1 e R s m args below meth c H locs cells slots cT sT Qf rls hC hM hl hlk hsk hr hE
  obtain ⟨h0, hsh⟩ : 0 ≤ n ∧ mShL[n.toNat]? = some (1, l) := mVk_h hsk
  obtain ⟨N, rfl⟩ : ∃ N : Nat, n = N := ⟨n.toNat, by omega⟩
  rw [Int.toNat_natCast] at hsh
  have hge := mWd_get (b0 := g.1) (κ := g.2.2.2.1) (M := M) hsh
  rw [mEnt_l hsh] at hge
  have h := h g A p l_1 e R s m args below meth c H locs cells slots cT sT Qf rls hC hM hl hlk (mVk_c hlr (mVk_t hsk)) hr hE
  exact va_alen (v := Int32.ofInt (l : Int)) hC.1 hC.2.1 hC.2.2.2.2.2.2.2.2.1 hM.1 N 1 hge rfl rfl hd h

theorem V_alenb {l : Nat} {n : Int} (hd : decode q.2.1 pc = .ok (.arraylength, 1)) (hlr : r32 l) (h : V d k q (pc + 1) ls (mI l :: st) M Q) : V d k q pc ls (mR 2 l n :: st) M Q := by
  intro g A p l_1 e R s m args below meth c H locs cells slots cT sT Qf rls hC hM hl hlk hsk hr hE
  obtain ⟨h0, hsh⟩ : 0 ≤ n ∧ mShL[n.toNat]? = some (2, l) := mVk_h hsk
  obtain ⟨N, rfl⟩ : ∃ N : Nat, n = N := ⟨n.toNat, by omega⟩
  rw [Int.toNat_natCast] at hsh
  have hge := mWd_get (b0 := g.1) (κ := g.2.2.2.1) (M := M) hsh
  rw [mEnt_b hsh] at hge
  have h := h g A p l_1 e R s m args below meth c H locs cells slots cT sT Qf rls hC hM hl hlk (mVk_c hlr (mVk_t hsk)) hr hE
  exact va_alen (v := Int32.ofInt (l : Int)) hC.1 hC.2.1 hC.2.2.2.2.2.2.2.2.1 hM.1 N 2 hge rfl rfl hd h

theorem V_alenz {l : Nat} {n : Int} (hd : decode q.2.1 pc = .ok (.arraylength, 1)) (hlr : r32 l) (h : V d k q (pc + 1) ls (mI l :: st) M Q) : V d k q pc ls (mR 3 l n :: st) M Q := by
  intro g A p l_1 e R s m args below meth c H locs cells slots cT sT Qf rls hC hM hl hlk hsk hr hE
  obtain ⟨h0, hsh⟩ : 0 ≤ n ∧ mShL[n.toNat]? = some (3, l) := mVk_h hsk
  obtain ⟨N, rfl⟩ : ∃ N : Nat, n = N := ⟨n.toNat, by omega⟩
  rw [Int.toNat_natCast] at hsh
  have hge := mWd_get (b0 := g.1) (κ := g.2.2.2.1) (M := M) hsh
  rw [mEnt_z hsh] at hge
  have h := h g A p l_1 e R s m args below meth c H locs cells slots cT sT Qf rls hC hM hl hlk (mVk_c hlr (mVk_t hsk)) hr hE
  exact va_alen (v := Int32.ofInt (l : Int)) hC.1 hC.2.1 hC.2.2.2.2.2.2.2.2.1 hM.1 N 3 hge rfl rfl hd h

end HRules
