section XRules
variable {d k : Nat} {q : mMth} {pc : Nat} {ls st : List mV} {M : mM} {Q : mRes → mM → Prop}
theorem V_iret {x : Int} (hd : decode q.2.1 pc = .ok (.ireturn, 1)) (hq : q.2.2.2 = some .int) (h : Q (.inl (some (mI x))) M) : V d k q pc ls [mI x] M Q := by
  intro g A p l e R s m args below meth c H locs cells slots cT sT Qf rls hC hM hl hlk hsk hr hE
  exact hE.1 (some (mI x)) M H locs cells slots pc rls h hM (by rw [hq]; exact mVk_h hsk) (by omega) (by omega) (by rw [hq]; exact hd)
theorem V_zret {x : Int} (hd : decode q.2.1 pc = .ok (.ireturn, 1)) (hq : q.2.2.2 = some .boolean) (hx : 0 ≤ x ∧ x ≤ 1) (h : Q (.inl (some (mI x))) M) : V d k q pc ls [mI x] M Q := by
  intro g A p l e R s m args below meth c H locs cells slots cT sT Qf rls hC hM hl hlk hsk hr hE
  exact hE.1 (some (mI x)) M H locs cells slots pc rls h hM (by rw [hq]; exact hx) (by omega) (by omega) (by rw [hq]; exact hd)
theorem V_lret {x : Int} (hd : decode q.2.1 pc = .ok (.lreturn, 1)) (hq : q.2.2.2 = some .long) (h : Q (.inl (some (mL x))) M) : V d k q pc ls [mL x] M Q := by
  intro g A p l e R s m args below meth c H locs cells slots cT sT Qf rls hC hM hl hlk hsk hr hE
  exact hE.1 (some (mL x)) M H locs cells slots pc rls h hM (by rw [hq]; exact mVk_h hsk) (by omega) (by omega) (by rw [hq]; exact hd)
theorem V_aret {a b : Nat} {n : Int} {C : String} (hd : decode q.2.1 pc = .ok (.areturn, 1)) (hq : q.2.2.2 = some (.object C)) (h : Q (.inl (some (mR a b n))) M) : V d k q pc ls [mR a b n] M Q := by
  intro g A p l e R s m args below meth c H locs cells slots cT sT Qf rls hC hM hl hlk hsk hr hE
  exact hE.1 (some (mR a b n)) M H locs cells slots pc rls h hM (by rw [hq]; exact mVk_h hsk) (by omega) (by omega) (by rw [hq]; exact hd)
theorem V_vret (hd : decode q.2.1 pc = .ok (.return_, 1)) (hq : q.2.2.2 = none) (h : Q (.inl none) M) : V d k q pc ls [] M Q := by
  intro g A p l e R s m args below meth c H locs cells slots cT sT Qf rls hC hM hl hlk hsk hr hE
  exact hE.1 none M H locs cells slots pc rls h hM (by rw [hq]; exact trivial) (by omega) (by omega) (by rw [hq]; exact hd)
/-! reads with a value by another name -/
theorem V_getIx {idx ci j l : Nat} {n x : Int} (hd : decode q.2.1 pc = .ok (.getfield idx, 3)) (hf : mFL q.1.cls idx ci j) {t o : Nat} (ht : (mFt ci)[j]? = some (t, o)) (h03 : t = 0 ∨ t = 3) (hx : M n (j : Int) = x) (h : V d k q (pc + 3) ls (mI x :: st) M Q) : V d k q pc ls (mR (ci + 10) l n :: st) M Q := V_getI hd hf ht h03 (by rw [hx]; exact h)
theorem V_ialoadx {l : Nat} {n i x : Int} (hd : decode q.2.1 pc = .ok (.iaload, 1)) (hi : 0 ≤ i ∧ i < l) (hx : M n i = x) (h : V d k q (pc + 1) ls (mI x :: st) M Q) : V d k q pc ls (mI i :: mR 0 l n :: st) M Q := V_iaload hd hi (by rw [hx]; exact h)
theorem V_laloadx {l : Nat} {n i x : Int} (hd : decode q.2.1 pc = .ok (.laload, 1)) (hi : 0 ≤ i ∧ i < l) (hx : M n i = x) (h : V d k q (pc + 1) ls (mL x :: st) M Q) : V d k q pc ls (mI i :: mR 1 l n :: st) M Q := V_laload hd hi (by rw [hx]; exact h)
theorem V_baloadx {l : Nat} {n i x : Int} (hd : decode q.2.1 pc = .ok (.baload, 1)) (hi : 0 ≤ i ∧ i < l) (hx : M n i = x) (h : V d k q (pc + 1) ls (mI x :: st) M Q) : V d k q pc ls (mI i :: mR 2 l n :: st) M Q := V_baload hd hi (by rw [hx]; exact h)
theorem V_zaloadx {l : Nat} {n i x : Int} (hd : decode q.2.1 pc = .ok (.baload, 1)) (hi : 0 ≤ i ∧ i < l) (hx : M n i = x) (h : V d k q (pc + 1) ls (mI x :: st) M Q) : V d k q pc ls (mI i :: mR 3 l n :: st) M Q := V_zaload hd hi (by rw [hx]; exact h)
theorem up_n {M : mM} {n i v n' i' x : Int} (h : n' ≠ n) (hx : M n' i' = x) : mUp M n i v n' i' = x := by
  unfold mUp; rw [if_neg (fun z => h z.1)]; exact hx
theorem up_i {M : mM} {n i v n' i' x : Int} (h : i' ≠ i) (hx : M n' i' = x) : mUp M n i v n' i' = x := by
  unfold mUp; rw [if_neg (fun z => h z.2)]; exact hx
theorem up_s {M : mM} {n i v : Int} : mUp M n i v n i = v := by
  unfold mUp; rw [if_pos ⟨rfl, rfl⟩]
theorem cp_n {M : mM} {n0 i0 n1 i1 cnt n' i' x : Int} (h : n' ≠ n1) (hx : M n' i' = x) : mCp M n0 i0 n1 i1 cnt n' i' = x := by
  unfold mCp; rw [if_neg (fun z => h z.1)]; exact hx
/-! the rows of the arrays of arrays -/
theorem sh_39k : ∀ I, I < 25 → mShL[39 + I]? = some (0, 6) := by decide
theorem sh_65k : ∀ I, I < 25 → mShL[65 + I]? = some (0, 6) := by decide
theorem sh_92k : ∀ I, I < 7 → mShL[92 + I]? = some (0, 100) := by decide
theorem sh_100k : ∀ I, I < 7 → mShL[100 + I]? = some (0, 100) := by decide
theorem sh_39 {i : Int} (h : 0 ≤ i ∧ i < (25 : Nat)) : mShL[(39 + i).toNat]? = some (0, 6) := by
  rw [show (39 + i).toNat = 39 + i.toNat by omega]; exact sh_39k _ (by omega)
theorem sh_65 {i : Int} (h : 0 ≤ i ∧ i < (25 : Nat)) : mShL[(65 + i).toNat]? = some (0, 6) := by
  rw [show (65 + i).toNat = 65 + i.toNat by omega]; exact sh_65k _ (by omega)
theorem sh_92 {i : Int} (h : 0 ≤ i ∧ i < (7 : Nat)) : mShL[(92 + i).toNat]? = some (0, 100) := by
  rw [show (92 + i).toNat = 92 + i.toNat by omega]; exact sh_92k _ (by omega)
theorem sh_100 {i : Int} (h : 0 ≤ i ∧ i < (7 : Nat)) : mShL[(100 + i).toNat]? = some (0, 100) := by
  rw [show (100 + i).toNat = 100 + i.toNat by omega]; exact sh_100k _ (by omega)
theorem V_mx {idx : Nat} {x y : Int} (hd : decode q.2.1 pc = .ok (.invokestatic idx, 3)) (hw : Cond.methodLink q.1.cls idx Lib.Math.max.name ∈ mTbl ∧ Cond.static Lib.Math.max.name ∈ mTbl ∧ Cond.initialized "java/lang/Math" ∈ mTbl ∧ Cond.code Lib.Math.max.name Lib.Math.max.code 2 (some .int) ∈ mTbl) (h1 : 1 ≤ d) (hst : (st.map mCt).sum ≤ 8)
    (h : V d k q (pc + 3) ls (mI (max x y) :: st) M Q) : V d k q pc ls (mI y :: mI x :: st) M Q := V_max hd hw h1 hst (by rw [show (if x < y then y else x) = max x y by omega]; exact h)
theorem V_mn {idx : Nat} {x y : Int} (hd : decode q.2.1 pc = .ok (.invokestatic idx, 3)) (hw : Cond.methodLink q.1.cls idx Lib.Math.min.name ∈ mTbl ∧ Cond.static Lib.Math.min.name ∈ mTbl ∧ Cond.initialized "java/lang/Math" ∈ mTbl ∧ Cond.code Lib.Math.min.name Lib.Math.min.code 2 (some .int) ∈ mTbl) (h1 : 1 ≤ d) (hst : (st.map mCt).sum ≤ 8)
    (h : V d k q (pc + 3) ls (mI (min x y) :: st) M Q) : V d k q pc ls (mI y :: mI x :: st) M Q := V_min hd hw h1 hst (by rw [show (if y < x then y else x) = min x y by omega]; exact h)
theorem V_ldcS {i idx : Nat} {tx : String} (hd : decode q.2.1 pc = .ok (.ldc idx, 2)) (hs : mStr[i]? = some (q.1.cls, idx, tx)) (h : V d k q (pc + 2) ls (mE (10 + i) :: st) M Q) : V d k q pc ls st M Q := by
  intro g A p l e R s m args below meth c H locs cells slots cT sT Qf rls hC hM hl hlk hsk hr hE
  have h := h g A p l e R s m args below meth c H locs cells slots cT sT Qf rls hC hM hl hlk (mVk_c trivial hsk) hr hE
  exact va_ldcS hC.1 hC.2.1 hC.2.2.2.1 (hC.2.2.2.2.2.2.2.2.2.2.2.2.2.2.1 i _ hs) hd h
theorem kn_w : Cond.fieldLink "BinProverModel" 96 "BinProverModel" "KNOWN" "[B" ∈ mTbl := mTbl_at 1400 (by decide +kernel) rfl
theorem V_getKn (hd : decode q.2.1 pc = .ok (.getstatic 96, 3)) (hq : q.1.cls = "BinProverModel" := by rfl) (h : V d k q (pc + 3) ls (mE 1 :: st) M Q) : V d k q pc ls st M Q := by
  intro g A p l e R s m args below meth c H locs cells slots cT sT Qf rls hC hM hl hlk hsk hr hE
  have h := h g A p l e R s m args below meth c H locs cells slots cT sT Qf rls hC hM hl hlk (mVk_c trivial hsk) hr hE
  exact va_gets hC.1 hC.2.1 hC.2.2.2.2.2.2.2.2.2.2.2.2.1.1 hM.2.2.1 hC.2.2.2.1 (by rw [hq]; exact hC.2.2.2.2.1 _ kn_w) (fun _ h => h) hd h
theorem V_lenKn (hd : decode q.2.1 pc = .ok (.arraylength, 1)) (h : V d k q (pc + 1) ls (mI 18 :: st) M Q) : V d k q pc ls (mE 1 :: st) M Q := by
  intro g A p l e R s m args below meth c H locs cells slots cT sT Qf rls hC hM hl hlk hsk hr hE
  have h := h g A p l e R s m args below meth c H locs cells slots cT sT Qf rls hC hM hl hlk (mVk_c (by decide : r32 18) (mVk_t hsk)) hr hE
  exact va_tlen hC.1 hC.2.1 hC.2.2.2.2.2.2.2.2.2.2.2.2.1.2 hM.2.2.1 rfl hd h
theorem V_baKn {i : Int} (hd : decode q.2.1 pc = .ok (.baload, 1)) (hi : 0 ≤ i ∧ i < 18) (h : V d k q (pc + 1) ls (mI (mKn.getD i.toNat 0).toInt :: st) M Q) : V d k q pc ls (mI i :: mE 1 :: st) M Q := by
  intro g A p l e R s m args below meth c H locs cells slots cT sT Qf rls hC hM hl hlk hsk hr hE
  have h := h g A p l e R s m args below meth c H locs cells slots cT sT Qf rls hC hM hl hlk (mVk_c (i_rg _) (mVk_t (mVk_t hsk))) hr hE
  refine va_tb hC.1 hC.2.1 hC.2.2.2.2.2.2.2.2.2.2.2.2.1.2 hM.2.2.1 (i_in (mVk_h hsk) hi) ?_ hd h
  rw [i_nat (mVk_h hsk) hi.1]
  show Value.int _ = Value.int _
  rw [Int32.ofInt_toInt]
/-- a throw of a written text -/
theorem thr_all {own : String} {ic : Nat} {E : Nat} (h : (tx_at own ic (mXn E) (mXi E).1 (mXi E).2 ["java/lang/RuntimeException", "java/lang/Exception"]).all (fun w => decide (w ∈ lw_tbl) && (goodWord w || mCast w) && vx_ot w) = true) :
    ∀ w ∈ tx_at own ic (mXn E) (mXi E).1 (mXi E).2 ["java/lang/RuntimeException", "java/lang/Exception"], (w ∈ mTbl ∨ (w ∈ lw_tbl ∧ mCast w = true)) ∧ vx_ot w = true := by
  intro w hw
  have h1 := List.all_eq_true.mp h w hw
  simp only [Bool.and_eq_true, Bool.or_eq_true, decide_eq_true_eq] at h1
  obtain ⟨⟨h2, h3⟩, h4⟩ := h1
  refine ⟨?_, h4⟩
  rcases h3 with a | a
  · exact Or.inl (mTbl_mem h2 a)
  · exact Or.inr ⟨h2, a⟩
theorem thw_X9_94_2 : ∀ w ∈ tx_at "BinProver" 94 (mXn 2) (mXi 2).1 (mXi 2).2 ["java/lang/RuntimeException", "java/lang/Exception"], (w ∈ mTbl ∨ (w ∈ lw_tbl ∧ mCast w = true)) ∧ vx_ot w = true := thr_all (by decide +kernel)
theorem thw_X9_161_1 : ∀ w ∈ tx_at "BinProver" 161 (mXn 1) (mXi 1).1 (mXi 1).2 ["java/lang/RuntimeException", "java/lang/Exception"], (w ∈ mTbl ∨ (w ∈ lw_tbl ∧ mCast w = true)) ∧ vx_ot w = true := thr_all (by decide +kernel)
end XRules
