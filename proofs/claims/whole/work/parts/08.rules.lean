def mCt : mV → Nat
  | Sum.inr (Sum.inl _) => 2
  | _ => 1
theorem mCt_ok {g : mG} (v : mV) : (mRv g v).category = mCt v := by
  rcases v with x | x | x | x <;> rfl
theorem mCt_sum {g : mG} (st : List mV) : ((st.map (mRv g)).map fun v => v.category).sum = (st.map mCt).sum := by
  rw [List.map_map]
  congr 1
  exact List.map_congr_left (fun v _ => mCt_ok v)
theorem mOut_ok {rt : Option FieldType} {r : Option mV} (h : mOut rt r) : ∀ v ∈ r.toList, mVk v := by
  intro v hv
  match rt, r, h with
  | none, none, _ => cases hv
  | some .int, some (Sum.inl x), ho => rw [List.mem_singleton.mp hv]; exact ho
  | some .boolean, some (Sum.inl x), ho => rw [List.mem_singleton.mp hv]; exact (show r32 x from ⟨by have := ho.1; omega, by have := ho.2; omega⟩)
  | some .byte, some (Sum.inl x), ho => rw [List.mem_singleton.mp hv]; exact (show r32 x from ⟨by have := ho.1; omega, by have := ho.2; omega⟩)
  | some .char, some (Sum.inl x), ho => rw [List.mem_singleton.mp hv]; exact (show r32 x from ⟨by have := ho.1; omega, by have := ho.2; omega⟩)
  | some .long, some (Sum.inr (Sum.inl x)), ho => rw [List.mem_singleton.mp hv]; exact ho
  | some (.object n9), some (Sum.inr (Sum.inr (Sum.inl (k9, l9, n)))), ho => rw [List.mem_singleton.mp hv]; exact ho
/-- what follows behind a call -/
def mAft (d k : Nat) (q : mMth) (pc : Nat) (ls st : List mV) (Q : mRes → mM → Prop) : mRes → mM → Prop
  | Sum.inl v, M' => V d k q pc ls (v.toList ++ st) M' Q
  | Sum.inr E, M' => Q (.inr E) M'
/-- a method as a callee: its words -/
def mCm (q : mMth) (n : Nat) : Prop := Cond.initialized q.1.cls ∈ mTbl ∧ Cond.code q.1 q.2.1 q.2.2.1 q.2.2.2 ∈ mTbl ∧ (q.1.cls ≠ "java/lang/invoke/MethodHandle" ∧ q.1.cls ≠ "java/lang/invoke/VarHandle") ∧ (parseMethodDescriptor q.1.desc).map (fun d => d.parameters.length) = some n ∧ plainName q.1.cls = true ∧ q.2.2.1 ≤ 45
def mCV (own : String) (idx : Nat) (q : mMth) (ci n : Nat) : Prop := (∃ (T : u_T) (N : Nat), vwCl[ci]? = some (q.1.cls, T, N)) ∧ Cond.methodLink own idx q.1 ∈ mTbl ∧ Cond.instanceMethod q.1 ∈ mTbl ∧ Cond.selects q.1.cls q.1 q.1 ∈ mTbl ∧ mCm q n
def mCS (own : String) (idx : Nat) (q : mMth) (n : Nat) : Prop := Cond.methodLink own idx q.1 ∈ mTbl ∧ Cond.static q.1 ∈ mTbl ∧ mCm q n
theorem mTbl_warm {args : Array Value} {s : State} (hts : ∀ w ∈ mTbl, w.before args s = true) : ∀ w ∈ mTbl, ∀ (a' : Array Value) (U : State), s.WarmedH U.vm → w.before a' U = true := fun w hw a' U hW => word_at hW (good_of_word (List.mem_filter.mp hw).2) (hts w hw)
theorem mCallB {R : Room} {s : State} {args : Array Value} {own : String} {idx d d' k' n : Nat} {q : mMth} (hts : ∀ w ∈ mTbl, w.before args s = true) (hl : Cond.methodLink own idx q.1 ∈ mTbl) (hc : mCm q n) (hF : d ≤ R.frames) (hL : 64 * d ≤ R.locals) (hdd : d' + 1 ≤ d) : CallB R s args own idx q.1 q.2.1 q.2.2.1 q.2.2.2 (mWs q) (mRm d' k') k' (6 * k') n := by
  obtain ⟨h1, h2, h3, h4, -, h6⟩ := hc
  refine ⟨rfl, rfl, by show d' + 1 ≤ _; omega, by show 8 + (_ + 11) + 64 * d' ≤ _; omega, fun w hw a' U hW => ?_, List.mem_cons_self, hts _ h2, hts _ h1, h3, fun sig hs => ?_, hts _ hl⟩
  · rcases List.mem_cons.mp hw with rfl | hw
    · exact mTbl_warm hts _ h2 a' U hW
    · exact mTbl_warm hts w hw a' U hW
  · rw [hs] at h4
    exact (Option.some.inj h4).symm
section CRules
variable {d k : Nat} {q : mMth} {pc : Nat} {ls st : List mV} {M : mM} {Q : mRes → mM → Prop}
theorem mPre {g : mG} {A : Nat → Prop} {p : Program} {l : Launch} {R : Room} {s U : State} {m : MethodId} {args : Array Value} {meth : Method} {c : Code} {H : Heap} {locs : List Loc} (hC : mCtx d q g A p l R s m args meth c) (hM : mRel g A s.heap M H locs) (As : List mV) (hU : U.heap = H) (hW : s.WarmedH U.vm) : mPc g l As M H.size (As.map (mRv g)).toArray U := by
  have hDA := mD_A hM.2.1
  refine ⟨rfl, by rw [hU], by unfold mW1; rw [hU]; exact ⟨hM.1, hM.2.2.2⟩, va_K.moved hW.alike hC.2.2.2.2.2.2.2.2.1, ?_⟩
  refine mExt_call hC.2.2.2.2.2.2.2.2.2.2 hM.2.2.1 (fun x hx hA => ?_) hC.2.2.2.2.2.2.2.2.2.1 (fun x hx => Or.inr hx) hU hW
  rcases hA with hA | hA
  · exact hDA x hA
  · omega
theorem mCallEnd {k' : Nat} {q' : mMth} {g : mG} {A : Nat → Prop} {p : Program} {l : Launch} {e : Env} {R : Room} {s : State} {m : MethodId} {args : Array Value} {below : List Frame} {meth : Method} {c : Code} {H : Heap} {locs : List Loc} {cells slots cT sT : Nat} {Qf : State → Prop} {rls : Array Slot} {S : List Value} {a : Array Value}
    (hC : mCtx d q g A p l R s m args meth c) (hM : mRel g A s.heap M H locs) (hl : lv_has rls q.2.2.1 (mLv g ls)) (hlk : ∀ v ∈ ls, mVk v) (hsk : ∀ v ∈ st, mVk v) (hr : cells + k ≤ cT ∧ slots + 6 * k ≤ sT ∧ cT ≤ R.cells ∧ sT ≤ R.slots) (hE : mEnd q g A p l e R s m args below meth c cT sT Qf Q) (hk : k' ≤ k)
    (hrun : vx_Run p l e R s m args below meth c H locs cells slots k' (6 * k') (F0 m pc rls S) (st.map (mRv g)) (mQc g q' H.size (mAft d (k - k') q (pc + 3) ls st Q) a) (mXc g H.size (mAft d (k - k') q (pc + 3) ls st Q)) (mA g H.size)) :
    W p l e R s m args below meth c H locs cells slots Qf (F0 m pc rls S) := by
  have hDA := mD_A hM.2.1
  have hAA : ∀ x, x < H.size → mA g H.size x → A x := fun x hx hA => by
    rcases hA with hA | hA
    · exact hDA x hA
    · omega
  have hfA : ∀ x, mA g H.size x → A x := fun x hA => by
    rcases hA with hA | hA
    · exact hDA x hA
    · exact hC.2.2.2.2.2.2.2.2.2.1 x (Nat.le_trans hM.2.2.1.1 hA)
  intro T hT X
  rcases hrun T hT X with ⟨v, st₀, t, T', L, h0, X', hL, e1, e2, ⟨⟨r, M', hv, hQ, hout, hW1⟩, hF⟩, go⟩ | ⟨x, st₀, t, T', L, E, ce, h0, X', hL, e1, e2, ⟨⟨En, M', hEn, hQ, hW1⟩, hF⟩, hce, hcv, hcl, go⟩
  · cases hv
    obtain ⟨k1, k2, k3⟩ := vx_keep h0 e1 hM.2.2.1 hAA hfA hL hF
    have hM1 : mRel g A s.heap M' T'.heap (locs ++ L) := ⟨by rw [e1]; exact hW1.1, mD_any (fun x hx => hDA x hx), k3, hW1.2⟩
    have h9 : V d (k - k') q (pc + 3) ls (r.toList ++ st) M' Q := hQ
    have hW9 := h9 g A p l e R s m args below meth c T'.heap (locs ++ L) (cells + k') (slots + 6 * k') cT sT Qf rls hC hM1 hl hlk (fun v hv => (List.mem_append.mp hv).elim (mOut_ok hout v) (hsk v)) (by omega) hE
    obtain ⟨t2, a1, b1⟩ := hW9 T' rfl X'
    refine ⟨t2, go t2 ?_, b1⟩
    have e9 : (r.map (mRv g)).toList ++ st.map (mRv g) = (r.toList ++ st).map (mRv g) := by
      rw [List.map_append]
      cases r <;> rfl
    rw [e9]
    exact a1
  · subst hEn
    obtain ⟨k1, k2, k3⟩ := vx_keep h0 e1 hM.2.2.1 hAA hfA hL hF
    have hM1 : mRel g A s.heap M' T'.heap (locs ++ L) := ⟨by rw [e1]; exact hW1.1, mD_any (fun x hx => hDA x hx), k3, hW1.2⟩
    have hW9 := hE.2.2 En M' T'.heap (locs ++ L) (cells + k') (slots + 6 * k') pc rls (st.map (mRv g)) x ce hQ hM1 (by omega) (by omega) (by rw [e1]; exact hce) hcv hcl
    obtain ⟨t2, a1, b1⟩ := hW9 T' rfl X'
    exact ⟨t2, go.trans a1, b1⟩
theorem V_callV {idx ci l0 d' k' : Nat} {q' : mMth} {r : Int} {S : List mV} (As ls' : List mV) (hd : decode q.2.1 pc = .ok (.invokevirtual idx, 3)) (hc : mCV q.1.cls idx q' ci As.length) (hS : S = As.reverse ++ mR (ci + 10) l0 r :: st) (hls : mArg q'.2.2.1 (mR (ci + 10) l0 r :: As) = ls') (hln : (mFlat (mR (ci + 10) l0 r :: As)).length ≤ q'.2.2.1) (hst : (st.map mCt).sum ≤ 8) (hdd : d' + 1 ≤ d) (hk : k' ≤ k)
    (h : V d' k' q' 0 ls' [] M (mAft d (k - k') q (pc + 3) ls st Q)) : V d k q pc ls S M Q := by
  subst hS
  intro g A p l e R s m args below meth c H locs cells slots cT sT Qf rls hC hM hl hlk hsk hr hE
  have hskA : ∀ v ∈ As, mVk v := fun v hv => hsk v (List.mem_append_left _ (List.mem_reverse.mpr hv))
  have hskR : mVk (mR (ci + 10) l0 r) := hsk _ (List.mem_append_right _ List.mem_cons_self)
  have hskS : ∀ v ∈ st, mVk v := fun v hv => hsk v (List.mem_append_right _ (List.mem_cons_of_mem _ hv))
  obtain ⟨⟨T0, N0, hcl⟩, hlk1, hin1, hse1, hcm⟩ := hc
  have hmet := V_met (g := g) (l := l) (sz := H.size) (As := mR (ci + 10) l0 r :: As) (by rw [hls]; exact h) hcm.2.2.2.2.1 hln (mVk_c hskR hskA)
  obtain ⟨hn0, hsh⟩ : 0 ≤ r ∧ mShL[r.toNat]? = some (ci + 10, l0) := hskR
  have hge := mWd_get (b0 := g.1) (κ := g.2.2.2.1) (M := M) hsh
  rw [mEnt_o hsh] at hge
  have hts := hC.2.2.2.2.1
  refine mCallEnd (q' := q') (S := (As.reverse ++ mR (ci + 10) l0 r :: st).map (mRv g)) (a := (Value.ref (g.1 + r.toNat) :: As.map (mRv g)).toArray) hC hM hl hlk hskS hr hE hk ?_
  exact vx_runV (n := As.length) (C := q'.1.cls) (b := g.1 + r.toNat) (As := As.map (mRv g)) ⟨hC.1, hC.2.1, hC.2.2.1, hC.2.2.2.1, hts⟩ hmet ⟨mCallB hts hlk1 hcm hC.2.2.2.2.2.2.1 hC.2.2.2.2.2.2.2.1 hdd, hts _ hin1, hts _ hse1⟩
    ⟨mPc_blind, va_recv hC.2.2.2.2.2.2.2.2.1 hM.1 hcl hge, fun U hU hW => mPre hC hM (mR (ci + 10) l0 r :: As) hU hW⟩ rfl (by simp) hl.1 (by show List.map _ _ = _; simp [mRv, List.map_reverse]) (lv_room (by rw [mCt_sum]; exact hst)) hd ⟨by omega, by omega⟩
theorem V_callS {idx d' k' : Nat} {q' : mMth} {S : List mV} (As ls' : List mV) (hd : decode q.2.1 pc = .ok (.invokestatic idx, 3)) (hc : mCS q.1.cls idx q' As.length) (hS : S = As.reverse ++ st) (hls : mArg q'.2.2.1 As = ls') (hln : (mFlat As).length ≤ q'.2.2.1) (hst : (st.map mCt).sum ≤ 8) (hdd : d' + 1 ≤ d) (hk : k' ≤ k)
    (h : V d' k' q' 0 ls' [] M (mAft d (k - k') q (pc + 3) ls st Q)) : V d k q pc ls S M Q := by
  subst hS
  intro g A p l e R s m args below meth c H locs cells slots cT sT Qf rls hC hM hl hlk hsk hr hE
  have hskA : ∀ v ∈ As, mVk v := fun v hv => hsk v (List.mem_append_left _ (List.mem_reverse.mpr hv))
  have hskS : ∀ v ∈ st, mVk v := fun v hv => hsk v (List.mem_append_right _ hv)
  obtain ⟨hlk1, hst1, hcm⟩ := hc
  have hmet := V_met (g := g) (l := l) (sz := H.size) (As := As) (by rw [hls]; exact h) hcm.2.2.2.2.1 hln hskA
  have hts := hC.2.2.2.2.1
  refine mCallEnd (q' := q') (S := (As.reverse ++ st).map (mRv g)) (a := (As.map (mRv g)).toArray) hC hM hl hlk hskS hr hE hk ?_
  exact vx_runS (n := As.length) (As := As.map (mRv g)) ⟨hC.1, hC.2.1, hC.2.2.1, hC.2.2.2.1, hts⟩ hmet ⟨mCallB hts hlk1 hcm hC.2.2.2.2.2.2.1 hC.2.2.2.2.2.2.2.1 hdd, hts _ hst1⟩
    ⟨mPc_blind, fun U hU hW => mPre hC hM As hU hW⟩ rfl (by simp) hl.1 (by show List.map _ _ = _; simp [List.map_reverse]) (lv_room (by rw [mCt_sum]; exact hst)) hd ⟨by omega, by omega⟩
/-! ends -/
theorem V_ret {r : Option mV} {S : List mV} (hd : decode q.2.1 pc = .ok (mRi q.2.2.2, 1)) (hS : S = r.toList) (ho : mOut q.2.2.2 r) (h : Q (.inl r) M) : V d k q pc ls S M Q := by
  subst hS
  intro g A p l e R s m args below meth c H locs cells slots cT sT Qf rls hC hM hl hlk hsk hr hE
  exact hE.1 r M H locs cells slots pc rls h hM ho (by omega) (by omega) hd
theorem V_throw {E : Nat} (hT : mThr q pc E) (h7 : 7 ≤ d) (hk : 1 ≤ k) (hst : (st.map mCt).sum ≤ 8) (h : Q (.inr E) M) : V d k q pc ls st M Q := by
  intro g A p l e R s m args below meth c H locs cells slots cT sT Qf rls hC hM hl hlk hsk hr hE
  exact hE.2.1 E M H locs cells slots pc rls _ h hM (by omega) (by omega) hT (Nat.le_trans h7 hC.2.2.2.2.2.2.1) (by have := hC.2.2.2.2.2.2.2.1; omega) hl.1 (by rw [mCt_sum]; exact hst)
/-! members of the JDK -/
theorem V_max {idx : Nat} {x y : Int} (hd : decode q.2.1 pc = .ok (.invokestatic idx, 3)) (hw : Cond.methodLink q.1.cls idx Lib.Math.max.name ∈ mTbl ∧ Cond.static Lib.Math.max.name ∈ mTbl ∧ Cond.initialized "java/lang/Math" ∈ mTbl ∧ Cond.code Lib.Math.max.name Lib.Math.max.code 2 (some .int) ∈ mTbl) (h1 : 1 ≤ d) (hst : (st.map mCt).sum ≤ 8)
    (h : V d k q (pc + 3) ls (mI (if x < y then y else x) :: st) M Q) : V d k q pc ls (mI y :: mI x :: st) M Q := by
  intro g A p l e R s m args below meth c H locs cells slots cT sT Qf rls hC hM hl hlk hsk hr hE
  have hx : r32 x := mVk_h (mVk_t hsk)
  have hy : r32 y := mVk_h hsk
  have hz : r32 (if x < y then y else x) := by split <;> assumption
  have h := h g A p l e R s m args below meth c H locs cells slots cT sT Qf rls hC hM hl hlk (mVk_c hz (mVk_t (mVk_t hsk))) hr hE
  have hts := hC.2.2.2.2.1
  have hF := hC.2.2.2.2.2.2.1
  have hL := hC.2.2.2.2.2.2.2.1
  refine va_mmax hC.1 hC.2.1 (hC.2.2.1.trans hl.1.symm) hC.2.2.2.1 (hts _ hw.1) (hts _ hw.2.1) (hts _ hw.2.2.1) (hts _ hw.2.2.2) (by omega) (by rw [mCt_sum]; omega) (by omega) (by omega) hd ?_
  have e9 : (if Int32.ofInt x < Int32.ofInt y then Int32.ofInt y else Int32.ofInt x) = Int32.ofInt (if x < y then y else x) := by
    by_cases c9 : x < y
    · rw [if_pos ((i_lt hx hy).mpr c9), if_pos c9]
    · rw [if_neg (fun z => c9 ((i_lt hx hy).mp z)), if_neg c9]
  rw [e9]
  exact h
theorem V_min {idx : Nat} {x y : Int} (hd : decode q.2.1 pc = .ok (.invokestatic idx, 3)) (hw : Cond.methodLink q.1.cls idx Lib.Math.min.name ∈ mTbl ∧ Cond.static Lib.Math.min.name ∈ mTbl ∧ Cond.initialized "java/lang/Math" ∈ mTbl ∧ Cond.code Lib.Math.min.name Lib.Math.min.code 2 (some .int) ∈ mTbl) (h1 : 1 ≤ d) (hst : (st.map mCt).sum ≤ 8)
    (h : V d k q (pc + 3) ls (mI (if y < x then y else x) :: st) M Q) : V d k q pc ls (mI y :: mI x :: st) M Q := by
  intro g A p l e R s m args below meth c H locs cells slots cT sT Qf rls hC hM hl hlk hsk hr hE
  have hx : r32 x := mVk_h (mVk_t hsk)
  have hy : r32 y := mVk_h hsk
  have hz : r32 (if y < x then y else x) := by split <;> assumption
  have h := h g A p l e R s m args below meth c H locs cells slots cT sT Qf rls hC hM hl hlk (mVk_c hz (mVk_t (mVk_t hsk))) hr hE
  have hts := hC.2.2.2.2.1
  have hF := hC.2.2.2.2.2.2.1
  have hL := hC.2.2.2.2.2.2.2.1
  refine va_mmin hC.1 hC.2.1 (hC.2.2.1.trans hl.1.symm) hC.2.2.2.1 (hts _ hw.1) (hts _ hw.2.1) (hts _ hw.2.2.1) (hts _ hw.2.2.2) (by omega) (by rw [mCt_sum]; omega) (by omega) (by omega) hd ?_
  have e9 : (if Int32.ofInt y < Int32.ofInt x then Int32.ofInt y else Int32.ofInt x) = Int32.ofInt (if y < x then y else x) := by
    by_cases c9 : y < x
    · rw [if_pos ((i_lt hy hx).mpr c9), if_pos c9]
    · rw [if_neg (fun z => c9 ((i_lt hy hx).mp z)), if_neg c9]
  rw [e9]
  exact h
theorem mNfw : nativeFrameWords "java/lang/System" "arraycopy" 5 ≤ 100 := by decide +kernel
/-- System.arraycopy -/
theorem mCp_ne {M : mM} {n0 i0 n1 i1 cnt : Int} {k N1 : Nat} (hk : k ≠ N1) (hn : n1 = (N1 : Int)) (j : Int) : mCp M n0 i0 n1 i1 cnt k j = M k j := by
  unfold mCp
  rw [if_neg]
  omega
theorem mCp_fun {α : Type} {f : Int → α} {M : mM} {n0 i0 n1 i1 cnt : Int} (h0 : 0 ≤ i0) (h1 : 0 ≤ i1) (h2 : 0 ≤ cnt) : (fun j : Nat => f (mCp M n0 i0 n1 i1 cnt n1 j)) = va_cpy (fun j : Nat => f (M n0 j)) (fun j : Nat => f (M n1 j)) i0.toNat i1.toNat cnt.toNat := by
  funext j
  unfold mCp
  by_cases h : i1.toNat ≤ j ∧ j < i1.toNat + cnt.toNat
  · rw [pk_cpy_in h.1 h.2, if_pos (by omega)]
    congr 2
    omega
  · rw [pk_cpy_out (by omega), if_neg (by omega)]
theorem mOK_cp {M : mM} {n0 n1 k l0 l1 : Nat} {i0 i1 cnt : Int} (h : mOK M) (hk : k < 4) (hs0 : mShL[n0]? = some (k, l0)) (hs1 : mShL[n1]? = some (k, l1)) (h0 : 0 ≤ i0 ∧ i0 + cnt ≤ l0) (h1 : 0 ≤ i1 ∧ i1 + cnt ≤ l1) : mOK (mCp M n0 i0 n1 i1 cnt) := by
  intro n j kk hkk
  unfold mCp
  by_cases e : (n : Int) = n1 ∧ i1 ≤ (j : Int) ∧ (j : Int) < i1 + cnt
  · rw [if_pos e]
    have e1 : n = n1 := by omega
    subst e1
    rw [mEl_arr hs1 hk (by omega)] at hkk
    cases hkk
    obtain ⟨I, hI⟩ : ∃ I : Nat, i0 + ((j : Int) - i1) = I := ⟨(i0 + ((j : Int) - i1)).toNat, by omega⟩
    rw [hI]
    exact h n0 I k (mEl_arr hs0 hk (by omega))
  · rw [if_neg e]
    exact h n j kk hkk
theorem mRel_cp {g : mG} {A : Nat → Prop} {H0 H H1 : Heap} {locs locs1 : List Loc} {M : mM} {n0 n1 k l0 l1 : Nat} {i0 i1 cnt : Int} {e : va_E} (hM : mRel g A H0 M H locs) (hk : k < 4) (hs0 : mShL[n0]? = some (k, l0)) (hs1 : mShL[n1]? = some (k, l1)) (h0 : 0 ≤ i0 ∧ i0 + cnt ≤ l0) (h1 : 0 ≤ i1 ∧ i1 + cnt ≤ l1) (he : mEnt g.1 g.2.2.2.1 (mCp M n0 i0 n1 i1 cnt) n1 = e)
    (hP : va_P (g.2.1, g.2.2.1) vwCl ((mWd g.1 g.2.2.2.1 M).set n1 (g.1 + n1, e)) H1) (hD : va_D A ((mWd g.1 g.2.2.2.1 M).set n1 (g.1 + n1, e))) (hS : va_S A H0 H1 locs1) : mRel g A H0 (mCp M n0 i0 n1 i1 cnt) H1 locs1 := by
  have hw := mWd_set (b0 := g.1) (κ := g.2.2.2.1) (M := M) (M' := mCp M n0 i0 n1 i1 cnt) he (fun k hk => mEnt_ne (fun j' => mCp_ne hk rfl j'))
  rw [hw] at hP hD
  have hsc : ∀ i : Int, mCp M n0 i0 n1 i1 cnt (-1) i = M (-1) i := fun i => by
    unfold mCp
    rw [if_neg]
    omega
  refine ⟨hP, hD, hS, mOK_cp hM.2.2.2.1 hk hs0 hs1 h0 h1, ?_, fun i hi => ?_⟩
  · rw [hsc]; exact hM.2.2.2.2.1
  · rw [hsc]; exact hM.2.2.2.2.2 i hi
theorem V_copyI {idx l0 l1 : Nat} {n0 n1 sp dp cnt : Int} (hd : decode q.2.1 pc = .ok (.invokestatic idx, 3)) (hw : Cond.methodLink q.1.cls idx arraycopyName ∈ mTbl ∧ Cond.native arraycopyName ∈ mTbl ∧ Cond.static arraycopyName ∈ mTbl ∧ Cond.initialized "java/lang/System" ∈ mTbl) (hd2 : 2 ≤ d) (hst : (st.map mCt).sum ≤ 8)
    (h0 : 0 ≤ sp ∧ sp + cnt ≤ l0) (h1 : 0 ≤ dp ∧ dp + cnt ≤ l1) (h2 : 0 ≤ cnt) (h : V d k q (pc + 3) ls st (mCp M n0 sp n1 dp cnt) Q) : V d k q pc ls (mI cnt :: mI dp :: mR 0 l1 n1 :: mI sp :: mR 0 l0 n0 :: st) M Q := by
  intro g A p l e R s m args below meth c H locs cells slots cT sT Qf rls hC hM hl hlk hsk hr hE
  obtain ⟨a0, hs0⟩ : 0 ≤ n0 ∧ mShL[n0.toNat]? = some (0, l0) := mVk_h (mVk_t (mVk_t (mVk_t (mVk_t hsk))))
  obtain ⟨N0, rfl⟩ : ∃ N : Nat, n0 = N := ⟨n0.toNat, by omega⟩
  rw [Int.toNat_natCast] at hs0
  obtain ⟨a1, hs1⟩ : 0 ≤ n1 ∧ mShL[n1.toNat]? = some (0, l1) := mVk_h (mVk_t (mVk_t hsk))
  obtain ⟨N1, rfl⟩ : ∃ N : Nat, n1 = N := ⟨n1.toNat, by omega⟩
  rw [Int.toNat_natCast] at hs1
  have hg0 := mWd_get (b0 := g.1) (κ := g.2.2.2.1) (M := M) hs0
  rw [mEnt_i hs0] at hg0
  have hg1 := mWd_get (b0 := g.1) (κ := g.2.2.2.1) (M := M) hs1
  rw [mEnt_i hs1] at hg1
  have rc : r32 cnt := mVk_h hsk
  have rd : r32 dp := mVk_h (mVk_t hsk)
  have rs : r32 sp := mVk_h (mVk_t (mVk_t (mVk_t hsk)))
  have hts := hC.2.2.2.2.1
  have hF := hC.2.2.2.2.2.2.1
  have hL := hC.2.2.2.2.2.2.2.1
  have neg : ∀ {x : Int}, r32 x → 0 ≤ x → ¬ Int32.ofInt x < 0 := fun {x} hx h0 z => by
    have := (i_lt hx r32_0).mp z
    omega
  refine va_copyi (ty := .int) hC.1 hC.2.1 (hC.2.2.1.trans hl.1.symm) hC.2.2.2.1 (hts _ hw.1) (hts _ hw.2.1) (hts _ hw.2.2.1) (hts _ hw.2.2.2) hC.2.2.2.2.2.2.2.2.1 hM.1 hM.2.1 hM.2.2.1 N0 N1 0 0 hg0 hg1 rfl rfl rfl (neg rs h0.1) (neg rd h1.1) (neg rc h2) (by rw [i_nat rs h0.1, i_nat rc h2]; omega) (by rw [i_nat rd h1.1, i_nat rc h2]; omega) (fun _ _ => rfl) (by omega) (by rw [mCt_sum]; have e9 := mNfw; omega) hd (fun H1 locs1 hP1 hD1 hS1 => ?_)
  rw [i_nat rs h0.1, i_nat rd h1.1, i_nat rc h2] at hP1 hD1
  have hM1 : mRel g A s.heap (mCp M N0 sp N1 dp cnt) H1 locs1 := mRel_cp hM (by decide) hs0 hs1 h0 h1 (by rw [mEnt_i hs1, mCp_fun (f := Int32.ofInt) h0.1 h1.1 h2]) hP1 hD1 hS1
  exact h g A p l e R s m args below meth c H1 locs1 cells slots cT sT Qf rls hC hM1 hl hlk (mVk_t (mVk_t (mVk_t (mVk_t (mVk_t hsk))))) hr hE

theorem V_copyL {idx l0 l1 : Nat} {n0 n1 sp dp cnt : Int} (hd : decode q.2.1 pc = .ok (.invokestatic idx, 3)) (hw : Cond.methodLink q.1.cls idx arraycopyName ∈ mTbl ∧ Cond.native arraycopyName ∈ mTbl ∧ Cond.static arraycopyName ∈ mTbl ∧ Cond.initialized "java/lang/System" ∈ mTbl) (hd2 : 2 ≤ d) (hst : (st.map mCt).sum ≤ 8)
    (h0 : 0 ≤ sp ∧ sp + cnt ≤ l0) (h1 : 0 ≤ dp ∧ dp + cnt ≤ l1) (h2 : 0 ≤ cnt) (h : V d k q (pc + 3) ls st (mCp M n0 sp n1 dp cnt) Q) : V d k q pc ls (mI cnt :: mI dp :: mR 1 l1 n1 :: mI sp :: mR 1 l0 n0 :: st) M Q := by
  intro g A p l e R s m args below meth c H locs cells slots cT sT Qf rls hC hM hl hlk hsk hr hE
  obtain ⟨a0, hs0⟩ : 0 ≤ n0 ∧ mShL[n0.toNat]? = some (1, l0) := mVk_h (mVk_t (mVk_t (mVk_t (mVk_t hsk))))
  obtain ⟨N0, rfl⟩ : ∃ N : Nat, n0 = N := ⟨n0.toNat, by omega⟩
  rw [Int.toNat_natCast] at hs0
  obtain ⟨a1, hs1⟩ : 0 ≤ n1 ∧ mShL[n1.toNat]? = some (1, l1) := mVk_h (mVk_t (mVk_t hsk))
  obtain ⟨N1, rfl⟩ : ∃ N : Nat, n1 = N := ⟨n1.toNat, by omega⟩
  rw [Int.toNat_natCast] at hs1
  have hg0 := mWd_get (b0 := g.1) (κ := g.2.2.2.1) (M := M) hs0
  rw [mEnt_l hs0] at hg0
  have hg1 := mWd_get (b0 := g.1) (κ := g.2.2.2.1) (M := M) hs1
  rw [mEnt_l hs1] at hg1
  have rc : r32 cnt := mVk_h hsk
  have rd : r32 dp := mVk_h (mVk_t hsk)
  have rs : r32 sp := mVk_h (mVk_t (mVk_t (mVk_t hsk)))
  have hts := hC.2.2.2.2.1
  have hF := hC.2.2.2.2.2.2.1
  have hL := hC.2.2.2.2.2.2.2.1
  have neg : ∀ {x : Int}, r32 x → 0 ≤ x → ¬ Int32.ofInt x < 0 := fun {x} hx h0 z => by
    have := (i_lt hx r32_0).mp z
    omega
  refine va_copyl (ty := .long) hC.1 hC.2.1 (hC.2.2.1.trans hl.1.symm) hC.2.2.2.1 (hts _ hw.1) (hts _ hw.2.1) (hts _ hw.2.2.1) (hts _ hw.2.2.2) hC.2.2.2.2.2.2.2.2.1 hM.1 hM.2.1 hM.2.2.1 N0 N1 1 1 hg0 hg1 rfl rfl rfl (neg rs h0.1) (neg rd h1.1) (neg rc h2) (by rw [i_nat rs h0.1, i_nat rc h2]; omega) (by rw [i_nat rd h1.1, i_nat rc h2]; omega) (fun _ _ => rfl) (by omega) (by rw [mCt_sum]; have e9 := mNfw; omega) hd (fun H1 locs1 hP1 hD1 hS1 => ?_)
  rw [i_nat rs h0.1, i_nat rd h1.1, i_nat rc h2] at hP1 hD1
  have hM1 : mRel g A s.heap (mCp M N0 sp N1 dp cnt) H1 locs1 := mRel_cp hM (by decide) hs0 hs1 h0 h1 (by rw [mEnt_l hs1, mCp_fun (f := Int64.ofInt) h0.1 h1.1 h2]) hP1 hD1 hS1
  exact h g A p l e R s m args below meth c H1 locs1 cells slots cT sT Qf rls hC hM1 hl hlk (mVk_t (mVk_t (mVk_t (mVk_t (mVk_t hsk))))) hr hE

end CRules
