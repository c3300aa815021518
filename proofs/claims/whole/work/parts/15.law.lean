/-! the law's own: its script, and its helpers that catch -/
section LRules
variable {d k : Nat} {q : mMth} {pc : Nat} {ls st : List mV} {M : mM} {Q : mRes → mM → Prop}
theorem V_slen (hd : decode q.2.1 pc = .ok (.arraylength, 1)) (hL : M (-1) (-1) ≤ 3072) (h : V d k q (pc + 1) ls (mI (M (-1) (-1)) :: st) M Q) : V d k q pc ls (mE 2 :: st) M Q := by
  intro g A p l e R s m args below meth c H locs cells slots cT sT Qf rls hC hM hl hlk hsk hr hE
  have h1 := hM.2.2.2.2.1
  have h := h g A p l e R s m args below meth c H locs cells slots cT sT Qf rls hC hM hl hlk (mVk_c (show r32 (M (-1) (-1)) by rw [h1] at hL ⊢; omega) (mVk_t hsk)) hr hE
  have hX := hC.2.2.2.2.2.2.2.2.2.2.2.2.2.1
  refine va_slen hC.1 hC.2.1 hX.1 hX.2.1 hX.2.2 hM.2.2.1 hd ?_
  rw [show (Int32.ofNat g.2.2.2.2.2.2) = Int32.ofInt (M (-1) (-1)) by rw [h1]; rfl]
  exact h
theorem V_sld {i : Int} (hd : decode q.2.1 pc = .ok (.iaload, 1)) (hi : 0 ≤ i ∧ i < M (-1) (-1)) (h : V d k q (pc + 1) ls (mI (M (-1) i) :: st) M Q) : V d k q pc ls (mI i :: mE 2 :: st) M Q := by
  intro g A p l e R s m args below meth c H locs cells slots cT sT Qf rls hC hM hl hlk hsk hr hE
  have h1 := hM.2.2.2.2.1
  have h2 := hM.2.2.2.2.2 i.toNat (by rw [h1] at hi; omega)
  rw [show ((i.toNat : Nat) : Int) = i by omega] at h2
  have h := h g A p l e R s m args below meth c H locs cells slots cT sT Qf rls hC hM hl hlk (mVk_c (show r32 (M (-1) i) by rw [h2]; exact i_rg _) (mVk_t (mVk_t hsk))) hr hE
  have hX := hC.2.2.2.2.2.2.2.2.2.2.2.2.2.1
  refine va_sld hC.1 hC.2.1 hX.1 hX.2.1 hX.2.2 hM.2.2.1 (i_in (mVk_h hsk) (by rw [h1] at hi; exact hi)) hd ?_
  rw [i_nat (mVk_h hsk) hi.1, show g.2.2.2.2.2.1 i.toNat = Int32.ofInt (M (-1) i) by rw [h2, Int32.ofInt_toInt]]
  exact h
end LRules
/-- a helper as a callee: its words -/
abbrev mWh (q : mMth) (hh : List (Nat × Nat × Nat × Nat)) : List Cond := .codeWith q.1 q.2.1 q.2.2.1 q.2.2.2 hh :: mTbl
/-- how the helper q catches what the call at pcI throws -/
def mCat (d : Nat) (q : mMth) (hh : List (Nat × Nat × Nat × Nat)) (pcI : Nat) (ls : List mV) (E : Nat) (M' : mM) (Q : mRes → mM → Prop) : Prop :=
  ∃ (pre : List ExceptionTableEntry) (x : ExceptionTableEntry) (suf : List ExceptionTableEntry) (n : Nat) (ln : Nat), tableOf hh = pre ++ x :: suf ∧
    (∀ z ∈ pre, covers z pcI = false ∨ (z.catchType ≠ 0 ∧ E = 2 ∧ Cond.classLink q.1.cls z.catchType (mXn 1) ∈ mTbl)) ∧ covers x pcI = true ∧ x.catchType ≠ 0 ∧ Cond.classLink q.1.cls x.catchType (mXn E) ∈ mTbl ∧ Cond.castable (mXn E) (mXn E) ∈ lw_tbl ∧
    n < q.2.2.1 ∧ mFree ls n = true ∧ ls[n]? = some (mE 0) ∧ (decode q.2.1 x.handlerPc = .ok (.astore n, 2) ∧ ln = 2 ∨ ∃ i : Fin 4, (i : Nat) = n ∧ decode q.2.1 x.handlerPc = .ok (.astore_n i, 1) ∧ ln = 1) ∧ V d 0 q (x.handlerPc + ln) ls [] M' Q
theorem mSetE {g : mG} {ls : List mV} {n : Nat} (h : ls[n]? = some (mE 0)) : ∀ x ∈ mLv g ls, x.1 ≠ n := by
  rintro ⟨j, w⟩ hx e
  obtain ⟨v, hv, h0, -⟩ := mLv_mem.mp hx
  have e2 : j = n := e
  subst e2
  rw [h] at hv
  exact h0 (Option.some.inj hv).symm
set_option maxHeartbeats 1000000 in
theorem hlp {g : mG} {l : Launch} {sz d k : Nat} {q qo : mMth} {hh : List (Nat × Nat × Nat × Nat)} {pcI idx : Nat} {As Bs lso lsA : List mV} {M : mM} {Qo Qh : mRes → mM → Prop}
    (hpl : plainName q.1.cls = true) (hq : q.2.2.2 = some .int) (hqo : qo.2.2.2 = some .int) (hAs : ∀ v ∈ As, mVk v) (hln : (mFlat As).length ≤ q.2.2.1) (hlsA : mArg q.2.2.1 As = lsA)
    (hpre : ∀ (p : Program) (l : Launch) (e : Env) (R : Room) (s : State) (m : MethodId) (args : Array Value) (below : List Frame) (meth : Method) (c : Code) (H : Heap) (locs : List Loc) (cells slots : Nat) (Qf : State → Prop) (rls : Array Slot), p.tables.exec = Jvm.exec → c.code = q.2.1 → lv_has rls q.2.2.1 (mLv g lsA) →
      W p l e R s m args below meth c H locs cells slots Qf (F0 m pcI rls ((Bs.reverse ++ [mR 17 15 0, mI 0, mR 1 1 137]).map (mRv g))) → W p l e R s m args below meth c H locs cells slots Qf (F0 m 0 rls []))
    (hd : decode q.2.1 pcI = .ok (.invokevirtual idx, 3)) (hc : mCV q.1.cls idx qo 7 Bs.length) (hls : mArg qo.2.2.1 (mR 17 15 0 :: Bs) = lso) (hlo : (mFlat (mR 17 15 0 :: Bs)).length ≤ qo.2.2.1) (hBs : ∀ v ∈ Bs, mVk v)
    (ho : V d k qo 0 lso [] M Qo) (hret : ∀ (v : Int) (M' : mM), Qo (.inl (some (mI v))) M' → V (d + 1) 0 q (pcI + 3) lsA [mI v, mI 0, mR 1 1 137] M' Qh)
    (hcat : ∀ (E : Nat) (M' : mM), Qo (.inr E) M' → mCat (d + 1) q hh pcI lsA E M' Qh) (hQh : ∀ (E : Nat) (M' : mM), ¬ Qh (.inr E) M') :
    vx_Met l q.1 (mWh q hh) (mRm (d + 1) k) (mPc g l As M sz) (mQc g q sz Qh) (mXc g sz Qh) k (6 * k) (mA g sz) := by
  refine vx_ofWH (cc := q.2.1) (maxL := q.2.2.1) (ret := q.2.2.2) (hh := hh) hpl rfl ?_
  intro p e s m args below meth c s₁ B hml hv
  obtain ⟨rfl, hsz, ⟨hP, hok, hs1, hs2⟩, hK, hX⟩ := hv
  subst hsz
  have hts := atoms_spec (ws := mWh q hh) B.pre
  have htab : c.exceptionTable.toList = tableOf hh := vx_table (x := q.1) B (hts _ List.mem_cons_self)
  have hts : ∀ w ∈ mTbl, w.before (As.map (mRv g)).toArray s = true := fun w hw => hts w (List.mem_cons_of_mem _ hw)
  have hown : s.vm.findClass q.1.cls = some m.cls := findClass_of_methodNamed B.named
  have hlocks := B.notSynchronized
  have hr := B.returns
  have hx := B.exec
  have hb := B.bytes
  have hAz : ∀ x : Nat, s.heap.size ≤ x → mA g s.heap.size x := fun x hx => Or.inr hx
  have hS : va_S (mA g s.heap.size) s.heap s.heap [] := va_S.rf
  have hl := lv_entry (As.map (mRv g)) (n := q.2.2.1) (by rw [mFlat_len]; exact hln)
  rw [lg_entry_eq]
  have hl := hl.mono (mArg_lv (g := g) (nL := q.2.2.1) (As := As))
  have hlk := mArg_ok (nL := q.2.2.1) hAs
  rw [hlsA] at hl hlk
  generalize (lg_sl (As.map (mRv g)) ++ List.replicate (q.2.2.1 - (lg_sl (As.map (mRv g))).length) Slot.unset).toArray = rls at hl ⊢
  have hC : mCtx (d + 1) q g (mA g s.heap.size) p l (mRm (d + 1) k) s m (As.map (mRv g)).toArray meth c := ⟨hx, hb, hml, hown, hts, hlocks, Nat.le_refl _, Nat.le_refl _, hK, hAz, hX⟩
  have hM : mRel g (mA g s.heap.size) s.heap M s.heap [] := ⟨hP, mD_any (fun x hx => Or.inl hx), hS, hok, hs1, hs2⟩
  have hEnd : mEnd q g (mA g s.heap.size) p l e (mRm (d + 1) k) s m (As.map (mRv g)).toArray below meth c k (6 * k) (vx_MQ below (mQc g q s.heap.size Qh) (mXc g s.heap.size Qh) (As.map (mRv g)).toArray s k (6 * k) (mA g s.heap.size)) Qh := by
    refine ⟨?_, fun E M' _ _ _ _ _ _ _ hQ => absurd hQ (hQh E M'), fun E M' _ _ _ _ _ _ _ _ _ hQ => absurd hQ (hQh E M')⟩
    intro r M' H' locs' cells' slots' pc' rls' hQ hM' hout hc hs hdec
    refine vx_ret (W.widen (k := k) (n := 6 * k) hc hs ?_)
    have fin : ∀ t : State, t.heap = H' → mQc g q s.heap.size Qh ((As.map (mRv g)).toArray) s (.returned (r.map (mRv g))) t := fun t ht => ⟨⟨r, M', rfl, hQ, hout, by unfold mW1; rw [ht]; exact ⟨hM'.1, hM'.2.2.2⟩⟩, hM'.2.2.1.F ht⟩
    have hf := hM'.2.2.1.2.2
    rw [hq] at hout hdec hr
    match r, hout with
    | some (Sum.inl x), ho => exact W.zret hx hb hr (vp_nar_int _) (fun t ht _ => fin t ht) hf hdec
  refine hpre p l e _ s m _ below meth c s.heap [] 0 0 _ rls hx hb hl ?_
  have hskR : mVk (mR 17 15 0) := ⟨by decide, rfl⟩
  have hskO : mVk (mR 1 1 137) := ⟨by decide, rfl⟩
  obtain ⟨⟨T0, N0, hcl⟩, hlk1, hin1, hse1, hcm⟩ := hc
  have hmet := V_met (g := g) (l := l) (sz := s.heap.size) (As := mR 17 15 0 :: Bs) (by rw [hls]; exact ho) hcm.2.2.2.2.1 hlo (mVk_c hskR hBs)
  have hge := mWd_get (b0 := g.1) (κ := g.2.2.2.1) (M := M) (show mShL[0]? = some (7 + 10, 15) from rfl)
  rw [mEnt_o (show mShL[0]? = some (7 + 10, 15) from rfl)] at hge
  have hrun := vx_runV (p := p) (l := l) (e := e) (R := mRm (d + 1) k) (below := below) (meth := meth) (locs := []) (cells := 0) (slots := 0) (H := s.heap) (g := F0 m pcI rls ((Bs.reverse ++ [mR 17 15 0, mI 0, mR 1 1 137]).map (mRv g))) (rest := [mI 0, mR 1 1 137].map (mRv g)) (n := Bs.length) (C := qo.1.cls) (b := g.1 + 0) (As := Bs.map (mRv g)) ⟨hC.1, hC.2.1, hC.2.2.1, hC.2.2.2.1, hts⟩ hmet ⟨mCallB hts hlk1 hcm hC.2.2.2.2.2.2.1 hC.2.2.2.2.2.2.2.1 (Nat.le_refl _), hts _ hin1, hts _ hse1⟩
    ⟨mPc_blind, va_recv hC.2.2.2.2.2.2.2.2.1 hM.1 hcl hge, fun U hU hW => mPre hC hM (mR 17 15 0 :: Bs) hU hW⟩ rfl (by simp) hl.1 (by show List.map _ _ = _; simp [mRv, List.map_reverse]) (lv_room (Nat.le_of_ble_eq_true rfl)) hd ⟨Nat.le_of_eq (Nat.zero_add _), Nat.le_of_eq (Nat.zero_add _)⟩
  have hAA : ∀ x, x < s.heap.size → mA g s.heap.size x → mA g s.heap.size x := fun x _ hA => hA
  have hDA := mD_A hM.2.1
  intro T hT X
  rcases hrun T hT X with ⟨v, st₀, t, T', L, h0, X', hL, e1, e2, ⟨⟨r, M', hv, hQ, hout, hW1⟩, hF⟩, go⟩ | ⟨x, st₀, t, T', L, E, ce, h0, X', hL, e1, e2, ⟨⟨En, M', hEn, hQ, hW1⟩, hF⟩, hce, hcv, hcl9, go⟩
  · cases hv
    obtain ⟨k1, k2, k3⟩ := vx_keep h0 e1 hM.2.2.1 hAA (fun _ h => h) hL hF
    have hM1 : mRel g (mA g s.heap.size) s.heap M' T'.heap ([] ++ L) := ⟨by rw [e1]; exact hW1.1, mD_any (fun x hx => hDA x hx), k3, hW1.2⟩
    rw [hqo] at hout
    match r, hout, hQ, go with
    | some (Sum.inl x), ho9, hQ, go =>
      have h9 := hret x M' hQ g (mA g s.heap.size) p l e (mRm (d + 1) k) s m _ below meth c T'.heap ([] ++ L) (0 + k) (0 + 6 * k) k (6 * k) _ rls hC hM1 hl hlk (mVk_c ho9 (mVk_c r32_0 (mVk_c hskO mVk_n))) ⟨by omega, by omega, Nat.le_refl _, Nat.le_refl _⟩ hEnd
      obtain ⟨t2, a1, b1⟩ := h9 T' rfl X'
      exact ⟨t2, go t2 a1, b1⟩
  · subst hEn
    obtain ⟨k1, k2, k3⟩ := vx_keep h0 e1 hM.2.2.1 hAA (fun _ h => h) hL hF
    have hM1 : mRel g (mA g s.heap.size) s.heap M' T'.heap ([] ++ L) := ⟨by rw [e1]; exact hW1.1, mD_any (fun x hx => hDA x hx), k3, hW1.2⟩
    obtain ⟨pre, xt, suf, n, ln, c1, c2, c3, c4, c5, c6, c7, c8, c9, c10, c11⟩ := hcat En M' hQ
    have hst9 : lv_has rls q.2.2.1 (mLv g lsA) := hl
    have kk : ∀ rls2 : Array Slot, lv_has rls2 q.2.2.1 (mLv g lsA) → W p l e (mRm (d + 1) k) s m (As.map (mRv g)).toArray below meth c T'.heap ([] ++ L) (0 + k) (0 + 6 * k) (vx_MQ below (mQc g q s.heap.size Qh) (mXc g s.heap.size Qh) (As.map (mRv g)).toArray s k (6 * k) (mA g s.heap.size)) (F0 m (xt.handlerPc + ln) rls2 []) := fun rls2 hl2 =>
      c11 g (mA g s.heap.size) p l e (mRm (d + 1) k) s m _ below meth c T'.heap ([] ++ L) (0 + k) (0 + 6 * k) k (6 * k) _ rls2 hC hM1 hl2 hlk mVk_n ⟨by omega, by omega, Nat.le_refl _, Nat.le_refl _⟩ hEnd
    have hcat9 := vx_catch (p := p) (l := l) (e := e) (R := mRm (d + 1) k) (args := (As.map (mRv g)).toArray) (below := below) (meth := meth) (H := T'.heap) (locs := [] ++ L) (cells := 0 + k) (slots := 0 + 6 * k) (Q := vx_MQ below (mQc g q s.heap.size Qh) (mXc g s.heap.size Qh) (As.map (mRv g)).toArray s k (6 * k) (mA g s.heap.size)) (ls := rls) (rest := [mI 0, mR 1 1 137].map (mRv g)) (pc := pcI) (own := q.1.cls) (name := mXn En) (E := mXn En) (ce := ce) (q := x) hown pre xt suf (by rw [htab]; exact c1)
      (fun z hz => by
        rcases c2 z hz with h | ⟨h1, h2, h3⟩
        · exact Or.inl h
        · refine Or.inr ⟨h1, mXn 1, hts _ h3, ?_⟩
          rw [h2]
          exact hX.2.2.2.2.2.2.2.2.2) c3 c4 (hts _ c5) (va_Nw.use rfl (hX.2.2.2.2.2.2.2.2.1 _ c6 rfl)) (by rw [e1]; exact hce) hcv hcl9 (by
        rcases c10 with ⟨dd, rfl⟩ | ⟨i, rfl, dd, rfl⟩
        · refine lv_astore hx hb dd hl c7 rfl (fun rls2 hl2 => kk rls2 (hl2.mono (fun y hy => ?_)))
          exact List.mem_cons_of_mem _ (List.mem_filter.mpr ⟨hy, by
            obtain ⟨j, w⟩ := y
            have h1 : j ≠ n := mSetE c9 _ hy
            obtain ⟨u, hu, h0', rfl⟩ := mLv_mem.mp hy
            by_cases h2 : j + 1 = n
            · have h3 := mFree_ok (g := g) c8 hu h2
              simp [h1, h2, h3]
            · simp [h1, h2]⟩)
        · refine lv_astore_n hx hb dd rfl hl c7 rfl (fun rls2 hl2 => kk rls2 (hl2.mono (fun y hy => ?_)))
          exact List.mem_cons_of_mem _ (List.mem_filter.mpr ⟨hy, by
            obtain ⟨j, w⟩ := y
            have h1 : j ≠ (i : Nat) := mSetE c9 _ hy
            obtain ⟨u, hu, h0', rfl⟩ := mLv_mem.mp hy
            by_cases h2 : j + 1 = (i : Nat)
            · have h3 := mFree_ok (g := g) c8 hu h2
              simp [h1, h2, h3]
            · simp [h1, h2]⟩))
    obtain ⟨t2, a1, b1⟩ := hcat9 T' rfl X'
    exact ⟨t2, go.trans a1, b1⟩
/-- a helper's words as a static callee -/
def mCH (own : String) (idx : Nat) (q : mMth) (hh : List (Nat × Nat × Nat × Nat)) (n : Nat) : Prop := Cond.methodLink own idx q.1 ∈ mTbl ∧ Cond.static q.1 ∈ mTbl ∧ Cond.initialized q.1.cls ∈ mTbl ∧ Cond.codeWith q.1 q.2.1 q.2.2.1 q.2.2.2 hh ∈ mTbl ∧ (q.1.cls ≠ "java/lang/invoke/MethodHandle" ∧ q.1.cls ≠ "java/lang/invoke/VarHandle") ∧ (parseMethodDescriptor q.1.desc).map (fun d => d.parameters.length) = some n ∧ q.2.2.1 ≤ 45
theorem V_callH {d k d' k' : Nat} {q q' : mMth} {hh : List (Nat × Nat × Nat × Nat)} {pc idx : Nat} {ls st S : List mV} {M : mM} {Q : mRes → mM → Prop} (As : List mV) (hd : decode q.2.1 pc = .ok (.invokestatic idx, 3)) (hc : mCH q.1.cls idx q' hh As.length) (hS : S = As.reverse ++ st) (hst : (st.map mCt).sum ≤ 8) (hdd : d' + 1 ≤ d) (hk : k' ≤ k)
    (hm : ∀ (g : mG) (l : Launch) (sz : Nat), vx_Met l q'.1 (mWh q' hh) (mRm d' k') (mPc g l As M sz) (mQc g q' sz (mAft d (k - k') q (pc + 3) ls st Q)) (mXc g sz (mAft d (k - k') q (pc + 3) ls st Q)) k' (6 * k') (mA g sz)) : V d k q pc ls S M Q := by
  subst hS
  intro g A p l e R s m args below meth c H locs cells slots cT sT Qf rls hC hM hl hlk hsk hr hE
  have hskS : ∀ v ∈ st, mVk v := fun v hv => hsk v (List.mem_append_right _ hv)
  obtain ⟨w1, w2, w3, w4, w5, w6, w7⟩ := hc
  have hts := hC.2.2.2.2.1
  have hF := hC.2.2.2.2.2.2.1
  have hL := hC.2.2.2.2.2.2.2.1
  refine mCallEnd (q' := q') (S := (As.reverse ++ st).map (mRv g)) (a := (As.map (mRv g)).toArray) hC hM hl hlk hskS hr hE hk ?_
  exact vx_runSX (n := As.length) (As := As.map (mRv g)) (hh := hh) (bytes := q'.2.1) (maxL := q'.2.2.1) (ret := q'.2.2.2) ⟨hC.1, hC.2.1, hC.2.2.1, hC.2.2.2.1, hts⟩ (hm g l H.size)
    ⟨⟨rfl, rfl, by show d' + 1 ≤ _; omega, by show 8 + (_ + 11) + 64 * d' ≤ _; omega, fun w hw a' U hW => by
        rcases List.mem_cons.mp hw with rfl | hw
        · exact mTbl_warm hts _ w4 a' U hW
        · exact mTbl_warm hts w hw a' U hW, List.mem_cons_self⟩, hts _ w4, hts _ w3, w5, fun sig hs => by rw [hs] at w6; exact (Option.some.inj w6).symm, hts _ w1, hts _ w2⟩
    ⟨mPc_blind, fun U hU hW => mPre hC hM As hU hW⟩ rfl (by simp) hl.1 (by show List.map _ _ = _; simp [List.map_reverse]) (lv_room (by rw [mCt_sum]; exact hst)) hd ⟨by omega, by omega⟩
