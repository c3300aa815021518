/-! what a call never changes: the script -/
def sE (M M' : mM) : Prop := M' (-1) (-1) = M (-1) (-1) ∧ ∀ j : Int, 0 ≤ j → j < M (-1) (-1) → M' (-1) j = M (-1) j
theorem sE.tr {M M1 M2 : mM} (h : sE M M1) (h' : sE M1 M2) : sE M M2 := ⟨h'.1.trans h.1, fun j a b => (h'.2 j a (by rw [h.1]; exact b)).trans (h.2 j a b)⟩
theorem sE.o {M M1 : mM} {v : Int} (h : sE M M1) : sE M (mUp M1 137 0 v) := ⟨by rw [up_row (by omega)]; exact h.1, fun j a b => by rw [up_row (by omega)]; exact h.2 j a b⟩
theorem sE_of {g : mG} {A : Nat → Prop} {H0 H H' : Heap} {M M' : mM} {locs locs' : List Loc} (h : mRel g A H0 M H locs) (h' : mRel g A H0 M' H' locs') : sE M M' := by
  have a := h.2.2.2.2
  have b := h'.2.2.2.2
  refine ⟨b.1.trans a.1.symm, fun j h0 h1 => ?_⟩
  rw [a.1] at h1
  have h2 := a.2 j.toNat (by omega)
  have h3 := b.2 j.toNat (by omega)
  rw [show ((j.toNat : Nat) : Int) = j by omega] at h2 h3
  rw [h2, h3]
section ERules
variable {d k : Nat} {q : mMth} {pc : Nat} {ls st : List mV} {M : mM} {Q : mRes → mM → Prop}
theorem V_sE (h : V d k q pc ls st M (fun r M' => sE M M' → Q r M')) : V d k q pc ls st M Q := by
  intro g A p l e R s m args below meth c H locs cells slots cT sT Qf rls hC hM hl hlk hsk hr hE
  refine h g A p l e R s m args below meth c H locs cells slots cT sT Qf rls hC hM hl hlk hsk hr ⟨?_, ?_, ?_⟩
  · intro r M' H' locs' cells' slots' pc' rls' hQ hM' ho h1 h2 h3
    exact hE.1 r M' H' locs' cells' slots' pc' rls' (hQ (sE_of hM hM')) hM' ho h1 h2 h3
  · intro E M' H' locs' cells' slots' pc' rls' rst hQ hM' h1 h2 h3 h4 h5 h6 h7
    exact hE.2.1 E M' H' locs' cells' slots' pc' rls' rst (hQ (sE_of hM hM')) hM' h1 h2 h3 h4 h5 h6 h7
  · intro E M' H' locs' cells' slots' pc' rls' rst x ce hQ hM' h1 h2 h3 h4 h5
    exact hE.2.2 E M' H' locs' cells' slots' pc' rls' rst x ce (hQ (sE_of hM hM')) hM' h1 h2 h3 h4 h5
theorem V_mono {k' : Nat} (hk : k ≤ k') (h : V d k q pc ls st M Q) : V d k' q pc ls st M Q := by
  intro g A p l e R s m args below meth c H locs cells slots cT sT Qf rls hC hM hl hlk hsk hr hE
  exact h g A p l e R s m args below meth c H locs cells slots cT sT Qf rls hC hM hl hlk hsk ⟨by omega, by omega, hr.2.2.1, hr.2.2.2⟩ hE
/-- the script's numbers are ints, its length too -/
theorem V_scr (h : (∀ j : Int, 0 ≤ j → j < M (-1) (-1) → r32 (M (-1) j)) → 0 ≤ M (-1) (-1) → V d k q pc ls st M Q) : V d k q pc ls st M Q := by
  intro g A p l e R s m args below meth c H locs cells slots cT sT Qf rls hC hM hl hlk hsk hr hE
  have a := hM.2.2.2.2
  refine h (fun j h0 h1 => ?_) (by rw [a.1]; omega) g A p l e R s m args below meth c H locs cells slots cT sT Qf rls hC hM hl hlk hsk hr hE
  rw [a.1] at h1
  have h2 := a.2 j.toNat (by omega)
  rw [show ((j.toNat : Nat) : Int) = j by omega] at h2
  rw [h2]
  exact i_rg _
theorem V_callH2 {d' k' : Nat} {q' : mMth} {hh : List (Nat × Nat × Nat × Nat)} {idx : Nat} {S : List mV} (As : List mV) (hd : decode q.2.1 pc = .ok (.invokestatic idx, 3)) (hc : mCH q.1.cls idx q' hh As.length) (hS : S = As.reverse ++ st) (hst : (st.map mCt).sum ≤ 8) (hdd : d' + 1 ≤ d) (hk : k' ≤ k)
    (hm : ∀ (g : mG) (l : Launch) (sz : Nat), (∀ v ∈ As, mVk v) → vx_Met l q'.1 (mWh q' hh) (mRm d' k') (mPc g l As M sz) (mQc g q' sz (mAft d (k - k') q (pc + 3) ls st Q)) (mXc g sz (mAft d (k - k') q (pc + 3) ls st Q)) k' (6 * k') (mA g sz)) : V d k q pc ls S M Q := by
  intro g A p l e R s m args below meth c H locs cells slots cT sT Qf rls hC hM hl hlk hsk hr hE
  have hAs : ∀ v ∈ As, mVk v := fun v hv => hsk v (by rw [hS]; exact List.mem_append_left _ (List.mem_reverse.mpr hv))
  exact V_callH As hd hc hS hst hdd hk (fun g l sz => hm g l sz hAs) g A p l e R s m args below meth c H locs cells slots cT sT Qf rls hC hM hl hlk hsk hr hE
end ERules
/-- what follows behind a helper: the answer lies in out, or a number says what was thrown -/
def hAft (d k : Nat) (q : mMth) (pc : Nat) (ls st : List mV) (Q : mRes → mM → Prop) (f : Nat → Option Int) : mRes → mM → Prop
  | Sum.inl (some (Sum.inl v)), M' => V d k q pc ls (mI 0 :: st) (mUp M' 137 0 v) Q
  | Sum.inr E, M' => ∃ y, f E = some y ∧ V d k q pc ls (mI y :: st) M' Q
  | _, _ => False
def hf1 : Nat → Option Int := fun E => if E = 1 then some 1 else none
def hf2 : Nat → Option Int := fun E => if E = 2 then some 1 else none
def hf12 : Nat → Option Int := fun E => if E = 1 then some 1 else if E = 2 then some 2 else none
theorem hf1_s {E : Nat} {y : Int} (h : hf1 E = some y) : E = 1 ∧ y = 1 := by
  unfold hf1 at h
  split at h
  · exact ⟨by assumption, (Option.some.inj h).symm⟩
  · cases h
theorem hf2_s {E : Nat} {y : Int} (h : hf2 E = some y) : E = 2 ∧ y = 1 := by
  unfold hf2 at h
  split at h
  · exact ⟨by assumption, (Option.some.inj h).symm⟩
  · cases h
theorem hf12_s {E : Nat} {y : Int} (h : hf12 E = some y) : (E = 1 ∧ y = 1) ∨ (E = 2 ∧ y = 2) := by
  unfold hf12 at h
  split at h
  · exact Or.inl ⟨by assumption, (Option.some.inj h).symm⟩
  · split at h
    · exact Or.inr ⟨by assumption, (Option.some.inj h).symm⟩
    · cases h
abbrev hf_best := hf1
theorem mch_best : mCH "BinProverLaw" 145 qL_best [(0, 10, 13, 18)] 4 := ⟨mTbl_at 1033 (by decide +kernel) rfl, mTbl_at 1034 (by decide +kernel) rfl, mTbl_at 90 (by decide +kernel) rfl, mTbl_at 1035 (by decide +kernel) rfl, ⟨by decide +kernel, by decide +kernel⟩, by decide +kernel, by decide⟩
set_option maxHeartbeats 1000000 in
theorem VH_best {d k pc : Nat} {ls st : List mV} {M : mM} {Q : mRes → mM → Prop} {x1 x2 : Int} (hd : decode cL_law pc = .ok (.invokestatic 145, 3)) (hst : (st.map mCt).sum ≤ 8) (hQ : ∀ E M, ¬ Q (.inr E) M) (hk : 3 ≤ k) (h : V d 3 qX9_best 0 [mR 17 15 0, mI x1, mI x2, mE 0] [] M (hAft (d + 2) (k - 3) qL_law (pc + 3) ls st Q hf_best)) : V (d + 2) k qL_law pc ls (mR 1 1 137 :: mI x2 :: mI x1 :: mR 17 15 0 :: st) M Q := by
  refine V_callH2 (d' := d + 1) (k' := 3) [mR 17 15 0, mI x1, mI x2, mR 1 1 137] hd mch_best rfl hst (Nat.le_refl _) hk (fun g l sz hAs => ?_)
  refine hlp (Bs := [mI x1, mI x2]) (lso := [mR 17 15 0, mI x1, mI x2, mE 0]) (lsA := [mR 17 15 0, mI x1, mI x2, mR 1 1 137, mE 0]) (pcI := 5) (idx := 54) (by decide) rfl rfl hAs (Nat.le_of_ble_eq_true rfl) rfl ?_ dL_best_5 ml_L_54 rfl (Nat.le_of_ble_eq_true rfl) (fun v hv => hAs v (List.mem_cons_of_mem _ (List.mem_append_left [mR 1 1 137] hv))) h ?_ ?_ (fun E M' hq => hQ E M' hq)
  · intro p l e R s m args below meth c H locs cells slots Qf rls hx hb hl hw
    refine lv_aload_n hx hb dL_best_0 rfl (mLv_at (v := mR 1 1 137) hl rfl (fun h => by cases h)) ?_
    refine lv_iconst hx hb dL_best_1 rfl ?_
    refine lv_aload_n hx hb dL_best_2 rfl (mLv_at (v := mR 17 15 0) hl rfl (fun h => by cases h)) ?_
    refine lv_iload_n hx hb dL_best_3 rfl (mLv_at (v := mI x1) hl rfl (fun h => by cases h)) ?_
    refine lv_iload_n hx hb dL_best_4 rfl (mLv_at (v := mI x2) hl rfl (fun h => by cases h)) ?_
    exact hw
  · intro v M' hv
    exact V_i2l dL_best_8 (V_lastore dL_best_9 (by decide) (V_goto (tgt := 17) dL_best_10 rfl (V_iconst dL_best_17 (by decide) (V_iret dL_best_18 rfl hv))))
  · intro E M' hv
    obtain ⟨y, hy, hv⟩ := hv
    obtain ⟨rfl, rfl⟩ := hf1_s hy
    exact ⟨[], _, [], 4, 2, rfl, (fun _ h => nomatch h), rfl, by decide, mTbl_at 833 (by decide +kernel) rfl, List.mem_of_getElem? (i := 857) (by decide +kernel), by decide, rfl, rfl, Or.inl ⟨dL_best_13, rfl⟩, V_iconst dL_best_15 (by decide) (V_iret dL_best_16 rfl hv)⟩
abbrev hf_bin := hf1
theorem mch_bin : mCH "BinProverLaw" 115 qL_bin [(0, 10, 13, 18)] 4 := ⟨mTbl_at 892 (by decide +kernel) rfl, mTbl_at 893 (by decide +kernel) rfl, mTbl_at 90 (by decide +kernel) rfl, mTbl_at 894 (by decide +kernel) rfl, ⟨by decide +kernel, by decide +kernel⟩, by decide +kernel, by decide⟩
set_option maxHeartbeats 1000000 in
theorem VH_bin {d k pc : Nat} {ls st : List mV} {M : mM} {Q : mRes → mM → Prop} {x1 x2 : Int} (hd : decode cL_law pc = .ok (.invokestatic 115, 3)) (hst : (st.map mCt).sum ≤ 8) (hQ : ∀ E M, ¬ Q (.inr E) M) (hk : 3 ≤ k) (h : V d 3 qX9_bin 0 [mR 17 15 0, mI x1, mI x2] [] M (hAft (d + 2) (k - 3) qL_law (pc + 3) ls st Q hf_bin)) : V (d + 2) k qL_law pc ls (mR 1 1 137 :: mI x2 :: mI x1 :: mR 17 15 0 :: st) M Q := by
  refine V_callH2 (d' := d + 1) (k' := 3) [mR 17 15 0, mI x1, mI x2, mR 1 1 137] hd mch_bin rfl hst (Nat.le_refl _) hk (fun g l sz hAs => ?_)
  refine hlp (Bs := [mI x1, mI x2]) (lso := [mR 17 15 0, mI x1, mI x2]) (lsA := [mR 17 15 0, mI x1, mI x2, mR 1 1 137, mE 0]) (pcI := 5) (idx := 24) (by decide) rfl rfl hAs (Nat.le_of_ble_eq_true rfl) rfl ?_ dL_bin_5 ml_L_24 rfl (Nat.le_of_ble_eq_true rfl) (fun v hv => hAs v (List.mem_cons_of_mem _ (List.mem_append_left [mR 1 1 137] hv))) h ?_ ?_ (fun E M' hq => hQ E M' hq)
  · intro p l e R s m args below meth c H locs cells slots Qf rls hx hb hl hw
    refine lv_aload_n hx hb dL_bin_0 rfl (mLv_at (v := mR 1 1 137) hl rfl (fun h => by cases h)) ?_
    refine lv_iconst hx hb dL_bin_1 rfl ?_
    refine lv_aload_n hx hb dL_bin_2 rfl (mLv_at (v := mR 17 15 0) hl rfl (fun h => by cases h)) ?_
    refine lv_iload_n hx hb dL_bin_3 rfl (mLv_at (v := mI x1) hl rfl (fun h => by cases h)) ?_
    refine lv_iload_n hx hb dL_bin_4 rfl (mLv_at (v := mI x2) hl rfl (fun h => by cases h)) ?_
    exact hw
  · intro v M' hv
    exact V_i2l dL_bin_8 (V_lastore dL_bin_9 (by decide) (V_goto (tgt := 17) dL_bin_10 rfl (V_iconst dL_bin_17 (by decide) (V_iret dL_bin_18 rfl hv))))
  · intro E M' hv
    obtain ⟨y, hy, hv⟩ := hv
    obtain ⟨rfl, rfl⟩ := hf1_s hy
    exact ⟨[], _, [], 4, 2, rfl, (fun _ h => nomatch h), rfl, by decide, mTbl_at 833 (by decide +kernel) rfl, List.mem_of_getElem? (i := 857) (by decide +kernel), by decide, rfl, rfl, Or.inl ⟨dL_bin_13, rfl⟩, V_iconst dL_bin_15 (by decide) (V_iret dL_bin_16 rfl hv)⟩
abbrev hf_bound := hf1
theorem mch_bound : mCH "BinProverLaw" 127 qL_bound [(0, 9, 12, 18)] 3 := ⟨mTbl_at 933 (by decide +kernel) rfl, mTbl_at 934 (by decide +kernel) rfl, mTbl_at 90 (by decide +kernel) rfl, mTbl_at 935 (by decide +kernel) rfl, ⟨by decide +kernel, by decide +kernel⟩, by decide +kernel, by decide⟩
set_option maxHeartbeats 1000000 in
theorem VH_bound {d k pc : Nat} {ls st : List mV} {M : mM} {Q : mRes → mM → Prop} {x1 : Int} (hd : decode cL_law pc = .ok (.invokestatic 127, 3)) (hst : (st.map mCt).sum ≤ 8) (hQ : ∀ E M, ¬ Q (.inr E) M) (hk : 3 ≤ k) (h : V d 3 qX9_bound 0 [mR 17 15 0, mI x1, mE 0] [] M (hAft (d + 2) (k - 3) qL_law (pc + 3) ls st Q hf_bound)) : V (d + 2) k qL_law pc ls (mR 1 1 137 :: mI x1 :: mR 17 15 0 :: st) M Q := by
  refine V_callH2 (d' := d + 1) (k' := 3) [mR 17 15 0, mI x1, mR 1 1 137] hd mch_bound rfl hst (Nat.le_refl _) hk (fun g l sz hAs => ?_)
  refine hlp (Bs := [mI x1]) (lso := [mR 17 15 0, mI x1, mE 0]) (lsA := [mR 17 15 0, mI x1, mR 1 1 137, mE 0]) (pcI := 4) (idx := 36) (by decide) rfl rfl hAs (Nat.le_of_ble_eq_true rfl) rfl ?_ dL_bound_4 ml_L_36 rfl (Nat.le_of_ble_eq_true rfl) (fun v hv => hAs v (List.mem_cons_of_mem _ (List.mem_append_left [mR 1 1 137] hv))) h ?_ ?_ (fun E M' hq => hQ E M' hq)
  · intro p l e R s m args below meth c H locs cells slots Qf rls hx hb hl hw
    refine lv_aload_n hx hb dL_bound_0 rfl (mLv_at (v := mR 1 1 137) hl rfl (fun h => by cases h)) ?_
    refine lv_iconst hx hb dL_bound_1 rfl ?_
    refine lv_aload_n hx hb dL_bound_2 rfl (mLv_at (v := mR 17 15 0) hl rfl (fun h => by cases h)) ?_
    refine lv_iload_n hx hb dL_bound_3 rfl (mLv_at (v := mI x1) hl rfl (fun h => by cases h)) ?_
    exact hw
  · intro v M' hv
    exact V_i2l dL_bound_7 (V_lastore dL_bound_8 (by decide) (V_goto (tgt := 15) dL_bound_9 rfl (V_iconst dL_bound_15 (by decide) (V_iret dL_bound_16 rfl hv))))
  · intro E M' hv
    obtain ⟨y, hy, hv⟩ := hv
    obtain ⟨rfl, rfl⟩ := hf1_s hy
    exact ⟨[], _, [], 3, 1, rfl, (fun _ h => nomatch h), rfl, by decide, mTbl_at 833 (by decide +kernel) rfl, List.mem_of_getElem? (i := 857) (by decide +kernel), by decide, rfl, rfl, Or.inr ⟨3, rfl, dL_bound_12, rfl⟩, V_iconst dL_bound_13 (by decide) (V_iret dL_bound_14 rfl hv)⟩
abbrev hf_count := hf1
theorem mch_count : mCH "BinProverLaw" 108 qL_count [(0, 9, 12, 18)] 3 := ⟨mTbl_at 830 (by decide +kernel) rfl, mTbl_at 831 (by decide +kernel) rfl, mTbl_at 90 (by decide +kernel) rfl, mTbl_at 832 (by decide +kernel) rfl, ⟨by decide +kernel, by decide +kernel⟩, by decide +kernel, by decide⟩
set_option maxHeartbeats 1000000 in
theorem VH_count {d k pc : Nat} {ls st : List mV} {M : mM} {Q : mRes → mM → Prop} {x1 : Int} (hd : decode cL_law pc = .ok (.invokestatic 108, 3)) (hst : (st.map mCt).sum ≤ 8) (hQ : ∀ E M, ¬ Q (.inr E) M) (hk : 3 ≤ k) (h : V d 3 qX9_count 0 [mR 17 15 0, mI x1] [] M (hAft (d + 2) (k - 3) qL_law (pc + 3) ls st Q hf_count)) : V (d + 2) k qL_law pc ls (mR 1 1 137 :: mI x1 :: mR 17 15 0 :: st) M Q := by
  refine V_callH2 (d' := d + 1) (k' := 3) [mR 17 15 0, mI x1, mR 1 1 137] hd mch_count rfl hst (Nat.le_refl _) hk (fun g l sz hAs => ?_)
  refine hlp (Bs := [mI x1]) (lso := [mR 17 15 0, mI x1]) (lsA := [mR 17 15 0, mI x1, mR 1 1 137, mE 0]) (pcI := 4) (idx := 15) (by decide) rfl rfl hAs (Nat.le_of_ble_eq_true rfl) rfl ?_ dL_count_4 ml_L_15 rfl (Nat.le_of_ble_eq_true rfl) (fun v hv => hAs v (List.mem_cons_of_mem _ (List.mem_append_left [mR 1 1 137] hv))) h ?_ ?_ (fun E M' hq => hQ E M' hq)
  · intro p l e R s m args below meth c H locs cells slots Qf rls hx hb hl hw
    refine lv_aload_n hx hb dL_count_0 rfl (mLv_at (v := mR 1 1 137) hl rfl (fun h => by cases h)) ?_
    refine lv_iconst hx hb dL_count_1 rfl ?_
    refine lv_aload_n hx hb dL_count_2 rfl (mLv_at (v := mR 17 15 0) hl rfl (fun h => by cases h)) ?_
    refine lv_iload_n hx hb dL_count_3 rfl (mLv_at (v := mI x1) hl rfl (fun h => by cases h)) ?_
    exact hw
  · intro v M' hv
    exact V_i2l dL_count_7 (V_lastore dL_count_8 (by decide) (V_goto (tgt := 15) dL_count_9 rfl (V_iconst dL_count_15 (by decide) (V_iret dL_count_16 rfl hv))))
  · intro E M' hv
    obtain ⟨y, hy, hv⟩ := hv
    obtain ⟨rfl, rfl⟩ := hf1_s hy
    exact ⟨[], _, [], 3, 1, rfl, (fun _ h => nomatch h), rfl, by decide, mTbl_at 833 (by decide +kernel) rfl, List.mem_of_getElem? (i := 857) (by decide +kernel), by decide, rfl, rfl, Or.inr ⟨3, rfl, dL_count_12, rfl⟩, V_iconst dL_count_13 (by decide) (V_iret dL_count_14 rfl hv)⟩
abbrev hf_goods := hf2
theorem mch_goods : mCH "BinProverLaw" 94 qL_goods [(0, 9, 12, 13)] 3 := ⟨mTbl_at 639 (by decide +kernel) rfl, mTbl_at 640 (by decide +kernel) rfl, mTbl_at 90 (by decide +kernel) rfl, mTbl_at 641 (by decide +kernel) rfl, ⟨by decide +kernel, by decide +kernel⟩, by decide +kernel, by decide⟩
set_option maxHeartbeats 1000000 in
theorem VH_goods {d k pc : Nat} {ls st : List mV} {M : mM} {Q : mRes → mM → Prop} {x1 : Int} (hd : decode cL_law pc = .ok (.invokestatic 94, 3)) (hst : (st.map mCt).sum ≤ 8) (hQ : ∀ E M, ¬ Q (.inr E) M) (hk : 3 ≤ k) (h : V d 3 qX9_goods 0 [mR 17 15 0, mI x1, mE 0] [] M (hAft (d + 2) (k - 3) qL_law (pc + 3) ls st Q hf_goods)) : V (d + 2) k qL_law pc ls (mR 1 1 137 :: mI x1 :: mR 17 15 0 :: st) M Q := by
  refine V_callH2 (d' := d + 1) (k' := 3) [mR 17 15 0, mI x1, mR 1 1 137] hd mch_goods rfl hst (Nat.le_refl _) hk (fun g l sz hAs => ?_)
  refine hlp (Bs := [mI x1]) (lso := [mR 17 15 0, mI x1, mE 0]) (lsA := [mR 17 15 0, mI x1, mR 1 1 137, mE 0]) (pcI := 4) (idx := 7) (by decide) rfl rfl hAs (Nat.le_of_ble_eq_true rfl) rfl ?_ dL_goods_4 ml_L_7 rfl (Nat.le_of_ble_eq_true rfl) (fun v hv => hAs v (List.mem_cons_of_mem _ (List.mem_append_left [mR 1 1 137] hv))) h ?_ ?_ (fun E M' hq => hQ E M' hq)
  · intro p l e R s m args below meth c H locs cells slots Qf rls hx hb hl hw
    refine lv_aload_n hx hb dL_goods_0 rfl (mLv_at (v := mR 1 1 137) hl rfl (fun h => by cases h)) ?_
    refine lv_iconst hx hb dL_goods_1 rfl ?_
    refine lv_aload_n hx hb dL_goods_2 rfl (mLv_at (v := mR 17 15 0) hl rfl (fun h => by cases h)) ?_
    refine lv_iload_n hx hb dL_goods_3 rfl (mLv_at (v := mI x1) hl rfl (fun h => by cases h)) ?_
    exact hw
  · intro v M' hv
    exact V_i2l dL_goods_7 (V_lastore dL_goods_8 (by decide) (V_goto (tgt := 15) dL_goods_9 rfl (V_iconst dL_goods_15 (by decide) (V_iret dL_goods_16 rfl hv))))
  · intro E M' hv
    obtain ⟨y, hy, hv⟩ := hv
    obtain ⟨rfl, rfl⟩ := hf2_s hy
    exact ⟨[], _, [], 3, 1, rfl, (fun _ h => nomatch h), rfl, by decide, mTbl_at 642 (by decide +kernel) rfl, List.mem_of_getElem? (i := 649) (by decide +kernel), by decide, rfl, rfl, Or.inr ⟨3, rfl, dL_goods_12, rfl⟩, V_iconst dL_goods_13 (by decide) (V_iret dL_goods_14 rfl hv)⟩
abbrev hf_guaranteed := hf1
theorem mch_guaranteed : mCH "BinProverLaw" 124 qL_guaranteed [(0, 9, 12, 18)] 3 := ⟨mTbl_at 925 (by decide +kernel) rfl, mTbl_at 926 (by decide +kernel) rfl, mTbl_at 90 (by decide +kernel) rfl, mTbl_at 927 (by decide +kernel) rfl, ⟨by decide +kernel, by decide +kernel⟩, by decide +kernel, by decide⟩
set_option maxHeartbeats 1000000 in
theorem VH_guaranteed {d k pc : Nat} {ls st : List mV} {M : mM} {Q : mRes → mM → Prop} {x1 : Int} (hd : decode cL_law pc = .ok (.invokestatic 124, 3)) (hst : (st.map mCt).sum ≤ 8) (hQ : ∀ E M, ¬ Q (.inr E) M) (hk : 3 ≤ k) (h : V d 3 qX9_guaranteed 0 [mR 17 15 0, mI x1, mE 0, mE 0] [] M (hAft (d + 2) (k - 3) qL_law (pc + 3) ls st Q hf_guaranteed)) : V (d + 2) k qL_law pc ls (mR 1 1 137 :: mI x1 :: mR 17 15 0 :: st) M Q := by
  refine V_callH2 (d' := d + 1) (k' := 3) [mR 17 15 0, mI x1, mR 1 1 137] hd mch_guaranteed rfl hst (Nat.le_refl _) hk (fun g l sz hAs => ?_)
  refine hlp (Bs := [mI x1]) (lso := [mR 17 15 0, mI x1, mE 0, mE 0]) (lsA := [mR 17 15 0, mI x1, mR 1 1 137, mE 0]) (pcI := 4) (idx := 33) (by decide) rfl rfl hAs (Nat.le_of_ble_eq_true rfl) rfl ?_ dL_guaranteed_4 ml_L_33 rfl (Nat.le_of_ble_eq_true rfl) (fun v hv => hAs v (List.mem_cons_of_mem _ (List.mem_append_left [mR 1 1 137] hv))) h ?_ ?_ (fun E M' hq => hQ E M' hq)
  · intro p l e R s m args below meth c H locs cells slots Qf rls hx hb hl hw
    refine lv_aload_n hx hb dL_guaranteed_0 rfl (mLv_at (v := mR 1 1 137) hl rfl (fun h => by cases h)) ?_
    refine lv_iconst hx hb dL_guaranteed_1 rfl ?_
    refine lv_aload_n hx hb dL_guaranteed_2 rfl (mLv_at (v := mR 17 15 0) hl rfl (fun h => by cases h)) ?_
    refine lv_iload_n hx hb dL_guaranteed_3 rfl (mLv_at (v := mI x1) hl rfl (fun h => by cases h)) ?_
    exact hw
  · intro v M' hv
    exact V_i2l dL_guaranteed_7 (V_lastore dL_guaranteed_8 (by decide) (V_goto (tgt := 15) dL_guaranteed_9 rfl (V_iconst dL_guaranteed_15 (by decide) (V_iret dL_guaranteed_16 rfl hv))))
  · intro E M' hv
    obtain ⟨y, hy, hv⟩ := hv
    obtain ⟨rfl, rfl⟩ := hf1_s hy
    exact ⟨[], _, [], 3, 1, rfl, (fun _ h => nomatch h), rfl, by decide, mTbl_at 833 (by decide +kernel) rfl, List.mem_of_getElem? (i := 857) (by decide +kernel), by decide, rfl, rfl, Or.inr ⟨3, rfl, dL_guaranteed_12, rfl⟩, V_iconst dL_guaranteed_13 (by decide) (V_iret dL_guaranteed_14 rfl hv)⟩
abbrev hf_high := hf1
theorem mch_high : mCH "BinProverLaw" 151 qL_high [(0, 10, 13, 18)] 4 := ⟨mTbl_at 1065 (by decide +kernel) rfl, mTbl_at 1066 (by decide +kernel) rfl, mTbl_at 90 (by decide +kernel) rfl, mTbl_at 1067 (by decide +kernel) rfl, ⟨by decide +kernel, by decide +kernel⟩, by decide +kernel, by decide⟩
set_option maxHeartbeats 1000000 in
theorem VH_high {d k pc : Nat} {ls st : List mV} {M : mM} {Q : mRes → mM → Prop} {x1 x2 : Int} (hd : decode cL_law pc = .ok (.invokestatic 151, 3)) (hst : (st.map mCt).sum ≤ 8) (hQ : ∀ E M, ¬ Q (.inr E) M) (hk : 3 ≤ k) (h : V d 3 qX9_high 0 [mR 17 15 0, mI x1, mI x2, mE 0] [] M (hAft (d + 2) (k - 3) qL_law (pc + 3) ls st Q hf_high)) : V (d + 2) k qL_law pc ls (mR 1 1 137 :: mI x2 :: mI x1 :: mR 17 15 0 :: st) M Q := by
  refine V_callH2 (d' := d + 1) (k' := 3) [mR 17 15 0, mI x1, mI x2, mR 1 1 137] hd mch_high rfl hst (Nat.le_refl _) hk (fun g l sz hAs => ?_)
  refine hlp (Bs := [mI x1, mI x2]) (lso := [mR 17 15 0, mI x1, mI x2, mE 0]) (lsA := [mR 17 15 0, mI x1, mI x2, mR 1 1 137, mE 0]) (pcI := 5) (idx := 60) (by decide) rfl rfl hAs (Nat.le_of_ble_eq_true rfl) rfl ?_ dL_high_5 ml_L_60 rfl (Nat.le_of_ble_eq_true rfl) (fun v hv => hAs v (List.mem_cons_of_mem _ (List.mem_append_left [mR 1 1 137] hv))) h ?_ ?_ (fun E M' hq => hQ E M' hq)
  · intro p l e R s m args below meth c H locs cells slots Qf rls hx hb hl hw
    refine lv_aload_n hx hb dL_high_0 rfl (mLv_at (v := mR 1 1 137) hl rfl (fun h => by cases h)) ?_
    refine lv_iconst hx hb dL_high_1 rfl ?_
    refine lv_aload_n hx hb dL_high_2 rfl (mLv_at (v := mR 17 15 0) hl rfl (fun h => by cases h)) ?_
    refine lv_iload_n hx hb dL_high_3 rfl (mLv_at (v := mI x1) hl rfl (fun h => by cases h)) ?_
    refine lv_iload_n hx hb dL_high_4 rfl (mLv_at (v := mI x2) hl rfl (fun h => by cases h)) ?_
    exact hw
  · intro v M' hv
    exact V_i2l dL_high_8 (V_lastore dL_high_9 (by decide) (V_goto (tgt := 17) dL_high_10 rfl (V_iconst dL_high_17 (by decide) (V_iret dL_high_18 rfl hv))))
  · intro E M' hv
    obtain ⟨y, hy, hv⟩ := hv
    obtain ⟨rfl, rfl⟩ := hf1_s hy
    exact ⟨[], _, [], 4, 2, rfl, (fun _ h => nomatch h), rfl, by decide, mTbl_at 833 (by decide +kernel) rfl, List.mem_of_getElem? (i := 857) (by decide +kernel), by decide, rfl, rfl, Or.inl ⟨dL_high_13, rfl⟩, V_iconst dL_high_15 (by decide) (V_iret dL_high_16 rfl hv)⟩
abbrev hf_into := hf1
theorem mch_into : mCH "BinProverLaw" 121 qL_into [(0, 10, 13, 18)] 4 := ⟨mTbl_at 917 (by decide +kernel) rfl, mTbl_at 918 (by decide +kernel) rfl, mTbl_at 90 (by decide +kernel) rfl, mTbl_at 919 (by decide +kernel) rfl, ⟨by decide +kernel, by decide +kernel⟩, by decide +kernel, by decide⟩
set_option maxHeartbeats 1000000 in
theorem VH_into {d k pc : Nat} {ls st : List mV} {M : mM} {Q : mRes → mM → Prop} {x1 x2 : Int} (hd : decode cL_law pc = .ok (.invokestatic 121, 3)) (hst : (st.map mCt).sum ≤ 8) (hQ : ∀ E M, ¬ Q (.inr E) M) (hk : 3 ≤ k) (h : V d 3 qX9_into 0 [mR 17 15 0, mI x1, mI x2] [] M (hAft (d + 2) (k - 3) qL_law (pc + 3) ls st Q hf_into)) : V (d + 2) k qL_law pc ls (mR 1 1 137 :: mI x2 :: mI x1 :: mR 17 15 0 :: st) M Q := by
  refine V_callH2 (d' := d + 1) (k' := 3) [mR 17 15 0, mI x1, mI x2, mR 1 1 137] hd mch_into rfl hst (Nat.le_refl _) hk (fun g l sz hAs => ?_)
  refine hlp (Bs := [mI x1, mI x2]) (lso := [mR 17 15 0, mI x1, mI x2]) (lsA := [mR 17 15 0, mI x1, mI x2, mR 1 1 137, mE 0]) (pcI := 5) (idx := 30) (by decide) rfl rfl hAs (Nat.le_of_ble_eq_true rfl) rfl ?_ dL_into_5 ml_L_30 rfl (Nat.le_of_ble_eq_true rfl) (fun v hv => hAs v (List.mem_cons_of_mem _ (List.mem_append_left [mR 1 1 137] hv))) h ?_ ?_ (fun E M' hq => hQ E M' hq)
  · intro p l e R s m args below meth c H locs cells slots Qf rls hx hb hl hw
    refine lv_aload_n hx hb dL_into_0 rfl (mLv_at (v := mR 1 1 137) hl rfl (fun h => by cases h)) ?_
    refine lv_iconst hx hb dL_into_1 rfl ?_
    refine lv_aload_n hx hb dL_into_2 rfl (mLv_at (v := mR 17 15 0) hl rfl (fun h => by cases h)) ?_
    refine lv_iload_n hx hb dL_into_3 rfl (mLv_at (v := mI x1) hl rfl (fun h => by cases h)) ?_
    refine lv_iload_n hx hb dL_into_4 rfl (mLv_at (v := mI x2) hl rfl (fun h => by cases h)) ?_
    exact hw
  · intro v M' hv
    exact V_i2l dL_into_8 (V_lastore dL_into_9 (by decide) (V_goto (tgt := 17) dL_into_10 rfl (V_iconst dL_into_17 (by decide) (V_iret dL_into_18 rfl hv))))
  · intro E M' hv
    obtain ⟨y, hy, hv⟩ := hv
    obtain ⟨rfl, rfl⟩ := hf1_s hy
    exact ⟨[], _, [], 4, 2, rfl, (fun _ h => nomatch h), rfl, by decide, mTbl_at 833 (by decide +kernel) rfl, List.mem_of_getElem? (i := 857) (by decide +kernel), by decide, rfl, rfl, Or.inl ⟨dL_into_13, rfl⟩, V_iconst dL_into_15 (by decide) (V_iret dL_into_16 rfl hv)⟩
abbrev hf_look := hf1
theorem mch_look : mCH "BinProverLaw" 198 qL_look [(0, 9, 12, 18)] 3 := ⟨mTbl_at 1143 (by decide +kernel) rfl, mTbl_at 1144 (by decide +kernel) rfl, mTbl_at 90 (by decide +kernel) rfl, mTbl_at 1145 (by decide +kernel) rfl, ⟨by decide +kernel, by decide +kernel⟩, by decide +kernel, by decide⟩
set_option maxHeartbeats 1000000 in
theorem VH_look {d k pc : Nat} {ls st : List mV} {M : mM} {Q : mRes → mM → Prop} {x1 : Int} (hd : decode cL_law pc = .ok (.invokestatic 198, 3)) (hst : (st.map mCt).sum ≤ 8) (hQ : ∀ E M, ¬ Q (.inr E) M) (hk : 3 ≤ k) (h : V d 3 qX9_look 0 [mR 17 15 0, mI x1, mE 0] [] M (hAft (d + 2) (k - 3) qL_law (pc + 3) ls st Q hf_look)) : V (d + 2) k qL_law pc ls (mR 1 1 137 :: mI x1 :: mR 17 15 0 :: st) M Q := by
  refine V_callH2 (d' := d + 1) (k' := 3) [mR 17 15 0, mI x1, mR 1 1 137] hd mch_look rfl hst (Nat.le_refl _) hk (fun g l sz hAs => ?_)
  refine hlp (Bs := [mI x1]) (lso := [mR 17 15 0, mI x1, mE 0]) (lsA := [mR 17 15 0, mI x1, mR 1 1 137, mE 0]) (pcI := 4) (idx := 75) (by decide) rfl rfl hAs (Nat.le_of_ble_eq_true rfl) rfl ?_ dL_look_4 ml_L_75 rfl (Nat.le_of_ble_eq_true rfl) (fun v hv => hAs v (List.mem_cons_of_mem _ (List.mem_append_left [mR 1 1 137] hv))) h ?_ ?_ (fun E M' hq => hQ E M' hq)
  · intro p l e R s m args below meth c H locs cells slots Qf rls hx hb hl hw
    refine lv_aload_n hx hb dL_look_0 rfl (mLv_at (v := mR 1 1 137) hl rfl (fun h => by cases h)) ?_
    refine lv_iconst hx hb dL_look_1 rfl ?_
    refine lv_aload_n hx hb dL_look_2 rfl (mLv_at (v := mR 17 15 0) hl rfl (fun h => by cases h)) ?_
    refine lv_iload_n hx hb dL_look_3 rfl (mLv_at (v := mI x1) hl rfl (fun h => by cases h)) ?_
    exact hw
  · intro v M' hv
    exact V_i2l dL_look_7 (V_lastore dL_look_8 (by decide) (V_goto (tgt := 15) dL_look_9 rfl (V_iconst dL_look_15 (by decide) (V_iret dL_look_16 rfl hv))))
  · intro E M' hv
    obtain ⟨y, hy, hv⟩ := hv
    obtain ⟨rfl, rfl⟩ := hf1_s hy
    exact ⟨[], _, [], 3, 1, rfl, (fun _ h => nomatch h), rfl, by decide, mTbl_at 833 (by decide +kernel) rfl, List.mem_of_getElem? (i := 857) (by decide +kernel), by decide, rfl, rfl, Or.inr ⟨3, rfl, dL_look_12, rfl⟩, V_iconst dL_look_13 (by decide) (V_iret dL_look_14 rfl hv)⟩
abbrev hf_net := hf1
theorem mch_net : mCH "BinProverLaw" 148 qL_net [(0, 9, 12, 18)] 3 := ⟨mTbl_at 1041 (by decide +kernel) rfl, mTbl_at 1042 (by decide +kernel) rfl, mTbl_at 90 (by decide +kernel) rfl, mTbl_at 1043 (by decide +kernel) rfl, ⟨by decide +kernel, by decide +kernel⟩, by decide +kernel, by decide⟩
set_option maxHeartbeats 1000000 in
theorem VH_net {d k pc : Nat} {ls st : List mV} {M : mM} {Q : mRes → mM → Prop} {x1 : Int} (hd : decode cL_law pc = .ok (.invokestatic 148, 3)) (hst : (st.map mCt).sum ≤ 8) (hQ : ∀ E M, ¬ Q (.inr E) M) (hk : 3 ≤ k) (h : V d 3 qX9_net 0 [mR 17 15 0, mI x1, mE 0, mE 0] [] M (hAft (d + 2) (k - 3) qL_law (pc + 3) ls st Q hf_net)) : V (d + 2) k qL_law pc ls (mR 1 1 137 :: mI x1 :: mR 17 15 0 :: st) M Q := by
  refine V_callH2 (d' := d + 1) (k' := 3) [mR 17 15 0, mI x1, mR 1 1 137] hd mch_net rfl hst (Nat.le_refl _) hk (fun g l sz hAs => ?_)
  refine hlp (Bs := [mI x1]) (lso := [mR 17 15 0, mI x1, mE 0, mE 0]) (lsA := [mR 17 15 0, mI x1, mR 1 1 137, mE 0]) (pcI := 4) (idx := 57) (by decide) rfl rfl hAs (Nat.le_of_ble_eq_true rfl) rfl ?_ dL_net_4 ml_L_57 rfl (Nat.le_of_ble_eq_true rfl) (fun v hv => hAs v (List.mem_cons_of_mem _ (List.mem_append_left [mR 1 1 137] hv))) h ?_ ?_ (fun E M' hq => hQ E M' hq)
  · intro p l e R s m args below meth c H locs cells slots Qf rls hx hb hl hw
    refine lv_aload_n hx hb dL_net_0 rfl (mLv_at (v := mR 1 1 137) hl rfl (fun h => by cases h)) ?_
    refine lv_iconst hx hb dL_net_1 rfl ?_
    refine lv_aload_n hx hb dL_net_2 rfl (mLv_at (v := mR 17 15 0) hl rfl (fun h => by cases h)) ?_
    refine lv_iload_n hx hb dL_net_3 rfl (mLv_at (v := mI x1) hl rfl (fun h => by cases h)) ?_
    exact hw
  · intro v M' hv
    exact V_i2l dL_net_7 (V_lastore dL_net_8 (by decide) (V_goto (tgt := 15) dL_net_9 rfl (V_iconst dL_net_15 (by decide) (V_iret dL_net_16 rfl hv))))
  · intro E M' hv
    obtain ⟨y, hy, hv⟩ := hv
    obtain ⟨rfl, rfl⟩ := hf1_s hy
    exact ⟨[], _, [], 3, 1, rfl, (fun _ h => nomatch h), rfl, by decide, mTbl_at 833 (by decide +kernel) rfl, List.mem_of_getElem? (i := 857) (by decide +kernel), by decide, rfl, rfl, Or.inr ⟨3, rfl, dL_net_12, rfl⟩, V_iconst dL_net_13 (by decide) (V_iret dL_net_14 rfl hv)⟩
abbrev hf_odds := hf12
theorem mch_odds : mCH "BinProverLaw" 205 qL_odds [(0, 10, 13, 18), (0, 10, 17, 13)] 4 := ⟨mTbl_at 1166 (by decide +kernel) rfl, mTbl_at 1167 (by decide +kernel) rfl, mTbl_at 90 (by decide +kernel) rfl, mTbl_at 1168 (by decide +kernel) rfl, ⟨by decide +kernel, by decide +kernel⟩, by decide +kernel, by decide⟩
set_option maxHeartbeats 1000000 in
theorem VH_odds {d k pc : Nat} {ls st : List mV} {M : mM} {Q : mRes → mM → Prop} {x1 x2 : Int} (hd : decode cL_law pc = .ok (.invokestatic 205, 3)) (hst : (st.map mCt).sum ≤ 8) (hQ : ∀ E M, ¬ Q (.inr E) M) (hk : 3 ≤ k) (h : V d 3 qX9_odds 0 [mR 17 15 0, mI x1, mI x2, mE 0, mE 0, mE 0, mE 0, mE 0, mE 0] [] M (hAft (d + 2) (k - 3) qL_law (pc + 3) ls st Q hf_odds)) : V (d + 2) k qL_law pc ls (mR 1 1 137 :: mI x2 :: mI x1 :: mR 17 15 0 :: st) M Q := by
  refine V_callH2 (d' := d + 1) (k' := 3) [mR 17 15 0, mI x1, mI x2, mR 1 1 137] hd mch_odds rfl hst (Nat.le_refl _) hk (fun g l sz hAs => ?_)
  refine hlp (Bs := [mI x1, mI x2]) (lso := [mR 17 15 0, mI x1, mI x2, mE 0, mE 0, mE 0, mE 0, mE 0, mE 0]) (lsA := [mR 17 15 0, mI x1, mI x2, mR 1 1 137, mE 0]) (pcI := 5) (idx := 78) (by decide) rfl rfl hAs (Nat.le_of_ble_eq_true rfl) rfl ?_ dL_odds_5 ml_L_78 rfl (Nat.le_of_ble_eq_true rfl) (fun v hv => hAs v (List.mem_cons_of_mem _ (List.mem_append_left [mR 1 1 137] hv))) h ?_ ?_ (fun E M' hq => hQ E M' hq)
  · intro p l e R s m args below meth c H locs cells slots Qf rls hx hb hl hw
    refine lv_aload_n hx hb dL_odds_0 rfl (mLv_at (v := mR 1 1 137) hl rfl (fun h => by cases h)) ?_
    refine lv_iconst hx hb dL_odds_1 rfl ?_
    refine lv_aload_n hx hb dL_odds_2 rfl (mLv_at (v := mR 17 15 0) hl rfl (fun h => by cases h)) ?_
    refine lv_iload_n hx hb dL_odds_3 rfl (mLv_at (v := mI x1) hl rfl (fun h => by cases h)) ?_
    refine lv_iload_n hx hb dL_odds_4 rfl (mLv_at (v := mI x2) hl rfl (fun h => by cases h)) ?_
    exact hw
  · intro v M' hv
    exact V_i2l dL_odds_8 (V_lastore dL_odds_9 (by decide) (V_goto (tgt := 21) dL_odds_10 rfl (V_iconst dL_odds_21 (by decide) (V_iret dL_odds_22 rfl hv))))
  · intro E M' hv
    obtain ⟨y, hy, hv⟩ := hv
    rcases hf12_s hy with ⟨rfl, rfl⟩ | ⟨rfl, rfl⟩
    · exact ⟨[], _, [_], 4, 2, rfl, (fun _ h => nomatch h), rfl, by decide, mTbl_at 833 (by decide +kernel) rfl, List.mem_of_getElem? (i := 857) (by decide +kernel), by decide, rfl, rfl, Or.inl ⟨dL_odds_13, rfl⟩, V_iconst dL_odds_15 (by decide) (V_iret dL_odds_16 rfl hv)⟩
    · exact ⟨[_], _, [], 4, 2, rfl, (fun z hz => Or.inr (by
        have e := List.mem_singleton.mp hz
        subst e
        exact ⟨by decide, rfl, mTbl_at 833 (by decide +kernel) rfl⟩)), rfl, by decide, mTbl_at 642 (by decide +kernel) rfl, List.mem_of_getElem? (i := 649) (by decide +kernel), by decide, rfl, rfl, Or.inl ⟨dL_odds_17, rfl⟩, V_iconst dL_odds_19 (by decide) (V_iret dL_odds_20 rfl hv)⟩
abbrev hf_other := hf1
theorem mch_other : mCH "BinProverLaw" 195 qL_other [(0, 9, 12, 18)] 3 := ⟨mTbl_at 1112 (by decide +kernel) rfl, mTbl_at 1113 (by decide +kernel) rfl, mTbl_at 90 (by decide +kernel) rfl, mTbl_at 1114 (by decide +kernel) rfl, ⟨by decide +kernel, by decide +kernel⟩, by decide +kernel, by decide⟩
set_option maxHeartbeats 1000000 in
theorem VH_other {d k pc : Nat} {ls st : List mV} {M : mM} {Q : mRes → mM → Prop} {x1 : Int} (hd : decode cL_law pc = .ok (.invokestatic 195, 3)) (hst : (st.map mCt).sum ≤ 8) (hQ : ∀ E M, ¬ Q (.inr E) M) (hk : 3 ≤ k) (h : V d 3 qX9_other 0 [mR 17 15 0, mI x1, mE 0] [] M (hAft (d + 2) (k - 3) qL_law (pc + 3) ls st Q hf_other)) : V (d + 2) k qL_law pc ls (mR 1 1 137 :: mI x1 :: mR 17 15 0 :: st) M Q := by
  refine V_callH2 (d' := d + 1) (k' := 3) [mR 17 15 0, mI x1, mR 1 1 137] hd mch_other rfl hst (Nat.le_refl _) hk (fun g l sz hAs => ?_)
  refine hlp (Bs := [mI x1]) (lso := [mR 17 15 0, mI x1, mE 0]) (lsA := [mR 17 15 0, mI x1, mR 1 1 137, mE 0]) (pcI := 4) (idx := 72) (by decide) rfl rfl hAs (Nat.le_of_ble_eq_true rfl) rfl ?_ dL_other_4 ml_L_72 rfl (Nat.le_of_ble_eq_true rfl) (fun v hv => hAs v (List.mem_cons_of_mem _ (List.mem_append_left [mR 1 1 137] hv))) h ?_ ?_ (fun E M' hq => hQ E M' hq)
  · intro p l e R s m args below meth c H locs cells slots Qf rls hx hb hl hw
    refine lv_aload_n hx hb dL_other_0 rfl (mLv_at (v := mR 1 1 137) hl rfl (fun h => by cases h)) ?_
    refine lv_iconst hx hb dL_other_1 rfl ?_
    refine lv_aload_n hx hb dL_other_2 rfl (mLv_at (v := mR 17 15 0) hl rfl (fun h => by cases h)) ?_
    refine lv_iload_n hx hb dL_other_3 rfl (mLv_at (v := mI x1) hl rfl (fun h => by cases h)) ?_
    exact hw
  · intro v M' hv
    exact V_i2l dL_other_7 (V_lastore dL_other_8 (by decide) (V_goto (tgt := 15) dL_other_9 rfl (V_iconst dL_other_15 (by decide) (V_iret dL_other_16 rfl hv))))
  · intro E M' hv
    obtain ⟨y, hy, hv⟩ := hv
    obtain ⟨rfl, rfl⟩ := hf1_s hy
    exact ⟨[], _, [], 3, 1, rfl, (fun _ h => nomatch h), rfl, by decide, mTbl_at 833 (by decide +kernel) rfl, List.mem_of_getElem? (i := 857) (by decide +kernel), by decide, rfl, rfl, Or.inr ⟨3, rfl, dL_other_12, rfl⟩, V_iconst dL_other_13 (by decide) (V_iret dL_other_14 rfl hv)⟩
abbrev hf_pattern := hf1
theorem mch_pattern : mCH "BinProverLaw" 139 qL_pattern [(0, 10, 13, 18)] 4 := ⟨mTbl_at 1009 (by decide +kernel) rfl, mTbl_at 1010 (by decide +kernel) rfl, mTbl_at 90 (by decide +kernel) rfl, mTbl_at 1011 (by decide +kernel) rfl, ⟨by decide +kernel, by decide +kernel⟩, by decide +kernel, by decide⟩
set_option maxHeartbeats 1000000 in
theorem VH_pattern {d k pc : Nat} {ls st : List mV} {M : mM} {Q : mRes → mM → Prop} {x1 x2 : Int} (hd : decode cL_law pc = .ok (.invokestatic 139, 3)) (hst : (st.map mCt).sum ≤ 8) (hQ : ∀ E M, ¬ Q (.inr E) M) (hk : 3 ≤ k) (h : V d 3 qX9_pattern 0 [mR 17 15 0, mI x1, mI x2, mE 0] [] M (hAft (d + 2) (k - 3) qL_law (pc + 3) ls st Q hf_pattern)) : V (d + 2) k qL_law pc ls (mR 1 1 137 :: mI x2 :: mI x1 :: mR 17 15 0 :: st) M Q := by
  refine V_callH2 (d' := d + 1) (k' := 3) [mR 17 15 0, mI x1, mI x2, mR 1 1 137] hd mch_pattern rfl hst (Nat.le_refl _) hk (fun g l sz hAs => ?_)
  refine hlp (Bs := [mI x1, mI x2]) (lso := [mR 17 15 0, mI x1, mI x2, mE 0]) (lsA := [mR 17 15 0, mI x1, mI x2, mR 1 1 137, mE 0]) (pcI := 5) (idx := 48) (by decide) rfl rfl hAs (Nat.le_of_ble_eq_true rfl) rfl ?_ dL_pattern_5 ml_L_48 rfl (Nat.le_of_ble_eq_true rfl) (fun v hv => hAs v (List.mem_cons_of_mem _ (List.mem_append_left [mR 1 1 137] hv))) h ?_ ?_ (fun E M' hq => hQ E M' hq)
  · intro p l e R s m args below meth c H locs cells slots Qf rls hx hb hl hw
    refine lv_aload_n hx hb dL_pattern_0 rfl (mLv_at (v := mR 1 1 137) hl rfl (fun h => by cases h)) ?_
    refine lv_iconst hx hb dL_pattern_1 rfl ?_
    refine lv_aload_n hx hb dL_pattern_2 rfl (mLv_at (v := mR 17 15 0) hl rfl (fun h => by cases h)) ?_
    refine lv_iload_n hx hb dL_pattern_3 rfl (mLv_at (v := mI x1) hl rfl (fun h => by cases h)) ?_
    refine lv_iload_n hx hb dL_pattern_4 rfl (mLv_at (v := mI x2) hl rfl (fun h => by cases h)) ?_
    exact hw
  · intro v M' hv
    exact V_i2l dL_pattern_8 (V_lastore dL_pattern_9 (by decide) (V_goto (tgt := 17) dL_pattern_10 rfl (V_iconst dL_pattern_17 (by decide) (V_iret dL_pattern_18 rfl hv))))
  · intro E M' hv
    obtain ⟨y, hy, hv⟩ := hv
    obtain ⟨rfl, rfl⟩ := hf1_s hy
    exact ⟨[], _, [], 4, 2, rfl, (fun _ h => nomatch h), rfl, by decide, mTbl_at 833 (by decide +kernel) rfl, List.mem_of_getElem? (i := 857) (by decide +kernel), by decide, rfl, rfl, Or.inl ⟨dL_pattern_13, rfl⟩, V_iconst dL_pattern_15 (by decide) (V_iret dL_pattern_16 rfl hv)⟩
abbrev hf_patterns := hf1
theorem mch_patterns : mCH "BinProverLaw" 136 qL_patterns [(0, 9, 12, 18)] 3 := ⟨mTbl_at 972 (by decide +kernel) rfl, mTbl_at 973 (by decide +kernel) rfl, mTbl_at 90 (by decide +kernel) rfl, mTbl_at 974 (by decide +kernel) rfl, ⟨by decide +kernel, by decide +kernel⟩, by decide +kernel, by decide⟩
set_option maxHeartbeats 1000000 in
theorem VH_patterns {d k pc : Nat} {ls st : List mV} {M : mM} {Q : mRes → mM → Prop} {x1 : Int} (hd : decode cL_law pc = .ok (.invokestatic 136, 3)) (hst : (st.map mCt).sum ≤ 8) (hQ : ∀ E M, ¬ Q (.inr E) M) (hk : 3 ≤ k) (h : V d 3 qX9_patterns 0 [mR 17 15 0, mI x1, mE 0] [] M (hAft (d + 2) (k - 3) qL_law (pc + 3) ls st Q hf_patterns)) : V (d + 2) k qL_law pc ls (mR 1 1 137 :: mI x1 :: mR 17 15 0 :: st) M Q := by
  refine V_callH2 (d' := d + 1) (k' := 3) [mR 17 15 0, mI x1, mR 1 1 137] hd mch_patterns rfl hst (Nat.le_refl _) hk (fun g l sz hAs => ?_)
  refine hlp (Bs := [mI x1]) (lso := [mR 17 15 0, mI x1, mE 0]) (lsA := [mR 17 15 0, mI x1, mR 1 1 137, mE 0]) (pcI := 4) (idx := 45) (by decide) rfl rfl hAs (Nat.le_of_ble_eq_true rfl) rfl ?_ dL_patterns_4 ml_L_45 rfl (Nat.le_of_ble_eq_true rfl) (fun v hv => hAs v (List.mem_cons_of_mem _ (List.mem_append_left [mR 1 1 137] hv))) h ?_ ?_ (fun E M' hq => hQ E M' hq)
  · intro p l e R s m args below meth c H locs cells slots Qf rls hx hb hl hw
    refine lv_aload_n hx hb dL_patterns_0 rfl (mLv_at (v := mR 1 1 137) hl rfl (fun h => by cases h)) ?_
    refine lv_iconst hx hb dL_patterns_1 rfl ?_
    refine lv_aload_n hx hb dL_patterns_2 rfl (mLv_at (v := mR 17 15 0) hl rfl (fun h => by cases h)) ?_
    refine lv_iload_n hx hb dL_patterns_3 rfl (mLv_at (v := mI x1) hl rfl (fun h => by cases h)) ?_
    exact hw
  · intro v M' hv
    exact V_i2l dL_patterns_7 (V_lastore dL_patterns_8 (by decide) (V_goto (tgt := 15) dL_patterns_9 rfl (V_iconst dL_patterns_15 (by decide) (V_iret dL_patterns_16 rfl hv))))
  · intro E M' hv
    obtain ⟨y, hy, hv⟩ := hv
    obtain ⟨rfl, rfl⟩ := hf1_s hy
    exact ⟨[], _, [], 3, 1, rfl, (fun _ h => nomatch h), rfl, by decide, mTbl_at 833 (by decide +kernel) rfl, List.mem_of_getElem? (i := 857) (by decide +kernel), by decide, rfl, rfl, Or.inr ⟨3, rfl, dL_patterns_12, rfl⟩, V_iconst dL_patterns_13 (by decide) (V_iret dL_patterns_14 rfl hv)⟩
abbrev hf_rule := hf1
theorem mch_rule : mCH "BinProverLaw" 118 qL_rule [(0, 9, 12, 18)] 3 := ⟨mTbl_at 904 (by decide +kernel) rfl, mTbl_at 905 (by decide +kernel) rfl, mTbl_at 90 (by decide +kernel) rfl, mTbl_at 906 (by decide +kernel) rfl, ⟨by decide +kernel, by decide +kernel⟩, by decide +kernel, by decide⟩
set_option maxHeartbeats 1000000 in
theorem VH_rule {d k pc : Nat} {ls st : List mV} {M : mM} {Q : mRes → mM → Prop} {x1 : Int} (hd : decode cL_law pc = .ok (.invokestatic 118, 3)) (hst : (st.map mCt).sum ≤ 8) (hQ : ∀ E M, ¬ Q (.inr E) M) (hk : 3 ≤ k) (h : V d 3 qX9_rule 0 [mR 17 15 0, mI x1] [] M (hAft (d + 2) (k - 3) qL_law (pc + 3) ls st Q hf_rule)) : V (d + 2) k qL_law pc ls (mR 1 1 137 :: mI x1 :: mR 17 15 0 :: st) M Q := by
  refine V_callH2 (d' := d + 1) (k' := 3) [mR 17 15 0, mI x1, mR 1 1 137] hd mch_rule rfl hst (Nat.le_refl _) hk (fun g l sz hAs => ?_)
  refine hlp (Bs := [mI x1]) (lso := [mR 17 15 0, mI x1]) (lsA := [mR 17 15 0, mI x1, mR 1 1 137, mE 0]) (pcI := 4) (idx := 27) (by decide) rfl rfl hAs (Nat.le_of_ble_eq_true rfl) rfl ?_ dL_rule_4 ml_L_27 rfl (Nat.le_of_ble_eq_true rfl) (fun v hv => hAs v (List.mem_cons_of_mem _ (List.mem_append_left [mR 1 1 137] hv))) h ?_ ?_ (fun E M' hq => hQ E M' hq)
  · intro p l e R s m args below meth c H locs cells slots Qf rls hx hb hl hw
    refine lv_aload_n hx hb dL_rule_0 rfl (mLv_at (v := mR 1 1 137) hl rfl (fun h => by cases h)) ?_
    refine lv_iconst hx hb dL_rule_1 rfl ?_
    refine lv_aload_n hx hb dL_rule_2 rfl (mLv_at (v := mR 17 15 0) hl rfl (fun h => by cases h)) ?_
    refine lv_iload_n hx hb dL_rule_3 rfl (mLv_at (v := mI x1) hl rfl (fun h => by cases h)) ?_
    exact hw
  · intro v M' hv
    exact V_i2l dL_rule_7 (V_lastore dL_rule_8 (by decide) (V_goto (tgt := 15) dL_rule_9 rfl (V_iconst dL_rule_15 (by decide) (V_iret dL_rule_16 rfl hv))))
  · intro E M' hv
    obtain ⟨y, hy, hv⟩ := hv
    obtain ⟨rfl, rfl⟩ := hf1_s hy
    exact ⟨[], _, [], 3, 1, rfl, (fun _ h => nomatch h), rfl, by decide, mTbl_at 833 (by decide +kernel) rfl, List.mem_of_getElem? (i := 857) (by decide +kernel), by decide, rfl, rfl, Or.inr ⟨3, rfl, dL_rule_12, rfl⟩, V_iconst dL_rule_13 (by decide) (V_iret dL_rule_14 rfl hv)⟩
abbrev hf_sort := hf1
theorem mch_sort : mCH "BinProverLaw" 111 qL_sort [(0, 10, 13, 18)] 4 := ⟨mTbl_at 871 (by decide +kernel) rfl, mTbl_at 872 (by decide +kernel) rfl, mTbl_at 90 (by decide +kernel) rfl, mTbl_at 873 (by decide +kernel) rfl, ⟨by decide +kernel, by decide +kernel⟩, by decide +kernel, by decide⟩
set_option maxHeartbeats 1000000 in
theorem VH_sort {d k pc : Nat} {ls st : List mV} {M : mM} {Q : mRes → mM → Prop} {x1 x2 : Int} (hd : decode cL_law pc = .ok (.invokestatic 111, 3)) (hst : (st.map mCt).sum ≤ 8) (hQ : ∀ E M, ¬ Q (.inr E) M) (hk : 3 ≤ k) (h : V d 3 qX9_sort 0 [mR 17 15 0, mI x1, mI x2] [] M (hAft (d + 2) (k - 3) qL_law (pc + 3) ls st Q hf_sort)) : V (d + 2) k qL_law pc ls (mR 1 1 137 :: mI x2 :: mI x1 :: mR 17 15 0 :: st) M Q := by
  refine V_callH2 (d' := d + 1) (k' := 3) [mR 17 15 0, mI x1, mI x2, mR 1 1 137] hd mch_sort rfl hst (Nat.le_refl _) hk (fun g l sz hAs => ?_)
  refine hlp (Bs := [mI x1, mI x2]) (lso := [mR 17 15 0, mI x1, mI x2]) (lsA := [mR 17 15 0, mI x1, mI x2, mR 1 1 137, mE 0]) (pcI := 5) (idx := 20) (by decide) rfl rfl hAs (Nat.le_of_ble_eq_true rfl) rfl ?_ dL_sort_5 ml_L_20 rfl (Nat.le_of_ble_eq_true rfl) (fun v hv => hAs v (List.mem_cons_of_mem _ (List.mem_append_left [mR 1 1 137] hv))) h ?_ ?_ (fun E M' hq => hQ E M' hq)
  · intro p l e R s m args below meth c H locs cells slots Qf rls hx hb hl hw
    refine lv_aload_n hx hb dL_sort_0 rfl (mLv_at (v := mR 1 1 137) hl rfl (fun h => by cases h)) ?_
    refine lv_iconst hx hb dL_sort_1 rfl ?_
    refine lv_aload_n hx hb dL_sort_2 rfl (mLv_at (v := mR 17 15 0) hl rfl (fun h => by cases h)) ?_
    refine lv_iload_n hx hb dL_sort_3 rfl (mLv_at (v := mI x1) hl rfl (fun h => by cases h)) ?_
    refine lv_iload_n hx hb dL_sort_4 rfl (mLv_at (v := mI x2) hl rfl (fun h => by cases h)) ?_
    exact hw
  · intro v M' hv
    exact V_i2l dL_sort_8 (V_lastore dL_sort_9 (by decide) (V_goto (tgt := 17) dL_sort_10 rfl (V_iconst dL_sort_17 (by decide) (V_iret dL_sort_18 rfl hv))))
  · intro E M' hv
    obtain ⟨y, hy, hv⟩ := hv
    obtain ⟨rfl, rfl⟩ := hf1_s hy
    exact ⟨[], _, [], 4, 2, rfl, (fun _ h => nomatch h), rfl, by decide, mTbl_at 833 (by decide +kernel) rfl, List.mem_of_getElem? (i := 857) (by decide +kernel), by decide, rfl, rfl, Or.inl ⟨dL_sort_13, rfl⟩, V_iconst dL_sort_15 (by decide) (V_iret dL_sort_16 rfl hv)⟩
abbrev hf_spare := hf1
theorem mch_spare : mCH "BinProverLaw" 188 qL_spare [(0, 9, 12, 18)] 3 := ⟨mTbl_at 1100 (by decide +kernel) rfl, mTbl_at 1101 (by decide +kernel) rfl, mTbl_at 90 (by decide +kernel) rfl, mTbl_at 1102 (by decide +kernel) rfl, ⟨by decide +kernel, by decide +kernel⟩, by decide +kernel, by decide⟩
set_option maxHeartbeats 1000000 in
theorem VH_spare {d k pc : Nat} {ls st : List mV} {M : mM} {Q : mRes → mM → Prop} {x1 : Int} (hd : decode cL_law pc = .ok (.invokestatic 188, 3)) (hst : (st.map mCt).sum ≤ 8) (hQ : ∀ E M, ¬ Q (.inr E) M) (hk : 3 ≤ k) (h : V d 3 qX9_spare 0 [mR 17 15 0, mI x1, mE 0, mE 0, mE 0, mE 0] [] M (hAft (d + 2) (k - 3) qL_law (pc + 3) ls st Q hf_spare)) : V (d + 2) k qL_law pc ls (mR 1 1 137 :: mI x1 :: mR 17 15 0 :: st) M Q := by
  refine V_callH2 (d' := d + 1) (k' := 3) [mR 17 15 0, mI x1, mR 1 1 137] hd mch_spare rfl hst (Nat.le_refl _) hk (fun g l sz hAs => ?_)
  refine hlp (Bs := [mI x1]) (lso := [mR 17 15 0, mI x1, mE 0, mE 0, mE 0, mE 0]) (lsA := [mR 17 15 0, mI x1, mR 1 1 137, mE 0]) (pcI := 4) (idx := 69) (by decide) rfl rfl hAs (Nat.le_of_ble_eq_true rfl) rfl ?_ dL_spare_4 ml_L_69 rfl (Nat.le_of_ble_eq_true rfl) (fun v hv => hAs v (List.mem_cons_of_mem _ (List.mem_append_left [mR 1 1 137] hv))) h ?_ ?_ (fun E M' hq => hQ E M' hq)
  · intro p l e R s m args below meth c H locs cells slots Qf rls hx hb hl hw
    refine lv_aload_n hx hb dL_spare_0 rfl (mLv_at (v := mR 1 1 137) hl rfl (fun h => by cases h)) ?_
    refine lv_iconst hx hb dL_spare_1 rfl ?_
    refine lv_aload_n hx hb dL_spare_2 rfl (mLv_at (v := mR 17 15 0) hl rfl (fun h => by cases h)) ?_
    refine lv_iload_n hx hb dL_spare_3 rfl (mLv_at (v := mI x1) hl rfl (fun h => by cases h)) ?_
    exact hw
  · intro v M' hv
    exact V_i2l dL_spare_7 (V_lastore dL_spare_8 (by decide) (V_goto (tgt := 15) dL_spare_9 rfl (V_iconst dL_spare_15 (by decide) (V_iret dL_spare_16 rfl hv))))
  · intro E M' hv
    obtain ⟨y, hy, hv⟩ := hv
    obtain ⟨rfl, rfl⟩ := hf1_s hy
    exact ⟨[], _, [], 3, 1, rfl, (fun _ h => nomatch h), rfl, by decide, mTbl_at 833 (by decide +kernel) rfl, List.mem_of_getElem? (i := 857) (by decide +kernel), by decide, rfl, rfl, Or.inr ⟨3, rfl, dL_spare_12, rfl⟩, V_iconst dL_spare_13 (by decide) (V_iret dL_spare_14 rfl hv)⟩
abbrev hf_split := hf2
theorem mch_split : mCH "BinProverLaw" 130 qL_split [(0, 9, 12, 13)] 3 := ⟨mTbl_at 956 (by decide +kernel) rfl, mTbl_at 957 (by decide +kernel) rfl, mTbl_at 90 (by decide +kernel) rfl, mTbl_at 958 (by decide +kernel) rfl, ⟨by decide +kernel, by decide +kernel⟩, by decide +kernel, by decide⟩
set_option maxHeartbeats 1000000 in
theorem VH_split {d k pc : Nat} {ls st : List mV} {M : mM} {Q : mRes → mM → Prop} {x1 : Int} (hd : decode cL_law pc = .ok (.invokestatic 130, 3)) (hst : (st.map mCt).sum ≤ 8) (hQ : ∀ E M, ¬ Q (.inr E) M) (hk : 3 ≤ k) (h : V d 3 qX9_split 0 [mR 17 15 0, mI x1, mE 0] [] M (hAft (d + 2) (k - 3) qL_law (pc + 3) ls st Q hf_split)) : V (d + 2) k qL_law pc ls (mR 1 1 137 :: mI x1 :: mR 17 15 0 :: st) M Q := by
  refine V_callH2 (d' := d + 1) (k' := 3) [mR 17 15 0, mI x1, mR 1 1 137] hd mch_split rfl hst (Nat.le_refl _) hk (fun g l sz hAs => ?_)
  refine hlp (Bs := [mI x1]) (lso := [mR 17 15 0, mI x1, mE 0]) (lsA := [mR 17 15 0, mI x1, mR 1 1 137, mE 0]) (pcI := 4) (idx := 39) (by decide) rfl rfl hAs (Nat.le_of_ble_eq_true rfl) rfl ?_ dL_split_4 ml_L_39 rfl (Nat.le_of_ble_eq_true rfl) (fun v hv => hAs v (List.mem_cons_of_mem _ (List.mem_append_left [mR 1 1 137] hv))) h ?_ ?_ (fun E M' hq => hQ E M' hq)
  · intro p l e R s m args below meth c H locs cells slots Qf rls hx hb hl hw
    refine lv_aload_n hx hb dL_split_0 rfl (mLv_at (v := mR 1 1 137) hl rfl (fun h => by cases h)) ?_
    refine lv_iconst hx hb dL_split_1 rfl ?_
    refine lv_aload_n hx hb dL_split_2 rfl (mLv_at (v := mR 17 15 0) hl rfl (fun h => by cases h)) ?_
    refine lv_iload_n hx hb dL_split_3 rfl (mLv_at (v := mI x1) hl rfl (fun h => by cases h)) ?_
    exact hw
  · intro v M' hv
    exact V_i2l dL_split_7 (V_lastore dL_split_8 (by decide) (V_goto (tgt := 15) dL_split_9 rfl (V_iconst dL_split_15 (by decide) (V_iret dL_split_16 rfl hv))))
  · intro E M' hv
    obtain ⟨y, hy, hv⟩ := hv
    obtain ⟨rfl, rfl⟩ := hf2_s hy
    exact ⟨[], _, [], 3, 1, rfl, (fun _ h => nomatch h), rfl, by decide, mTbl_at 642 (by decide +kernel) rfl, List.mem_of_getElem? (i := 649) (by decide +kernel), by decide, rfl, rfl, Or.inr ⟨3, rfl, dL_split_12, rfl⟩, V_iconst dL_split_13 (by decide) (V_iret dL_split_14 rfl hv)⟩
abbrev hf_step := hf2
theorem mch_step : mCH "BinProverLaw" 133 qL_step [(0, 9, 12, 13)] 3 := ⟨mTbl_at 964 (by decide +kernel) rfl, mTbl_at 965 (by decide +kernel) rfl, mTbl_at 90 (by decide +kernel) rfl, mTbl_at 966 (by decide +kernel) rfl, ⟨by decide +kernel, by decide +kernel⟩, by decide +kernel, by decide⟩
set_option maxHeartbeats 1000000 in
theorem VH_step {d k pc : Nat} {ls st : List mV} {M : mM} {Q : mRes → mM → Prop} {x1 : Int} (hd : decode cL_law pc = .ok (.invokestatic 133, 3)) (hst : (st.map mCt).sum ≤ 8) (hQ : ∀ E M, ¬ Q (.inr E) M) (hk : 3 ≤ k) (h : V d 3 qX9_step 0 [mR 17 15 0, mI x1, mE 0] [] M (hAft (d + 2) (k - 3) qL_law (pc + 3) ls st Q hf_step)) : V (d + 2) k qL_law pc ls (mR 1 1 137 :: mI x1 :: mR 17 15 0 :: st) M Q := by
  refine V_callH2 (d' := d + 1) (k' := 3) [mR 17 15 0, mI x1, mR 1 1 137] hd mch_step rfl hst (Nat.le_refl _) hk (fun g l sz hAs => ?_)
  refine hlp (Bs := [mI x1]) (lso := [mR 17 15 0, mI x1, mE 0]) (lsA := [mR 17 15 0, mI x1, mR 1 1 137, mE 0]) (pcI := 4) (idx := 42) (by decide) rfl rfl hAs (Nat.le_of_ble_eq_true rfl) rfl ?_ dL_step_4 ml_L_42 rfl (Nat.le_of_ble_eq_true rfl) (fun v hv => hAs v (List.mem_cons_of_mem _ (List.mem_append_left [mR 1 1 137] hv))) h ?_ ?_ (fun E M' hq => hQ E M' hq)
  · intro p l e R s m args below meth c H locs cells slots Qf rls hx hb hl hw
    refine lv_aload_n hx hb dL_step_0 rfl (mLv_at (v := mR 1 1 137) hl rfl (fun h => by cases h)) ?_
    refine lv_iconst hx hb dL_step_1 rfl ?_
    refine lv_aload_n hx hb dL_step_2 rfl (mLv_at (v := mR 17 15 0) hl rfl (fun h => by cases h)) ?_
    refine lv_iload_n hx hb dL_step_3 rfl (mLv_at (v := mI x1) hl rfl (fun h => by cases h)) ?_
    exact hw
  · intro v M' hv
    exact V_i2l dL_step_7 (V_lastore dL_step_8 (by decide) (V_goto (tgt := 15) dL_step_9 rfl (V_iconst dL_step_15 (by decide) (V_iret dL_step_16 rfl hv))))
  · intro E M' hv
    obtain ⟨y, hy, hv⟩ := hv
    obtain ⟨rfl, rfl⟩ := hf2_s hy
    exact ⟨[], _, [], 3, 1, rfl, (fun _ h => nomatch h), rfl, by decide, mTbl_at 642 (by decide +kernel) rfl, List.mem_of_getElem? (i := 649) (by decide +kernel), by decide, rfl, rfl, Or.inr ⟨3, rfl, dL_step_12, rfl⟩, V_iconst dL_step_13 (by decide) (V_iret dL_step_14 rfl hv)⟩
abbrev hf_toHold := hf2
theorem mch_toHold : mCH "BinProverLaw" 185 qL_toHold [(0, 9, 12, 13)] 3 := ⟨mTbl_at 1086 (by decide +kernel) rfl, mTbl_at 1087 (by decide +kernel) rfl, mTbl_at 90 (by decide +kernel) rfl, mTbl_at 1088 (by decide +kernel) rfl, ⟨by decide +kernel, by decide +kernel⟩, by decide +kernel, by decide⟩
set_option maxHeartbeats 1000000 in
theorem VH_toHold {d k pc : Nat} {ls st : List mV} {M : mM} {Q : mRes → mM → Prop} {x1 : Int} (hd : decode cL_law pc = .ok (.invokestatic 185, 3)) (hst : (st.map mCt).sum ≤ 8) (hQ : ∀ E M, ¬ Q (.inr E) M) (hk : 3 ≤ k) (h : V d 3 qX9_toHold 0 [mR 17 15 0, mI x1, mE 0, mE 0, mE 0] [] M (hAft (d + 2) (k - 3) qL_law (pc + 3) ls st Q hf_toHold)) : V (d + 2) k qL_law pc ls (mR 1 1 137 :: mI x1 :: mR 17 15 0 :: st) M Q := by
  refine V_callH2 (d' := d + 1) (k' := 3) [mR 17 15 0, mI x1, mR 1 1 137] hd mch_toHold rfl hst (Nat.le_refl _) hk (fun g l sz hAs => ?_)
  refine hlp (Bs := [mI x1]) (lso := [mR 17 15 0, mI x1, mE 0, mE 0, mE 0]) (lsA := [mR 17 15 0, mI x1, mR 1 1 137, mE 0]) (pcI := 4) (idx := 66) (by decide) rfl rfl hAs (Nat.le_of_ble_eq_true rfl) rfl ?_ dL_toHold_4 ml_L_66 rfl (Nat.le_of_ble_eq_true rfl) (fun v hv => hAs v (List.mem_cons_of_mem _ (List.mem_append_left [mR 1 1 137] hv))) h ?_ ?_ (fun E M' hq => hQ E M' hq)
  · intro p l e R s m args below meth c H locs cells slots Qf rls hx hb hl hw
    refine lv_aload_n hx hb dL_toHold_0 rfl (mLv_at (v := mR 1 1 137) hl rfl (fun h => by cases h)) ?_
    refine lv_iconst hx hb dL_toHold_1 rfl ?_
    refine lv_aload_n hx hb dL_toHold_2 rfl (mLv_at (v := mR 17 15 0) hl rfl (fun h => by cases h)) ?_
    refine lv_iload_n hx hb dL_toHold_3 rfl (mLv_at (v := mI x1) hl rfl (fun h => by cases h)) ?_
    exact hw
  · intro v M' hv
    exact V_i2l dL_toHold_7 (V_lastore dL_toHold_8 (by decide) (V_goto (tgt := 15) dL_toHold_9 rfl (V_iconst dL_toHold_15 (by decide) (V_iret dL_toHold_16 rfl hv))))
  · intro E M' hv
    obtain ⟨y, hy, hv⟩ := hv
    obtain ⟨rfl, rfl⟩ := hf2_s hy
    exact ⟨[], _, [], 3, 1, rfl, (fun _ h => nomatch h), rfl, by decide, mTbl_at 642 (by decide +kernel) rfl, List.mem_of_getElem? (i := 649) (by decide +kernel), by decide, rfl, rfl, Or.inr ⟨3, rfl, dL_toHold_12, rfl⟩, V_iconst dL_toHold_13 (by decide) (V_iret dL_toHold_14 rfl hv)⟩
abbrev hf_topUp := hf1
theorem mch_topUp : mCH "BinProverLaw" 182 qL_topUp [(0, 10, 13, 18)] 4 := ⟨mTbl_at 1075 (by decide +kernel) rfl, mTbl_at 1076 (by decide +kernel) rfl, mTbl_at 90 (by decide +kernel) rfl, mTbl_at 1077 (by decide +kernel) rfl, ⟨by decide +kernel, by decide +kernel⟩, by decide +kernel, by decide⟩
set_option maxHeartbeats 1000000 in
theorem VH_topUp {d k pc : Nat} {ls st : List mV} {M : mM} {Q : mRes → mM → Prop} {x1 x2 : Int} (hd : decode cL_law pc = .ok (.invokestatic 182, 3)) (hst : (st.map mCt).sum ≤ 8) (hQ : ∀ E M, ¬ Q (.inr E) M) (hk : 3 ≤ k) (h : V d 3 qX9_topUp 0 [mR 17 15 0, mI x1, mI x2, mE 0] [] M (hAft (d + 2) (k - 3) qL_law (pc + 3) ls st Q hf_topUp)) : V (d + 2) k qL_law pc ls (mR 1 1 137 :: mI x2 :: mI x1 :: mR 17 15 0 :: st) M Q := by
  refine V_callH2 (d' := d + 1) (k' := 3) [mR 17 15 0, mI x1, mI x2, mR 1 1 137] hd mch_topUp rfl hst (Nat.le_refl _) hk (fun g l sz hAs => ?_)
  refine hlp (Bs := [mI x1, mI x2]) (lso := [mR 17 15 0, mI x1, mI x2, mE 0]) (lsA := [mR 17 15 0, mI x1, mI x2, mR 1 1 137, mE 0]) (pcI := 5) (idx := 63) (by decide) rfl rfl hAs (Nat.le_of_ble_eq_true rfl) rfl ?_ dL_topUp_5 ml_L_63 rfl (Nat.le_of_ble_eq_true rfl) (fun v hv => hAs v (List.mem_cons_of_mem _ (List.mem_append_left [mR 1 1 137] hv))) h ?_ ?_ (fun E M' hq => hQ E M' hq)
  · intro p l e R s m args below meth c H locs cells slots Qf rls hx hb hl hw
    refine lv_aload_n hx hb dL_topUp_0 rfl (mLv_at (v := mR 1 1 137) hl rfl (fun h => by cases h)) ?_
    refine lv_iconst hx hb dL_topUp_1 rfl ?_
    refine lv_aload_n hx hb dL_topUp_2 rfl (mLv_at (v := mR 17 15 0) hl rfl (fun h => by cases h)) ?_
    refine lv_iload_n hx hb dL_topUp_3 rfl (mLv_at (v := mI x1) hl rfl (fun h => by cases h)) ?_
    refine lv_iload_n hx hb dL_topUp_4 rfl (mLv_at (v := mI x2) hl rfl (fun h => by cases h)) ?_
    exact hw
  · intro v M' hv
    exact V_i2l dL_topUp_8 (V_lastore dL_topUp_9 (by decide) (V_goto (tgt := 17) dL_topUp_10 rfl (V_iconst dL_topUp_17 (by decide) (V_iret dL_topUp_18 rfl hv))))
  · intro E M' hv
    obtain ⟨y, hy, hv⟩ := hv
    obtain ⟨rfl, rfl⟩ := hf1_s hy
    exact ⟨[], _, [], 4, 2, rfl, (fun _ h => nomatch h), rfl, by decide, mTbl_at 833 (by decide +kernel) rfl, List.mem_of_getElem? (i := 857) (by decide +kernel), by decide, rfl, rfl, Or.inl ⟨dL_topUp_13, rfl⟩, V_iconst dL_topUp_15 (by decide) (V_iret dL_topUp_16 rfl hv)⟩
abbrev hf_tree := hf1
theorem mch_tree : mCH "BinProverLaw" 142 qL_tree [(0, 9, 12, 18)] 3 := ⟨mTbl_at 1025 (by decide +kernel) rfl, mTbl_at 1026 (by decide +kernel) rfl, mTbl_at 90 (by decide +kernel) rfl, mTbl_at 1027 (by decide +kernel) rfl, ⟨by decide +kernel, by decide +kernel⟩, by decide +kernel, by decide⟩
set_option maxHeartbeats 1000000 in
theorem VH_tree {d k pc : Nat} {ls st : List mV} {M : mM} {Q : mRes → mM → Prop} {x1 : Int} (hd : decode cL_law pc = .ok (.invokestatic 142, 3)) (hst : (st.map mCt).sum ≤ 8) (hQ : ∀ E M, ¬ Q (.inr E) M) (hk : 3 ≤ k) (h : V d 3 qX9_tree 0 [mR 17 15 0, mI x1] [] M (hAft (d + 2) (k - 3) qL_law (pc + 3) ls st Q hf_tree)) : V (d + 2) k qL_law pc ls (mR 1 1 137 :: mI x1 :: mR 17 15 0 :: st) M Q := by
  refine V_callH2 (d' := d + 1) (k' := 3) [mR 17 15 0, mI x1, mR 1 1 137] hd mch_tree rfl hst (Nat.le_refl _) hk (fun g l sz hAs => ?_)
  refine hlp (Bs := [mI x1]) (lso := [mR 17 15 0, mI x1]) (lsA := [mR 17 15 0, mI x1, mR 1 1 137, mE 0]) (pcI := 4) (idx := 51) (by decide) rfl rfl hAs (Nat.le_of_ble_eq_true rfl) rfl ?_ dL_tree_4 ml_L_51 rfl (Nat.le_of_ble_eq_true rfl) (fun v hv => hAs v (List.mem_cons_of_mem _ (List.mem_append_left [mR 1 1 137] hv))) h ?_ ?_ (fun E M' hq => hQ E M' hq)
  · intro p l e R s m args below meth c H locs cells slots Qf rls hx hb hl hw
    refine lv_aload_n hx hb dL_tree_0 rfl (mLv_at (v := mR 1 1 137) hl rfl (fun h => by cases h)) ?_
    refine lv_iconst hx hb dL_tree_1 rfl ?_
    refine lv_aload_n hx hb dL_tree_2 rfl (mLv_at (v := mR 17 15 0) hl rfl (fun h => by cases h)) ?_
    refine lv_iload_n hx hb dL_tree_3 rfl (mLv_at (v := mI x1) hl rfl (fun h => by cases h)) ?_
    exact hw
  · intro v M' hv
    exact V_i2l dL_tree_7 (V_lastore dL_tree_8 (by decide) (V_goto (tgt := 15) dL_tree_9 rfl (V_iconst dL_tree_15 (by decide) (V_iret dL_tree_16 rfl hv))))
  · intro E M' hv
    obtain ⟨y, hy, hv⟩ := hv
    obtain ⟨rfl, rfl⟩ := hf1_s hy
    exact ⟨[], _, [], 3, 1, rfl, (fun _ h => nomatch h), rfl, by decide, mTbl_at 833 (by decide +kernel) rfl, List.mem_of_getElem? (i := 857) (by decide +kernel), by decide, rfl, rfl, Or.inr ⟨3, rfl, dL_tree_12, rfl⟩, V_iconst dL_tree_13 (by decide) (V_iret dL_tree_14 rfl hv)⟩
abbrev hf_years := hf12
theorem mch_years : mCH "BinProverLaw" 208 qL_years [(0, 14, 17, 18), (0, 14, 21, 13)] 6 := ⟨mTbl_at 1177 (by decide +kernel) rfl, mTbl_at 1178 (by decide +kernel) rfl, mTbl_at 90 (by decide +kernel) rfl, mTbl_at 1179 (by decide +kernel) rfl, ⟨by decide +kernel, by decide +kernel⟩, by decide +kernel, by decide⟩
set_option maxHeartbeats 1000000 in
theorem VH_years {d k pc : Nat} {ls st : List mV} {M : mM} {Q : mRes → mM → Prop} {x1 x2 x3 x4 : Int} (hd : decode cL_law pc = .ok (.invokestatic 208, 3)) (hst : (st.map mCt).sum ≤ 8) (hQ : ∀ E M, ¬ Q (.inr E) M) (hk : 3 ≤ k) (h : V d 3 qX9_years 0 [mR 17 15 0, mI x1, mI x2, mI x3, mI x4, mE 0, mE 0, mE 0, mE 0, mE 0, mE 0, mE 0] [] M (hAft (d + 2) (k - 3) qL_law (pc + 3) ls st Q hf_years)) : V (d + 2) k qL_law pc ls (mR 1 1 137 :: mI x4 :: mI x3 :: mI x2 :: mI x1 :: mR 17 15 0 :: st) M Q := by
  refine V_callH2 (d' := d + 1) (k' := 3) [mR 17 15 0, mI x1, mI x2, mI x3, mI x4, mR 1 1 137] hd mch_years rfl hst (Nat.le_refl _) hk (fun g l sz hAs => ?_)
  refine hlp (Bs := [mI x1, mI x2, mI x3, mI x4]) (lso := [mR 17 15 0, mI x1, mI x2, mI x3, mI x4, mE 0, mE 0, mE 0, mE 0, mE 0, mE 0, mE 0]) (lsA := [mR 17 15 0, mI x1, mI x2, mI x3, mI x4, mR 1 1 137, mE 0]) (pcI := 9) (idx := 81) (by decide) rfl rfl hAs (Nat.le_of_ble_eq_true rfl) rfl ?_ dL_years_9 ml_L_81 rfl (Nat.le_of_ble_eq_true rfl) (fun v hv => hAs v (List.mem_cons_of_mem _ (List.mem_append_left [mR 1 1 137] hv))) h ?_ ?_ (fun E M' hq => hQ E M' hq)
  · intro p l e R s m args below meth c H locs cells slots Qf rls hx hb hl hw
    refine lv_aload hx hb dL_years_0 (mLv_at (v := mR 1 1 137) hl rfl (fun h => by cases h)) ?_
    refine lv_iconst hx hb dL_years_2 rfl ?_
    refine lv_aload_n hx hb dL_years_3 rfl (mLv_at (v := mR 17 15 0) hl rfl (fun h => by cases h)) ?_
    refine lv_iload_n hx hb dL_years_4 rfl (mLv_at (v := mI x1) hl rfl (fun h => by cases h)) ?_
    refine lv_iload_n hx hb dL_years_5 rfl (mLv_at (v := mI x2) hl rfl (fun h => by cases h)) ?_
    refine lv_iload_n hx hb dL_years_6 rfl (mLv_at (v := mI x3) hl rfl (fun h => by cases h)) ?_
    refine lv_iload hx hb dL_years_7 (mLv_at (v := mI x4) hl rfl (fun h => by cases h)) ?_
    exact hw
  · intro v M' hv
    exact V_i2l dL_years_12 (V_lastore dL_years_13 (by decide) (V_goto (tgt := 25) dL_years_14 rfl (V_iconst dL_years_25 (by decide) (V_iret dL_years_26 rfl hv))))
  · intro E M' hv
    obtain ⟨y, hy, hv⟩ := hv
    rcases hf12_s hy with ⟨rfl, rfl⟩ | ⟨rfl, rfl⟩
    · exact ⟨[], _, [_], 6, 2, rfl, (fun _ h => nomatch h), rfl, by decide, mTbl_at 833 (by decide +kernel) rfl, List.mem_of_getElem? (i := 857) (by decide +kernel), by decide, rfl, rfl, Or.inl ⟨dL_years_17, rfl⟩, V_iconst dL_years_19 (by decide) (V_iret dL_years_20 rfl hv)⟩
    · exact ⟨[_], _, [], 6, 2, rfl, (fun z hz => Or.inr (by
        have e := List.mem_singleton.mp hz
        subst e
        exact ⟨by decide, rfl, mTbl_at 833 (by decide +kernel) rfl⟩)), rfl, by decide, mTbl_at 642 (by decide +kernel) rfl, List.mem_of_getElem? (i := 649) (by decide +kernel), by decide, rfl, rfl, Or.inl ⟨dL_years_21, rfl⟩, V_iconst dL_years_23 (by decide) (V_iret dL_years_24 rfl hv)⟩
