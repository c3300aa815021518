/-! Strings that are written in the class: length, charAt -/
abbrev qJ0_length_8abf5 : mMth := (yJ0_length_8abf5, cJ0_length_8abf5, 1, some .int)
theorem cm_J0_length_8abf5 : mCm qJ0_length_8abf5 0 := ⟨mTbl_at 105 (by decide +kernel) rfl, mTbl_at 750 (by decide +kernel) rfl, ⟨by decide +kernel, by decide +kernel⟩, by decide +kernel, by decide +kernel, by decide⟩
abbrev qJ0_charAt_5068e : mMth := (yJ0_charAt_5068e, cJ0_charAt_5068e, 2, some .char)
theorem cm_J0_charAt_5068e : mCm qJ0_charAt_5068e 1 := ⟨mTbl_at 105 (by decide +kernel) rfl, mTbl_at 760 (by decide +kernel) rfl, ⟨by decide +kernel, by decide +kernel⟩, by decide +kernel, by decide +kernel, by decide⟩
abbrev qJ0_coder_7d493 : mMth := (yJ0_coder_7d493, cJ0_coder_7d493, 1, some .byte)
theorem cm_J0_coder_7d493 : mCm qJ0_coder_7d493 0 := ⟨mTbl_at 105 (by decide +kernel) rfl, mTbl_at 754 (by decide +kernel) rfl, ⟨by decide +kernel, by decide +kernel⟩, by decide +kernel, by decide +kernel, by decide⟩
abbrev qJ0_isLatin1_aae02 : mMth := (yJ0_isLatin1_aae02, cJ0_isLatin1_aae02, 1, some .boolean)
theorem cm_J0_isLatin1_aae02 : mCm qJ0_isLatin1_aae02 0 := ⟨mTbl_at 105 (by decide +kernel) rfl, mTbl_at 764 (by decide +kernel) rfl, ⟨by decide +kernel, by decide +kernel⟩, by decide +kernel, by decide +kernel, by decide⟩
abbrev qJ0_checkIndex_df160 : mMth := (yJ0_checkIndex_df160, cJ0_checkIndex_df160, 2, none)
theorem cm_J0_checkIndex_df160 : mCm qJ0_checkIndex_df160 2 := ⟨mTbl_at 105 (by decide +kernel) rfl, mTbl_at 770 (by decide +kernel) rfl, ⟨by decide +kernel, by decide +kernel⟩, by decide +kernel, by decide +kernel, by decide⟩
abbrev qJ1_charAt_3b067 : mMth := (yJ1_charAt_3b067, cJ1_charAt_3b067, 2, some .char)
theorem cm_J1_charAt_3b067 : mCm qJ1_charAt_3b067 2 := ⟨mTbl_at 106 (by decide +kernel) rfl, mTbl_at 767 (by decide +kernel) rfl, ⟨by decide +kernel, by decide +kernel⟩, by decide +kernel, by decide +kernel, by decide⟩
abbrev qJ3_checkIndex_8e157 : mMth := (yJ3_checkIndex_8e157, cJ3_checkIndex_8e157, 3, some .int)
theorem cm_J3_checkIndex_8e157 : mCm qJ3_checkIndex_8e157 3 := ⟨mTbl_at 107 (by decide +kernel) rfl, mTbl_at 775 (by decide +kernel) rfl, ⟨by decide +kernel, by decide +kernel⟩, by decide +kernel, by decide +kernel, by decide⟩
def sLen (w : Nat) : Int := (([8, 4, 3] : List Nat).getD w 0 : Nat)
def sByt (w : Nat) (j : Nat) : Int32 := (([[99, 97, 112, 97, 99, 105, 116, 121], [115, 111, 114, 116], [98, 105, 110]] : List (List Int32)).getD w []).getD j 0
def mCE (own : String) (idx : Nat) (q : mMth) (n : Nat) : Prop := Cond.methodLink own idx q.1 ∈ mTbl ∧ Cond.instanceMethod q.1 ∈ mTbl ∧ Cond.selects q.1.cls q.1 q.1 ∈ mTbl ∧ mCm q n
theorem mls_X6_97 : mCE "BinProver$Reader" 97 qJ0_length_8abf5 0 := ⟨mTbl_at 747 (by decide +kernel) rfl, mTbl_at 748 (by decide +kernel) rfl, mTbl_at 749 (by decide +kernel) rfl, cm_J0_length_8abf5⟩
theorem mls_X6_103 : mCE "BinProver$Reader" 103 qJ0_charAt_5068e 1 := ⟨mTbl_at 757 (by decide +kernel) rfl, mTbl_at 758 (by decide +kernel) rfl, mTbl_at 759 (by decide +kernel) rfl, cm_J0_charAt_5068e⟩
theorem mls_J0_335 : mCE "java/lang/String" 335 qJ0_coder_7d493 0 := ⟨mTbl_at 751 (by decide +kernel) rfl, mTbl_at 752 (by decide +kernel) rfl, mTbl_at 753 (by decide +kernel) rfl, cm_J0_coder_7d493⟩
theorem mls_J0_492 : mCE "java/lang/String" 492 qJ0_isLatin1_aae02 0 := ⟨mTbl_at 761 (by decide +kernel) rfl, mTbl_at 762 (by decide +kernel) rfl, mTbl_at 763 (by decide +kernel) rfl, cm_J0_isLatin1_aae02⟩
theorem mls_J0_495 : mCS "java/lang/String" 495 qJ1_charAt_3b067 2 := ⟨mTbl_at 765 (by decide +kernel) rfl, mTbl_at 766 (by decide +kernel) rfl, cm_J1_charAt_3b067⟩
theorem mls_J1_9 : mCS "java/lang/StringLatin1" 9 qJ0_checkIndex_df160 2 := ⟨mTbl_at 768 (by decide +kernel) rfl, mTbl_at 769 (by decide +kernel) rfl, cm_J0_checkIndex_df160⟩
theorem mls_J0_1059 : mCS "java/lang/String" 1059 qJ3_checkIndex_8e157 3 := ⟨mTbl_at 773 (by decide +kernel) rfl, mTbl_at 774 (by decide +kernel) rfl, cm_J3_checkIndex_8e157⟩
section SRules
variable {d k : Nat} {q : mMth} {pc : Nat} {ls st : List mV} {M : mM} {Q : mRes → mM → Prop}
theorem V_callE {idx d' k' w : Nat} {q' : mMth} {S : List mV} (As ls' : List mV) (hw : w < 3) (hcls : q'.1.cls = "java/lang/String") (hd : decode q.2.1 pc = .ok (.invokevirtual idx, 3)) (hc : mCE q.1.cls idx q' As.length) (hS : S = As.reverse ++ mE (w + 10) :: st) (hls : mArg q'.2.2.1 (mE (w + 10) :: As) = ls') (hln : (mFlat (mE (w + 10) :: As)).length ≤ q'.2.2.1) (hst : (st.map mCt).sum ≤ 8) (hdd : d' + 1 ≤ d) (hk : k' ≤ k)
    (h : V d' k' q' 0 ls' [] M (mAft d (k - k') q (pc + 3) ls st Q)) : V d k q pc ls S M Q := by
  subst hS
  intro g A p l e R s m args below meth c H locs cells slots cT sT Qf rls hC hM hl hlk hsk hr hE
  have hskA : ∀ v ∈ As, mVk v := fun v hv => hsk v (List.mem_append_left _ (List.mem_reverse.mpr hv))
  have hskR : mVk (mE (w + 10)) := trivial
  have hskS : ∀ v ∈ st, mVk v := fun v hv => hsk v (List.mem_append_right _ (List.mem_cons_of_mem _ hv))
  obtain ⟨hlk1, hin1, hse1, hcm⟩ := hc
  have hmet := V_met (g := g) (l := l) (sz := H.size) (As := mE (w + 10) :: As) (by rw [hls]; exact h) hcm.2.2.2.2.1 hln (mVk_c hskR hskA)
  have hts := hC.2.2.2.2.1
  have hrec : ∃ cell : Cell, H[g.2.2.2.2.1 (w + 10)]? = some cell ∧ cell.vm.isStatics = false ∧ s.vm.findClass q'.1.cls = some cell.cls := by
    have h9 := vk_recv (i := w) hC.2.2.2.2.2.2.2.2.2.2.2.2.2.2.2.1 hw hM.2.2.1
    simp only [Nat.add_comm 10 w] at h9
    rw [hcls]
    exact h9
  refine mCallEnd (q' := q') (S := (As.reverse ++ mE (w + 10) :: st).map (mRv g)) (a := (Value.ref (g.2.2.2.2.1 (w + 10)) :: As.map (mRv g)).toArray) hC hM hl hlk hskS hr hE hk ?_
  exact vx_runV (n := As.length) (C := q'.1.cls) (b := g.2.2.2.2.1 (w + 10)) (As := As.map (mRv g)) ⟨hC.1, hC.2.1, hC.2.2.1, hC.2.2.2.1, hts⟩ hmet ⟨mCallB hts hlk1 hcm hC.2.2.2.2.2.2.1 hC.2.2.2.2.2.2.2.1 hdd, hts _ hin1, hts _ hse1⟩
    ⟨mPc_blind, hrec, fun U hU hW => mPre hC hM (mE (w + 10) :: As) hU hW⟩ rfl (by simp) hl.1 (by show List.map _ _ = _; simp [mRv, List.map_reverse]) (lv_room (by rw [mCt_sum]; exact hst)) hd ⟨by omega, by omega⟩
theorem V_sVal {w : Nat} (hw : w < 3) (hq : q.1.cls = "java/lang/String") (hd : decode q.2.1 pc = .ok (.getfield 9, 3)) (h : V d k q (pc + 3) ls (mE (w + 60) :: st) M Q) : V d k q pc ls (mE (w + 10) :: st) M Q := by
  intro g A p l e R s m args below meth c H locs cells slots cT sT Qf rls hC hM hl hlk hsk hr hE
  have h := h g A p l e R s m args below meth c H locs cells slots cT sT Qf rls hC hM hl hlk (mVk_c (trivial : mVk (mE (w + 60))) (mVk_t hsk)) hr hE
  have hs := (hC.2.2.2.2.2.2.2.2.2.2.2.2.2.2.2.1.1 w hw).2.2.1
  simp only [Nat.add_comm 10 w, Nat.add_comm 60 w] at hs
  exact vk_getf hC.1 hC.2.1 hs hM.2.2.1 hC.2.2.2.1 (by rw [hq]; exact hC.2.2.2.2.1 _ (mTbl_at 1784 (by decide +kernel) rfl : Cond.fieldLink "java/lang/String" 9 "java/lang/String" "value" "[B" ∈ mTbl)) (fun _ h => h) hd h
theorem V_sCod {w : Nat} (hw : w < 3) (hq : q.1.cls = "java/lang/String") (hd : decode q.2.1 pc = .ok (.getfield 15, 3)) (h : V d k q (pc + 3) ls (mI 0 :: st) M Q) : V d k q pc ls (mE (w + 10) :: st) M Q := by
  intro g A p l e R s m args below meth c H locs cells slots cT sT Qf rls hC hM hl hlk hsk hr hE
  have h := h g A p l e R s m args below meth c H locs cells slots cT sT Qf rls hC hM hl hlk (mVk_c r32_0 (mVk_t hsk)) hr hE
  have hs := (hC.2.2.2.2.2.2.2.2.2.2.2.2.2.2.2.1.1 w hw).2.1
  simp only [Nat.add_comm 10 w] at hs
  exact vk_getf hC.1 hC.2.1 hs hM.2.2.1 hC.2.2.2.1 (by rw [hq]; exact hC.2.2.2.2.1 _ (mTbl_at 1785 (by decide +kernel) rfl : Cond.fieldLink "java/lang/String" 15 "java/lang/String" "coder" "B" ∈ mTbl)) (fun _ h => h) hd h
theorem V_sLen {w : Nat} (hw : w < 3) (hd : decode q.2.1 pc = .ok (.arraylength, 1)) (h : V d k q (pc + 1) ls (mI (sLen w) :: st) M Q) : V d k q pc ls (mE (w + 60) :: st) M Q := by
  intro g A p l e R s m args below meth c H locs cells slots cT sT Qf rls hC hM hl hlk hsk hr hE
  have hw2 : w = 0 ∨ w = 1 ∨ w = 2 := by omega
  have hrg : r32 (sLen w) := by rcases hw2 with rfl | rfl | rfl <;> decide
  have h := h g A p l e R s m args below meth c H locs cells slots cT sT Qf rls hC hM hl hlk (mVk_c hrg (mVk_t hsk)) hr hE
  have hs := (hC.2.2.2.2.2.2.2.2.2.2.2.2.2.2.2.1.1 w hw).2.2.2
  simp only [Nat.add_comm 60 w] at hs
  exact va_tlen hC.1 hC.2.1 hs hM.2.2.1 (by rcases hw2 with rfl | rfl | rfl <;> rfl) hd h
theorem V_sBa {w : Nat} {i : Int} (hw : w < 3) (hd : decode q.2.1 pc = .ok (.baload, 1)) (hi : 0 ≤ i ∧ i < sLen w) (h : V d k q (pc + 1) ls (mI (sByt w i.toNat).toInt :: st) M Q) : V d k q pc ls (mI i :: mE (w + 60) :: st) M Q := by
  intro g A p l e R s m args below meth c H locs cells slots cT sT Qf rls hC hM hl hlk hsk hr hE
  have h := h g A p l e R s m args below meth c H locs cells slots cT sT Qf rls hC hM hl hlk (mVk_c (i_rg _) (mVk_t (mVk_t hsk))) hr hE
  have hs := (hC.2.2.2.2.2.2.2.2.2.2.2.2.2.2.2.1.1 w hw).2.2.2
  simp only [Nat.add_comm 60 w] at hs
  refine va_tb hC.1 hC.2.1 hs hM.2.2.1 (i_in (mVk_h hsk) hi) ?_ hd h
  rw [i_nat (mVk_h hsk) hi.1]
  show Value.int _ = Value.int _
  rw [Int32.ofInt_toInt]
  rfl
theorem V_i2c {x : Int} (hd : decode q.2.1 pc = .ok (.i2c, 1)) (hv : ((Int32.ofInt x).toUInt32 % 65536).toInt32 = Int32.ofInt x) (h : V d k q (pc + 1) ls (mI x :: st) M Q) : V d k q pc ls (mI x :: st) M Q := by
  intro g A p l e R s m args below meth c H locs cells slots cT sT Qf rls hC hM hl hlk hsk hr hE
  have h := h g A p l e R s m args below meth c H locs cells slots cT sT Qf rls hC hM hl hlk hsk hr hE
  exact lv_i2c hC.1 hC.2.1 hd hv h
theorem V_sCmp (hq : q.1.cls = "java/lang/String") (hd : decode q.2.1 pc = .ok (.getstatic 38, 3)) (h : V d k q (pc + 3) ls (mI 1 :: st) M Q) : V d k q pc ls st M Q := by
  intro g A p l e R s m args below meth c H locs cells slots cT sT Qf rls hC hM hl hlk hsk hr hE
  have h := h g A p l e R s m args below meth c H locs cells slots cT sT Qf rls hC hM hl hlk (mVk_c (by decide : r32 1) hsk) hr hE
  exact va_gets hC.1 hC.2.1 hC.2.2.2.2.2.2.2.2.2.2.2.2.2.2.2.2.1 hM.2.2.1 hC.2.2.2.1 (by rw [hq]; exact hC.2.2.2.2.1 _ (mTbl_at 755 (by decide +kernel) rfl : Cond.fieldLink "java/lang/String" 38 "java/lang/String" "COMPACT_STRINGS" "Z" ∈ mTbl)) (fun _ h => h) hd h
end SRules
/-- Preconditions.checkIndex of an index that is within: whatever the third argument is -/
theorem chk3 {l : Launch} {x n : Int32} {v : Value} (h0 : ¬ x < 0) (hn : x < n) (hc : v.category = 1) (hv : v = .null ∨ ∃ a, v = .ref a) :
    Met l qJ3_checkIndex_8e157.1 (mWs qJ3_checkIndex_8e157) { frames := 1, cells := 0, slots := 0, locals := 64 } (va_Pc [.int x, .int n, v] (fun _ => True)) (va_Qi (fun (r : Int32) (_ : Unit) => r = x) (fun _ _ => True) (fun _ => False)) 0 0 (fun _ => False) := by
  refine Met.ofW (cc := cJ3_checkIndex_8e157) (maxL := 3) (ret := some .int) (by decide) rfl ?_
  intro p e s m args below meth c s₁ B hml hp
  obtain ⟨rfl, -⟩ := hp
  have hx := B.exec
  have hb := B.bytes
  have hr := B.returns
  have hlocks := B.notSynchronized
  have hl := lv_entry ([.int x, .int n, v]) (n := 3) (by rcases hv with rfl | ⟨a, rfl⟩ <;> exact Nat.le_of_ble_eq_true rfl)
  rw [lg_entry_eq]
  generalize (lg_sl ([.int x, .int n, v]) ++ List.replicate (3 - (lg_sl ([.int x, .int n, v])).length) Slot.unset).toArray = ls at hl ⊢
  have a0 : ls[0]? = some (.val (.int x)) := hl.2.2 (0, .int x) List.mem_cons_self
  have a1 : ls[1]? = some (.val (.int n)) := hl.2.2 (1, .int n) (List.mem_cons_of_mem _ List.mem_cons_self)
  refine lv_iload_n hx hb dJ3_checkIndex_8e157_0 rfl a0 ?_
  refine lv_if_lt hx hb dJ3_checkIndex_8e157_1 (tgt := 9) rfl (fun z => absurd z h0) (fun _ => ?_)
  refine lv_iload_n hx hb dJ3_checkIndex_8e157_4 rfl a0 ?_
  refine lv_iload_n hx hb dJ3_checkIndex_8e157_5 rfl a1 ?_
  refine lv_icmp_lt hx hb dJ3_checkIndex_8e157_6 (tgt := 16) rfl (fun _ => ?_) (fun z => absurd hn z)
  refine lv_iload_n hx hb dJ3_checkIndex_8e157_16 rfl a0 ?_
  exact W.iret hx hb hr (fun t ht _ => ⟨⟨x, (), rfl, rfl, trivial⟩, by rw [ht]; exact Nat.le_refl _, fun q _ _ => by rw [ht]⟩) (fun _ h => nomatch h) dJ3_checkIndex_8e157_17
section SRules2
variable {d k : Nat} {M : mM} {Q : mRes → mM → Prop}
theorem V_chk {x n : Int} {ls : List mV} (h0 : 0 ≤ x) (hn : x < n) (hd2 : 2 ≤ d) (h : V d k qJ0_checkIndex_df160 8 ls [mI x] M Q) : V d k qJ0_checkIndex_df160 2 ls [mI n, mI x] M Q := by
  intro g A p l e R s m args below meth c H locs cells slots cT sT Qf rls hC hM hl hlk hsk hr hE
  have hxr : r32 x := mVk_h (mVk_t hsk)
  have hnr : r32 n := mVk_h hsk
  have hts := hC.2.2.2.2.1
  have hF := hC.2.2.2.2.2.2.1
  have hL := hC.2.2.2.2.2.2.2.1
  have c0 : ¬ Int32.ofInt x < 0 := by rw [show (0 : Int32) = Int32.ofInt 0 from rfl, i_lt hxr r32_0]; omega
  have c1 : Int32.ofInt x < Int32.ofInt n := by rw [i_lt hxr hnr]; exact hn
  have go : ∀ v : Value, v.category = 1 → (v = .null ∨ ∃ a, v = .ref a) → W p l e R s m args below meth c H locs cells slots Qf (F0 m (2 + 3) rls (v :: [mI n, mI x].map (mRv g))) := by
    intro v hvc hv
    obtain ⟨lk, stt, ⟨c1', c2', c3', c4', c5', c6'⟩⟩ := mls_J0_1059
    have hrun := va_runS (R := R) (p := p) (e := e) (below := below) (meth := meth) (H := H) (n := 3) (As := [.int (Int32.ofInt x), .int (Int32.ofInt n), v]) (rest := []) (g := F0 m (2 + 3) rls (v :: [mI n, mI x].map (mRv g))) (cells := cells) (slots := slots) (locs := locs) (bytes := cJ3_checkIndex_8e157) (maxL := 3)
      ⟨hC.1, hC.2.1, hC.2.2.1, hC.2.2.2.1, hts⟩ (chk3 (l := l) c0 c1 hvc hv)
      ⟨⟨rfl, rfl, by show 1 + 1 ≤ _; omega, by show 8 + (3 + 11) + 64 ≤ _; omega, fun w hw a' V hW => by
          rcases List.mem_cons.mp hw with rfl | hw
          · exact mTbl_warm hts _ c2' a' V hW
          · exact mTbl_warm hts w hw a' V hW, List.mem_cons_self, hts _ c2', hts _ c1', c3', fun sig hs => by rw [hs] at c4'; exact (Option.some.inj c4').symm, hts _ lk⟩, hts _ stt⟩
      ⟨fun a V g9 mk h9 => ⟨h9.1, trivial⟩, fun V _ _ => ⟨rfl, trivial⟩⟩ rfl rfl hl.1 rfl (lv_room (by decide)) dJ0_checkIndex_df160_5 ⟨by omega, by omega⟩
    refine va_calli hrun hM.2.2.1 (fun x _ hx => hx.elim) (fun x hx => hx.elim) (fun r u t H1 locs1 ht hal hp hb h1 h2 hS => ?_)
    have hM1 : mRel g A s.heap M H1 locs1 := ⟨hM.1.kept (fun k9 x9 hx9 => h2 _ (hM.1 k9 x9 hx9).lt (fun z => z)), hM.2.1, hS, hM.2.2.2⟩
    have h9 := h g A p l e R s m args below meth c H1 locs1 (cells + 0) (slots + 0) cT sT Qf rls hC hM1 hl hlk (mVk_c hxr mVk_n) (by omega) hE
    have e9 : r = Int32.ofInt x := hp
    rw [e9]
    exact h9
  have hZ := hC.2.2.2.2.2.2.2.2.2.2.2.2.2.2.2.2.2.1
  have hlink : (Cond.fieldLink "java/lang/String" 1053 "jdk/internal/util/Preconditions" "SIOOBE_FORMATTER" "Ljava/util/function/BiFunction;").before args s = true := hts _ (mTbl_at 771 (by decide +kernel) rfl)
  rcases hZ with hZ | ⟨t, hZ⟩
  · exact va_gets hC.1 hC.2.1 hZ hM.2.2.1 hC.2.2.2.1 hlink (fun _ h => h) dJ0_checkIndex_df160_2 (go .null rfl (Or.inl rfl))
  · exact va_gets hC.1 hC.2.1 hZ hM.2.2.1 hC.2.2.2.1 hlink (fun _ h => h) dJ0_checkIndex_df160_2 (go (.ref t) rfl (Or.inr ⟨t, rfl⟩))
theorem c_chk {x n : Int} (h0 : 0 ≤ x) (hn : x < n) (h : Q (.inl none) M) : V (d + 2) k qJ0_checkIndex_df160 0 [mI x, mI n] [] M Q := by
  refine V_iload_n dJ0_checkIndex_df160_0 rfl ?_
  refine V_iload_n dJ0_checkIndex_df160_1 rfl ?_
  refine V_chk h0 hn (by omega) ?_
  refine V_pop dJ0_checkIndex_df160_8 (fun x h => by cases h) ?_
  exact V_vret dJ0_checkIndex_df160_9 rfl h
theorem c_sCoder {w : Nat} (hw : w < 3) (h : Q (.inl (some (mI 0))) M) : V d k qJ0_coder_7d493 0 [mE (w + 10)] [] M Q := by
  refine V_sCmp rfl dJ0_coder_7d493_0 ?_
  refine V_if_eq dJ0_coder_7d493_3 (tgt := 13) rfl (fun z => by omega) (fun _ => ?_)
  refine V_aloadE_n dJ0_coder_7d493_6 rfl ?_
  refine V_sCod hw rfl dJ0_coder_7d493_7 ?_
  refine V_goto dJ0_coder_7d493_10 (tgt := 14) rfl ?_
  exact V_ret (r := some (mI 0)) dJ0_coder_7d493_14 rfl (by decide : (-128 : Int) ≤ 0 ∧ (0 : Int) ≤ 127) h
theorem c_sLatin {w : Nat} (hw : w < 3) (h : Q (.inl (some (mI 1))) M) : V d k qJ0_isLatin1_aae02 0 [mE (w + 10)] [] M Q := by
  refine V_sCmp rfl dJ0_isLatin1_aae02_0 ?_
  refine V_if_eq dJ0_isLatin1_aae02_3 (tgt := 17) rfl (fun z => by omega) (fun _ => ?_)
  refine V_aloadE_n dJ0_isLatin1_aae02_6 rfl ?_
  refine V_sCod hw rfl dJ0_isLatin1_aae02_7 ?_
  refine V_if_ne dJ0_isLatin1_aae02_10 (tgt := 17) rfl (fun z => absurd rfl z) (fun _ => ?_)
  refine V_iconst dJ0_isLatin1_aae02_13 (by decide) ?_
  refine V_goto dJ0_isLatin1_aae02_14 (tgt := 18) rfl ?_
  exact V_zret dJ0_isLatin1_aae02_18 rfl (by decide) h
theorem c_sLength {w : Nat} (hw : w < 3) (h : Q (.inl (some (mI (sLen w)))) M) : V (d + 1) k qJ0_length_8abf5 0 [mE (w + 10)] [] M Q := by
  refine V_aloadE_n dJ0_length_8abf5_0 rfl ?_
  refine V_sVal hw rfl dJ0_length_8abf5_1 ?_
  refine V_sLen hw dJ0_length_8abf5_4 ?_
  refine V_aloadE_n dJ0_length_8abf5_5 rfl ?_
  refine V_callE (d' := d) (k' := 0) (w := w) [] [mE (w + 10)] hw rfl dJ0_length_8abf5_6 mls_J0_335 rfl rfl (Nat.le_of_ble_eq_true rfl) (Nat.le_of_ble_eq_true rfl) (Nat.le_refl _) (Nat.zero_le _) ?_
  refine c_sCoder hw ?_
  show V (d + 1) _ qJ0_length_8abf5 9 _ ([mI 0] ++ [mI (sLen w)]) M Q
  refine V_ishr dJ0_length_8abf5_9 ?_
  rw [show (Int32.ofInt (sLen w) >>> (Int32.ofInt 0 &&& 31)).toInt = sLen w by
    rcases (show w = 0 ∨ w = 1 ∨ w = 2 by omega) with rfl | rfl | rfl <;> decide +kernel]
  exact V_iret dJ0_length_8abf5_10 rfl h
theorem c_sChar1 {w : Nat} {i : Int} (hw : w < 3) (hi : 0 ≤ i ∧ i < sLen w) (h : Q (.inl (some (mI (sByt w i.toNat).toInt))) M) : V (d + 3) k qJ1_charAt_3b067 0 [mE (w + 60), mI i] [] M Q := by
  refine V_iload_n dJ1_charAt_3b067_0 rfl ?_
  refine V_aloadE_n dJ1_charAt_3b067_1 rfl ?_
  refine V_sLen hw dJ1_charAt_3b067_2 ?_
  refine V_callS (d' := d + 2) (k' := 0) [mI i, mI (sLen w)] [mI i, mI (sLen w)] dJ1_charAt_3b067_3 mls_J1_9 rfl rfl (Nat.le_of_ble_eq_true rfl) (Nat.le_of_ble_eq_true rfl) (Nat.le_refl _) (Nat.zero_le _) ?_
  refine c_chk hi.1 hi.2 ?_
  show V (d + 3) _ qJ1_charAt_3b067 6 _ ([] ++ []) M Q
  refine V_aloadE_n dJ1_charAt_3b067_6 rfl ?_
  refine V_iload_n dJ1_charAt_3b067_7 rfl ?_
  refine V_sBa hw dJ1_charAt_3b067_8 hi ?_
  refine V_sipush dJ1_charAt_3b067_9 (by decide) (by decide) ?_
  refine V_iand dJ1_charAt_3b067_12 ?_
  have hb : ∀ w : Fin 3, ∀ j : Fin 8, (Int32.ofInt (sByt w j).toInt &&& Int32.ofInt 255).toInt = (sByt w j).toInt ∧ 0 ≤ (sByt w j).toInt ∧ (sByt w j).toInt ≤ 65535 ∧ ((Int32.ofInt (sByt w j).toInt).toUInt32 % 65536).toInt32 = Int32.ofInt (sByt w j).toInt := by decide +kernel
  have hl8 : sLen w ≤ 8 := by rcases (show w = 0 ∨ w = 1 ∨ w = 2 by omega) with rfl | rfl | rfl <;> decide
  obtain ⟨b1, b2, b3, b4⟩ := hb ⟨w, hw⟩ ⟨i.toNat, by omega⟩
  simp only at b1 b2 b3 b4
  rw [b1]
  refine V_i2c dJ1_charAt_3b067_13 b4 ?_
  exact V_ret (r := some (mI (sByt w i.toNat).toInt)) dJ1_charAt_3b067_14 rfl (show mOut (some .char) (some (mI (sByt w i.toNat).toInt)) from ⟨b2, b3⟩) h
theorem c_sCharAt {w : Nat} {i : Int} (hw : w < 3) (hi : 0 ≤ i ∧ i < sLen w) (h : Q (.inl (some (mI (sByt w i.toNat).toInt))) M) : V (d + 4) k qJ0_charAt_5068e 0 [mE (w + 10), mI i] [] M Q := by
  have hb : ∀ w : Fin 3, ∀ j : Fin 8, 0 ≤ (sByt w j).toInt ∧ (sByt w j).toInt ≤ 65535 := by decide +kernel
  have hl8 : sLen w ≤ 8 := by rcases (show w = 0 ∨ w = 1 ∨ w = 2 by omega) with rfl | rfl | rfl <;> decide
  obtain ⟨b2, b3⟩ := hb ⟨w, hw⟩ ⟨i.toNat, by omega⟩
  simp only at b2 b3
  refine V_aloadE_n dJ0_charAt_5068e_0 rfl ?_
  refine V_callE (d' := d + 3) (k' := 0) (w := w) [] [mE (w + 10)] hw rfl dJ0_charAt_5068e_1 mls_J0_492 rfl rfl (Nat.le_of_ble_eq_true rfl) (Nat.le_of_ble_eq_true rfl) (Nat.le_refl _) (Nat.zero_le _) ?_
  refine c_sLatin hw ?_
  show V (d + 4) _ qJ0_charAt_5068e 4 _ ([mI 1] ++ []) M Q
  refine V_if_eq dJ0_charAt_5068e_4 (tgt := 16) rfl (fun z => by omega) (fun _ => ?_)
  refine V_aloadE_n dJ0_charAt_5068e_7 rfl ?_
  refine V_sVal hw rfl dJ0_charAt_5068e_8 ?_
  refine V_iload_n dJ0_charAt_5068e_11 rfl ?_
  refine V_callS (d' := d + 3) (k' := 0) [mE (w + 60), mI i] [mE (w + 60), mI i] dJ0_charAt_5068e_12 mls_J0_495 rfl rfl (Nat.le_of_ble_eq_true rfl) (Nat.le_of_ble_eq_true rfl) (Nat.le_refl _) (Nat.zero_le _) ?_
  refine c_sChar1 hw hi ?_
  show V (d + 4) _ qJ0_charAt_5068e 15 _ ([mI _] ++ []) M Q
  exact V_ret (r := some (mI (sByt w i.toNat).toInt)) dJ0_charAt_5068e_15 rfl (show mOut (some .char) (some (mI (sByt w i.toNat).toInt)) from ⟨b2, b3⟩) h
/-- the calls of Reader.isWord -/
theorem V_wLen {w : Nat} {ls st : List mV} {q : mMth} {pc : Nat} (hw : w < 3) (hq : q.1.cls = "BinProver$Reader") (hd : decode q.2.1 pc = .ok (.invokevirtual 97, 3)) (hst : (st.map mCt).sum ≤ 8) (h : V (d + 2) k q (pc + 3) ls (mI (sLen w) :: st) M Q) : V (d + 2) k q pc ls (mE (w + 10) :: st) M Q := by
  refine V_callE (d' := d + 1) (k' := 0) (w := w) [] [mE (w + 10)] hw rfl hd (by rw [hq]; exact mls_X6_97) rfl rfl (Nat.le_of_ble_eq_true rfl) hst (Nat.le_refl _) (Nat.zero_le _) ?_
  exact c_sLength hw h
theorem V_wChar {w : Nat} {i : Int} {ls st : List mV} {q : mMth} {pc : Nat} (hw : w < 3) (hi : 0 ≤ i ∧ i < sLen w) (hq : q.1.cls = "BinProver$Reader") (hd : decode q.2.1 pc = .ok (.invokevirtual 103, 3)) (hst : (st.map mCt).sum ≤ 8) (h : V (d + 5) k q (pc + 3) ls (mI (sByt w i.toNat).toInt :: st) M Q) : V (d + 5) k q pc ls (mI i :: mE (w + 10) :: st) M Q := by
  refine V_callE (d' := d + 4) (k' := 0) (w := w) [mI i] [mE (w + 10), mI i] hw rfl hd (by rw [hq]; exact mls_X6_103) rfl rfl (Nat.le_of_ble_eq_true rfl) hst (Nat.le_refl _) (Nat.zero_le _) ?_
  exact c_sCharAt hw hi h
end SRules2
