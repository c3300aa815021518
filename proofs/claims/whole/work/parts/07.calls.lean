/-! ends, throws and calls -/
def mA (g : mG) (sz : Nat) : Nat → Prop := fun x => (g.1 ≤ x ∧ x < g.1 + mShL.length) ∨ sz ≤ x
theorem mWd_ad {b0 : Nat} {κ : Nat → ClassId} {M : mM} {k : Nat} {q : Nat × va_E} (h : (mWd b0 κ M)[k]? = some q) : k < mShL.length ∧ q.1 = b0 + k := by
  unfold mWd at h
  rw [List.getElem?_map] at h
  by_cases hk : k < mShL.length
  · rw [List.getElem?_range hk] at h
    cases h
    exact ⟨hk, rfl⟩
  · rw [List.getElem?_eq_none (by rw [List.length_range]; omega)] at h
    cases h
theorem mD_any {A : Nat → Prop} {g : mG} {M : mM} (h : ∀ x, g.1 ≤ x ∧ x < g.1 + mShL.length → A x) : va_D A (mWd g.1 g.2.2.2.1 M) := by
  refine ⟨fun i j p q hi hj hpq => ?_, fun k q hk => ?_⟩
  · have h1 := mWd_ad hi
    have h2 := mWd_ad hj
    omega
  · have h1 := mWd_ad hk
    exact h _ (by omega)
theorem mD_A {A : Nat → Prop} {g : mG} {M : mM} (h : va_D A (mWd g.1 g.2.2.2.1 M)) : ∀ x, g.1 ≤ x ∧ x < g.1 + mShL.length → A x := by
  intro x hx
  have hk : x - g.1 < mShL.length := by omega
  have hg : (mWd g.1 g.2.2.2.1 M)[x - g.1]? = some (g.1 + (x - g.1), mEnt g.1 g.2.2.2.1 M (x - g.1)) := mWd_get (kl := mShL[x - g.1]) (List.getElem?_eq_getElem hk)
  have h1 := h.2 _ _ hg
  have e : g.1 + (x - g.1) = x := by omega
  rw [← e]
  exact h1
/-- what lies outside, seen from a callee -/
theorem mExt_call {g : mG} {A A' : Nat → Prop} {l : Launch} {s U : State} {H : Heap} {locs : List Loc} (h : mExt g A l s) (hS : va_S A s.heap H locs) (hAA : ∀ x, x < H.size → A' x → A x) (hA : ∀ x, s.heap.size ≤ x → A x) (hA' : ∀ x, H.size ≤ x → A' x) (hU : U.heap = H) (hW : s.WarmedH U.vm) : mExt g A' l U := by
  have hAB : ∀ x, A' x → A x := fun x hx => by
    rcases Nat.lt_or_ge x H.size with z | z
    · exact hAA x z hx
    · exact hA x (Nat.le_trans hS.1 z)
  obtain ⟨h1, ⟨h2, h3⟩, ⟨h4, h5⟩, ⟨h6, h7, h8⟩, h9, h10, h11, h12, h13, h14⟩ := h
  subst hU
  refine ⟨h1, ⟨((h2.kept hS.2.1).moved hW.alike).narrow hAB, ((h3.kept hS.2.1).moved hW.alike).narrow hAB⟩, ⟨((h4.kept hS.2.1).moved hW.alike).narrow hAB, ((h5.kept hS.2.1).moved hW.alike).narrow hAB⟩,
    ⟨(h6.kept (hS.2.1 _ h7 h8)).moved hW.alike, Nat.lt_of_lt_of_le h7 hS.1, fun z => h8 (hAB _ z)⟩, fun i o ho => vk_R.warm hW (h9 i o ho), ((h10.kept hS.2.1).moved hW.alike).narrow hAB, ((h11.kept hS.2.1).moved hW.alike).narrow hAB, ((h12.kept hS.2.1).moved hW.alike).narrow hAB, fun w hw hc => ?_, h14.moved hW.alike⟩
  have h15 := h13 w hw hc
  cases w with
  | castable C T => exact va_Nw.warmC hW h15
  | declares x => exact va_Nw.warmD hW h15
  | _ => cases hc
/-- a method's start, its end, what it throws -/
def mW1 (g : mG) (M : mM) (sz : Nat) (t : State) : Prop := va_P (g.2.1, g.2.2.1) vwCl (mWd g.1 g.2.2.2.1 M) t.heap ∧ mOK M ∧ M (-1) (-1) = g.2.2.2.2.2.2 ∧ ∀ j : Nat, j < g.2.2.2.2.2.2 → M (-1) j = (g.2.2.2.2.2.1 j).toInt
def mPc (g : mG) (l : Launch) (As : List mV) (M : mM) (sz : Nat) : Array Value → State → Prop := fun v U => v = (As.map (mRv g)).toArray ∧ U.heap.size = sz ∧ mW1 g M sz U ∧ va_K (g.2.1, g.2.2.1) vwCl (mTy g.2.2.2.1) U ∧ mExt g (mA g sz) l U
def mQc (g : mG) (q : mMth) (sz : Nat) (Q : mRes → mM → Prop) : Array Value → State → Outcome → State → Prop := fun _ st o t => (∃ (r : Option mV) (M' : mM), o = .returned (r.map (mRv g)) ∧ Q (.inl r) M' ∧ mOut q.2.2.2 r ∧ mW1 g M' sz t) ∧ va_F (mA g sz) st t
def mXc (g : mG) (sz : Nat) (Q : mRes → mM → Prop) : String → State → State → Prop := fun E st t => (∃ (En : Nat) (M' : mM), E = mXn En ∧ Q (.inr En) M' ∧ mW1 g M' sz t) ∧ va_F (mA g sz) st t
theorem mPc_blind {g : mG} {l : Launch} {As : List mV} {M : mM} {sz : Nat} : FrameBlind (mPc g l As M sz) := by
  rintro a U g9 mk ⟨h1, h2, h3, h4, h5⟩
  refine ⟨h1, h2, h3, va_K.moved (u := U) (U := U.calling g9 mk a) (Vm.Alike.refl U.vm) h4, ?_⟩
  exact mExt_call (U := U.calling g9 mk a) (locs := []) h5 va_S.rf (fun _ _ h => h) (fun x hx => Or.inr (by rw [← h2]; exact hx)) (fun x hx => Or.inr (by rw [← h2]; exact hx)) rfl (State.WarmedH.refl U)
/-- the locals at a method's start -/
def mFlat : List mV → List mV
  | [] => []
  | v :: vs => match v with
    | Sum.inr (Sum.inl x) => mL x :: mE 0 :: mFlat vs
    | v => v :: mFlat vs
def mArg (nL : Nat) (As : List mV) : List mV := mFlat As ++ List.replicate (nL - (mFlat As).length) (mE 0)
theorem mFlat_len {g : mG} : ∀ As : List mV, (lg_sl (As.map (mRv g))).length = (mFlat As).length
  | [] => rfl
  | v :: vs => by
    have ih := mFlat_len (g := g) vs
    unfold lg_sl at ih ⊢
    rw [List.map_cons, List.flatMap_cons, List.length_append, ih]
    rcases v with x | x | x | x
    · show 1 + _ = (_ :: mFlat vs).length; simp; omega
    · show 2 + _ = (_ :: _ :: mFlat vs).length; simp; omega
    · show 1 + _ = (_ :: mFlat vs).length; simp; omega
    · show 1 + _ = (_ :: mFlat vs).length; simp; omega
theorem mFlat_at {g : mG} : ∀ (As : List mV) (i j : Nat) (v : mV), (mFlat As)[j]? = some v → v ≠ mE 0 → (i + j, mRv g v) ∈ lv_args i (As.map (mRv g))
  | [], i, j, v, h, _ => by simp [mFlat] at h
  | u :: us, i, j, v, h, h0 => by
    have ih := mFlat_at (g := g) us
    have one : (∀ x, u ≠ mL x) → mFlat (u :: us) = u :: mFlat us := fun hu => by
      rcases u with x | x | x | x
      · rfl
      · exact absurd rfl (hu x)
      · rfl
      · rfl
    rw [List.map_cons]
    by_cases hu : ∃ x, u = mL x
    · obtain ⟨x, rfl⟩ := hu
      change (mL x :: mE 0 :: mFlat us)[j]? = some v at h
      match j, h with
      | 0, h => cases h; exact List.mem_cons_self
      | 1, h => cases h; exact absurd rfl h0
      | j + 2, h =>
        have h2 := ih (i + 2) j v h h0
        rw [show i + (j + 2) = i + 2 + j by omega]
        exact List.mem_cons_of_mem _ h2
    · rw [one (fun x hx => hu ⟨x, hx⟩)] at h
      have hc : (mRv g u).category = 1 := mRv_c1 (fun x hx => hu ⟨x, hx⟩)
      match j, h with
      | 0, h => cases h; exact List.mem_cons_self
      | j + 1, h =>
        have h2 := ih (i + 1) j v h h0
        rw [show i + (j + 1) = i + 1 + j by omega]
        refine List.mem_cons_of_mem _ ?_
        rw [if_neg (by rw [hc]; decide)]
        exact h2
theorem mArg_lv {g : mG} {nL : Nat} {As : List mV} : ∀ x ∈ mLv g (mArg nL As), x ∈ lv_args 0 (As.map (mRv g)) := by
  rintro ⟨j, w⟩ hq
  obtain ⟨v, hv, h0, rfl⟩ := mLv_mem.mp hq
  unfold mArg at hv
  by_cases hj : j < (mFlat As).length
  · rw [List.getElem?_append_left hj] at hv
    have h1 := mFlat_at (g := g) As 0 j v hv h0
    rw [Nat.zero_add] at h1
    exact h1
  · rw [List.getElem?_append_right (by omega), List.getElem?_replicate] at hv
    split at hv
    · cases hv; exact absurd rfl h0
    · cases hv
theorem mArg_ok {nL : Nat} {As : List mV} (h : ∀ v ∈ As, mVk v) : ∀ v ∈ mArg nL As, mVk v := by
  have fl : ∀ L : List mV, (∀ v ∈ L, mVk v) → ∀ v ∈ mFlat L, mVk v := by
    intro L
    induction L with
    | nil => intro _ v hv; cases hv
    | cons u us ih =>
      intro hL v hv
      have hu := hL u List.mem_cons_self
      have ih := ih (fun v hv => hL v (List.mem_cons_of_mem _ hv))
      rcases u with x | x | x | x
      · rcases List.mem_cons.mp hv with rfl | hv
        · exact hu
        · exact ih v hv
      · rcases List.mem_cons.mp hv with rfl | hv
        · exact hu
        · rcases List.mem_cons.mp hv with rfl | hv
          · exact trivial
          · exact ih v hv
      · rcases List.mem_cons.mp hv with rfl | hv
        · exact hu
        · exact ih v hv
      · rcases List.mem_cons.mp hv with rfl | hv
        · exact hu
        · exact ih v hv
  intro v hv
  rcases List.mem_append.mp hv with h1 | h1
  · exact fl As h v h1
  · rw [(List.mem_replicate.mp h1).2]; exact trivial
/-- a method's own words -/
abbrev mWs (q : mMth) : List Cond := .code q.1 q.2.1 q.2.2.1 q.2.2.2 :: mTbl
abbrev mRm (d k : Nat) : Room := { frames := d, cells := k, slots := 6 * k, locals := 64 * d }
theorem mNarC {x : Int} (hx : 0 ≤ x ∧ x ≤ 65535) : narrow .char (.int (Int32.ofInt x)) = .int (Int32.ofInt x) := by
  obtain ⟨n, rfl⟩ : ∃ n : Nat, x = n := ⟨x.toNat, by omega⟩
  exact (pk_charN (show n < 65536 by omega)).1
set_option maxHeartbeats 1000000 in
theorem V_met {d k : Nat} {q : mMth} {As : List mV} {M : mM} {Q : mRes → mM → Prop} {g : mG} {l : Launch} {sz : Nat} (h : V d k q 0 (mArg q.2.2.1 As) [] M Q) (hpl : plainName q.1.cls = true) (hln : (mFlat As).length ≤ q.2.2.1) (hAs : ∀ v ∈ As, mVk v) :
    vx_Met l q.1 (mWs q) (mRm d k) (mPc g l As M sz) (mQc g q sz Q) (mXc g sz Q) k (6 * k) (mA g sz) := by
  refine vx_ofW (cc := q.2.1) (maxL := q.2.2.1) (ret := q.2.2.2) hpl rfl ?_
  intro p e s m args below meth c s₁ B hml htab hv
  obtain ⟨rfl, hsz, ⟨hP, hok, hs1, hs2⟩, hK, hX⟩ := hv
  subst hsz
  have hts := atoms_spec (ws := mWs q) B.pre
  have hown : s.vm.findClass q.1.cls = some m.cls := findClass_of_methodNamed B.named
  have hlocks := B.notSynchronized
  have hr := B.returns
  have hx := B.exec
  have hb := B.bytes
  have hAz : ∀ x : Nat, s.heap.size ≤ x → mA g s.heap.size x := fun x hx => Or.inr hx
  have hS : va_S (mA g s.heap.size) s.heap s.heap [] := va_S.rf
  have hl := lv_entry (As.map (mRv g)) (n := q.2.2.1) (by rw [mFlat_len]; exact hln)
  rw [lg_entry_eq]
  refine h g (mA g s.heap.size) p l e _ s m _ below meth c s.heap [] 0 0 k (6 * k) _ _ ⟨hx, hb, hml, hown, fun w hw => hts w (List.mem_cons_of_mem _ hw), hlocks, Nat.le_refl _, Nat.le_refl _, hK, hAz, hX⟩
    ⟨hP, mD_any (fun x hx => Or.inl hx), hS, hok, hs1, hs2⟩ (hl.mono mArg_lv) (mArg_ok hAs) mVk_n ⟨by omega, by omega, Nat.le_refl _, Nat.le_refl _⟩ ⟨?_, ?_, ?_⟩
  · intro r M' H' locs' cells' slots' pc' rls' hQ hM' hout hc hs hdec
    refine vx_ret (W.widen (k := k) (n := 6 * k) hc hs ?_)
    have fin : ∀ t : State, t.heap = H' → mQc g q s.heap.size Q ((As.map (mRv g)).toArray) s (.returned (r.map (mRv g))) t := fun t ht => ⟨⟨r, M', rfl, hQ, hout, by unfold mW1; rw [ht]; exact ⟨hM'.1, hM'.2.2.2⟩⟩, hM'.2.2.1.F ht⟩
    have hf := hM'.2.2.1.2.2
    revert hout hdec hr fin
    generalize q.2.2.2 = rt
    intro hr hout hdec fin
    match rt, r, hout with
    | none, none, _ => exact W.vret hx hb hr (fun t ht _ => fin t ht) hf hdec
    | some .int, some (Sum.inl x), ho => exact W.zret hx hb hr (vp_nar_int _) (fun t ht _ => fin t ht) hf hdec
    | some .boolean, some (Sum.inl x), ho => exact W.zret hx hb hr (by rcases (show x = 0 ∨ x = 1 by have := ho.1; have := ho.2; omega) with rfl | rfl <;> rfl) (fun t ht _ => fin t ht) hf hdec
    | some .byte, some (Sum.inl x), ho => exact W.zret hx hb hr (by have h1 := mNarB ho; have h2 : narrow .byte (.int (Int32.ofInt x)) = .int (vp_nar .byte (Int32.ofInt x)) := rfl; rw [h2, h1]) (fun t ht _ => fin t ht) hf hdec
    | some .char, some (Sum.inl x), ho => exact W.zret hx hb hr (mNarC ho) (fun t ht _ => fin t ht) hf hdec
    | some .long, some (Sum.inr (Sum.inl x)), ho => exact W.lret hx hb hr (fun t ht _ => fin t ht) hf hdec
    | some (.object n9), some (Sum.inr (Sum.inr (Sum.inl (k9, l9, n)))), ho => exact W.aret hx hb hr (Or.inl ⟨_, rfl⟩) (Or.inr ⟨_, rfl⟩) (fun t ht _ => fin t ht) hf hdec
  · intro E M' H' locs' cells' slots' pc' rls' rst hQ hM' hc hs hT h7 h160 hrs hrst
    obtain ⟨ik, is, ic, i9, tx, d0, d3, hstr, hk, hini, hfit, hat, hd⟩ := hT
    have hword : ∀ w ∈ tx_at q.1.cls ic (mXn E) (mXi E).1 (mXi E).2 ["java/lang/RuntimeException", "java/lang/Exception"], w.before _ s = true := fun w hw => by
      rcases (hat w hw).1 with h1 | ⟨h1, h2⟩
      · exact hts w (List.mem_cons_of_mem _ h1)
      · exact va_Nw.use (by cases w <;> first | rfl | cases h2) (hX.2.2.2.2.2.2.2.2.1 w h1 h2)
    have hg9 : ∀ w ∈ Cond.classLink q.1.cls ik (mXn E) :: Cond.initialized (mXn E) :: tx_at q.1.cls ic (mXn E) (mXi E).1 (mXi E).2 ["java/lang/RuntimeException", "java/lang/Exception"], vx_ot w = true := fun w hw => by
      rcases List.mem_cons.mp hw with rfl | hw
      · rfl
      · rcases List.mem_cons.mp hw with rfl | hw
        · rfl
        · exact (hat w hw).2
    have hnm : ∀ n ∈ ["java/lang/RuntimeException", "java/lang/Exception"], Bundle.fit n = true := by decide +kernel
    have hxc : ∀ t : State, s.vm.Alike t.vm → H'.size ≤ t.heap.size → (∀ z : Nat, z < H'.size → t.heap[z]? = H'[z]?) → mXc g s.heap.size Q (mXn E) s t := fun t _ hz hk9 => by
      refine ⟨⟨E, M', rfl, hQ, hM'.1.kept (fun k9 x9 hx9 => hk9 _ (hM'.1 k9 x9 hx9).lt), hM'.2.2.2⟩, Nat.le_trans hM'.2.2.1.1 hz, fun x9 hx9 hA9 => ?_⟩
      rw [hk9 x9 (Nat.lt_of_lt_of_le hx9 hM'.2.2.1.1)]
      exact hM'.2.2.1.2.1 x9 hx9 hA9
    have hmls : rls'.size = c.maxLocals := by rw [hml]; exact hrs
    rcases hd with ⟨d4, d6, d9⟩ | ⟨d4, d7, d10⟩
    · exact tx_throwS (A := mA g s.heap.size) hx hb hX.1 (mXd E) hown hfit hnm (hts _ (List.mem_cons_of_mem _ hk)) (hts _ (List.mem_cons_of_mem _ hini)) (hX.2.2.2.2.1 i9 _ hstr) hword hg9 hX.2.1.1 hX.2.1.2 hM'.2.2.1 hmls d0 d3 d4 d6 d9 (fun x9 hx9 => (htab x9 hx9).elim) (by show 2 + 3 < d; have : 7 ≤ d := h7; omega) (by show _ + (13 * (2 + 1) + 43) ≤ 64 * d; have : 7 ≤ d := h7; omega) (by show _ ≤ k; exact hc) (by show _ ≤ 6 * k; exact hs) hlocks hxc hM'.2.2.1.2.2 hc hs
    · exact tx_throwSW (A := mA g s.heap.size) hx hb hX.1 (mXd E) hown hfit hnm (hts _ (List.mem_cons_of_mem _ hk)) (hts _ (List.mem_cons_of_mem _ hini)) (hX.2.2.2.2.1 i9 _ hstr) hword hg9 hX.2.1.1 hX.2.1.2 hM'.2.2.1 hmls d0 d3 d4 d7 d10 (fun x9 hx9 => (htab x9 hx9).elim) (by show 2 + 3 < d; have : 7 ≤ d := h7; omega) (by show _ + (13 * (2 + 1) + 43) ≤ 64 * d; have : 7 ≤ d := h7; omega) (by show _ ≤ k; exact hc) (by show _ ≤ 6 * k; exact hs) hlocks hxc hM'.2.2.1.2.2 hc hs
  · intro E M' H' locs' cells' slots' pc' rls' rst x ce hQ hM' hc hs hcell hv hcl
    exact vx_out (fun x9 hx9 => (htab x9 hx9).elim) hlocks hcell hv hcl (fun t ht _ => ⟨⟨E, M', rfl, hQ, by unfold mW1; rw [ht]; exact ⟨hM'.1, hM'.2.2.2⟩⟩, hM'.2.2.1.F ht⟩) hM'.2.2.1.2.2 hc hs
