set_option maxHeartbeats 4000000 in
theorem whole_start {p : Program} {e : Env} {s : State} {m : MethodId} {below : List Frame} {meth : Method} {c : Code} (l : Launch) (hflags : l.flags = flags0) {b L : Nat} {xs : Nat → Int32} (hL : L ≤ 3072) (C0 : lw_At p s m meth c b L xs) : W p l e room_1 s m #[Value.ref b] below meth c s.heap [] 0 0 (lw_Z below #[Value.ref b] s) (entryFrame m ([Value.ref b] : List Value).toArray 7) := by
  obtain ⟨adr, hadr, hext⟩ := ext0 hflags C0
  obtain ⟨hx, hb, hr, hml, hown, hts, hX, hbl, hlocks, hgv⟩ := id C0
  have htm : ∀ w ∈ mTbl, w.before #[Value.ref b] s = true := fun w hw => hts w (List.mem_filter.mp hw).1
  obtain ⟨c0, i0, hk0⟩ := u_known (C := RX1) (T := TX1) (N := 3) (n := 3) htm uw_0 (htm _ (mTbl_at 341 (by decide +kernel) rfl))
  obtain ⟨c1, i1, hk1⟩ := u_known (C := RX2) (T := TX2) (N := 5) (n := 5) htm uw_1 (htm _ (mTbl_at 129 (by decide +kernel) rfl))
  obtain ⟨c2, i2, hk2⟩ := u_known (C := RX3) (T := TX3) (N := 4) (n := 4) htm uw_2 (htm _ (mTbl_at 321 (by decide +kernel) rfl))
  obtain ⟨c3, i3, hk3⟩ := u_known (C := RX4) (T := TX4) (N := 5) (n := 5) htm uw_3 (htm _ (mTbl_at 248 (by decide +kernel) rfl))
  obtain ⟨c4, i4, hk4⟩ := u_known (C := RX6) (T := TX6) (N := 8) (n := 8) htm uw_4 (htm _ (mTbl_at 123 (by decide +kernel) rfl))
  obtain ⟨c5, i5, hk5⟩ := u_known (C := RX7) (T := TX7) (N := 7) (n := 7) htm uw_5 (htm _ (mTbl_at 215 (by decide +kernel) rfl))
  obtain ⟨c6, i6, hk6⟩ := u_known (C := RX8) (T := TX8) (N := 10) (n := 10) htm uw_6 (htm _ (mTbl_at 273 (by decide +kernel) rfl))
  obtain ⟨c7, i7, hk7⟩ := u_known (C := RX9) (T := TX9) (N := 15) (n := 15) htm uw_7 (htm _ (mTbl_at 115 (by decide +kernel) rfl))
  obtain ⟨c8, i8, hk8⟩ := u_known (C := RX10) (T := TX10) (N := 58) (n := 58) htm uw_8 (htm _ (mTbl_at 1188 (by decide +kernel) rfl))
  obtain ⟨dC, dI, hKc⟩ : ∃ (dC : Nat → ClassId) (dI : Nat → Nat → Nat), ∀ (k : Nat) (q : vw_C), vwCl[k]? = some q → u_Kn s q.1 q.2.1 q.2.2 (dC k) (dI k) := by
    refine ⟨fun k => [c0, c1, c2, c3, c4, c5, c6, c7, c8].getD k c0, fun k => [i0, i1, i2, i3, i4, i5, i6, i7, i8].getD k i0, ?_⟩
    intro k q hq
    match k, hq with
    | 0, hq => cases hq; exact hk0
    | 1, hq => cases hq; exact hk1
    | 2, hq => cases hq; exact hk2
    | 3, hq => cases hq; exact hk3
    | 4, hq => cases hq; exact hk4
    | 5, hq => cases hq; exact hk5
    | 6, hq => cases hq; exact hk6
    | 7, hq => cases hq; exact hk7
    | 8, hq => cases hq; exact hk8
    | k + 9, hq => simp [vwCl] at hq
  obtain ⟨a0, ka0, ca0, fa0, ga0, ha0⟩ := Cond.arrayClass_spec (htm (.arrayClass .int) (mTbl_at 182 (by decide +kernel) rfl))
  obtain ⟨a1, ka1, ca1, fa1, ga1, ha1⟩ := Cond.arrayClass_spec (htm (.arrayClass .long) (mTbl_at 211 (by decide +kernel) rfl))
  obtain ⟨a2, ka2, ca2, fa2, ga2, ha2⟩ := Cond.arrayClass_spec (htm (.arrayClass .byte) (mTbl_at 181 (by decide +kernel) rfl))
  obtain ⟨a3, ka3, ca3, fa3, ga3, ha3⟩ := Cond.arrayClass_spec (htm (.arrayClass .boolean) (mTbl_at 1368 (by decide +kernel) rfl))
  have hov : (Cond.arrayOver (.array .int)).before #[Value.ref b] s = true := hts _ (List.mem_of_getElem? (i := 281) (by decide +kernel))
  obtain ⟨ca4, a4, ka4, fc4, ga4, ha4, fa4⟩ := Cond.arrayOver_specA hov
  have hK : va_K (dC, dI) vwCl (mTy (fun k => [a0, a1, a2, a3, a4].getD k a0)) s := by
    refine ⟨hKc, fun k q hq => ?_⟩
    match k, hq with
    | 0, hq => cases hq; exact ⟨fun n9 z9 => ⟨(fun k h => by cases h), ka0, ga0, ca0, ha0⟩, fa0⟩
    | 1, hq => cases hq; exact ⟨fun n9 z9 => ⟨(fun k h => by cases h), ka1, ga1, ca1, ha1⟩, fa1⟩
    | 2, hq => cases hq; exact ⟨fun n9 z9 => ⟨(fun k h => by cases h), ka2, ga2, ca2, ha2⟩, fa2⟩
    | 3, hq => cases hq; exact ⟨fun n9 z9 => ⟨(fun k h => by cases h), ka3, ga3, ca3, ha3⟩, fa3⟩
    | 4, hq => cases hq; exact ⟨fun n9 z9 => ⟨(fun k h => by cases h), ka4, ga4, ca4, ha4⟩, fa4⟩
    | k + 5, hq => simp at hq
  generalize (fun k => [a0, a1, a2, a3, a4].getD k a0) = κ at hK
  have hE := hext dC dI κ
  obtain ⟨g, hg⟩ : ∃ g : mG, g = (s.heap.size, dC, dI, κ, adr, xs, L) := ⟨_, rfl⟩
  have hg1 : g.1 = s.heap.size := by rw [hg]
  have hK : va_K (g.2.1, g.2.2.1) vwCl (mTy g.2.2.2.1) s := by rw [hg]; exact hK
  have hE : mExt g (fun x => s.heap.size ≤ x) l s := by rw [hg]; exact hE
  have hkx : kExt s := by
    refine ⟨over_moved (Vm.Alike.refl s.vm) hov, fun w hw hk => ?_⟩
    exact va_Nw.of (by cases w <;> first | rfl | cases hk) (hts w hw)
  have hl := lv_entry (([mE 2] : List mV).map (mRv g)) (n := 7) (Nat.le_of_ble_eq_true rfl)
  have hl := hl.mono (mArg_lv (g := g) (nL := 7) (As := [mE 2]))
  have eb : ([mE 2] : List mV).map (mRv g) = [.ref b] := by
    show [Value.ref (g.2.2.2.2.1 2)] = _
    rw [hg]
    show [Value.ref (adr 2)] = _
    rw [hadr]
  rw [eb] at hl
  rw [lg_entry_eq]
  have hA1 : kA g = fun x => s.heap.size ≤ x := by funext x; unfold kA; rw [hg1]
  refine l_ctor (g := g) (L := (L : Int)) (xs := fun j => (xs j.toNat).toInt) (F := fun _ => .inr (0, [])) (Q := fun _ _ => False) p l e room_1 s m #[Value.ref b] below meth c s.heap [] 0 0 200 40000 _ _
    ⟨hx, hb, hml, hown, htm, Nat.le_of_ble_eq_true rfl, Nat.le_of_ble_eq_true rfl, hK, Nat.le_of_eq hg1, hkx, fun h => absurd h (by decide)⟩ ⟨⟨by rw [hg1]; rfl, fun i hi => absurd hi (Nat.not_lt_zero i)⟩, va_S.rf⟩ hl ⟨Nat.le_of_ble_eq_true rfl, Nat.le_of_ble_eq_true rfl, Nat.le_of_ble_eq_true rfl, Nat.le_of_ble_eq_true rfl⟩ ⟨fun _ _ _ _ _ _ _ _ h => h.elim, ?_⟩
  intro n' F' H' locs' cells' slots' pc' ls' rls' hX' hrel hc hs hl'
  obtain ⟨rfl, rfl, rfl, hF⟩ := hX'
  have hV : V 1000 1536 qL_law 20 [mE 2, mR 17 15 0, mR 18 58 112, mR 1 1 137, mE 0, mE 0, mE 0] [] (kM0 (L : Int) (fun j => (xs j.toNat).toInt)) lawQ := by
    refine V_iconst dL_law_20 (by decide) (V_istore dL_law_21 rfl (by decide) ?_)
    refine law_loop (d := 938) 512 1536 30 0 0 _ 0 (mE 0) (mE 0) St0 (Int.le_refl 0) ?_ ?_ (by omega) (by omega)
    · show (L : Int) ≤ 3072
      omega
    · show (L : Int) - 0 ≤ 6 * ((512 : Nat) : Int)
      omega
  have hM : mRel g (fun x => s.heap.size ≤ x) s.heap (kM0 (L : Int) (fun j => (xs j.toNat).toInt)) H' locs' := by
    refine ⟨fun k q hq => ?_, mD_any (fun x hx => by rw [← hg1]; exact hx.1), by rw [← hA1]; exact hrel.2, kM0_ok, by rw [hg]; rfl, fun j hj => by rw [hg]; rfl⟩
    have h1 := mWd_ad hq
    have hk : k < 138 := h1.1
    have h2 : (mWd g.1 g.2.2.2.1 (kM0 (L : Int) (fun j => (xs j.toNat).toInt)))[k]? = some (g.1 + k, mEnt g.1 g.2.2.2.1 (kM0 (L : Int) (fun j => (xs j.toNat).toInt)) k) := mWd_get (kl := mShL[k]) (List.getElem?_eq_getElem h1.1)
    rw [h2] at hq
    cases hq
    rw [← hF k hk]
    exact hrel.1.2 k hk
  refine hV g (fun x => s.heap.size ≤ x) p l e room_1 s m #[Value.ref b] below meth c H' locs' cells' slots' room_1.cells room_1.slots _ rls' ⟨hx, hb, hml, hown, htm, hlocks, Nat.le_of_ble_eq_true rfl, Nat.le_of_ble_eq_true rfl, hK, fun x hx => hx, hE⟩ hM hl' ?_ mVk_n ⟨Nat.le_trans (m := 2000) (by omega) (Nat.le_of_ble_eq_true rfl), Nat.le_trans (m := 50000) (by omega) (Nat.le_of_ble_eq_true rfl), Nat.le_refl _, Nat.le_refl _⟩ ⟨?_, fun E M' _ _ _ _ _ _ _ hQ => absurd hQ (lawQn E M'), fun E M' _ _ _ _ _ _ _ _ _ hQ => absurd hQ (lawQn E M')⟩
  · intro v hv
    simp only [List.mem_cons, List.not_mem_nil, or_false] at hv
    rcases hv with rfl | rfl | rfl | rfl | rfl | rfl | rfl
    · trivial
    · exact ⟨by decide, rfl⟩
    · exact ⟨by decide, rfl⟩
    · exact ⟨by decide, rfl⟩
    · trivial
    · trivial
    · trivial
  · intro r M' H2 locs2 cells2 slots2 pc2 rls2 hQ hM2 hout hc2 hs2 hdec
    have hr2 : r = some (mI 1) := by
      have : (Sum.inl r : mRes) = .inl (some (mI 1)) := hQ
      exact Sum.inl.inj this
    subst hr2
    exact va_forget (fun q hq => hM2.2.2.1.2.2 q hq) (W.widen (k := room_1.cells) (n := room_1.slots) hc2 hs2 (lw_ret hx hb hr hlocks hdec))
set_option maxHeartbeats 4000000 in
theorem lw_walk (l : Launch) (hflags : l.flags = flags0) (b : Addr) (xs : List Int32) : MetFree l x (headSpec (Jvm.Cond.code x code maxLocals ret :: tables_1) room_1) (lw_P b xs) (fun _ _ _ _ _ => True) lw_Q := by
  refine MetFree.of_bodyS (code := code) (maxLocals := maxLocals) (ret := ret) (by decide) ?_ ?_
  · intro args s m h hn
    obtain ⟨meth, c, h1, h2, h3, h4, h5, h6, -, -⟩ := Cond.code_spec hn (atoms_spec (ws := Jvm.Cond.code x code maxLocals ret :: tables_1) h _ List.mem_cons_self)
    exact ⟨meth, c, h1, h2, h3, h4, h5, h6⟩
  · intro p e s m args below meth c s₁ B hml0 hP _
    obtain ⟨rfl, hx, hbd, hgv⟩ := hP
    obtain ⟨scr, harrAt, hlist, hof, hsmall⟩ := hx
    obtain ⟨hcb, hkn, -, -⟩ := State.arrayAt?_spec harrAt
    have hown : s.vm.findClass R_law = some m.cls := findClass_of_methodNamed B.named
    have hts0 : ∀ c ∈ (Jvm.Cond.code x code maxLocals ret :: tables_1), c.before #[Value.ref b] s = true := atoms_spec (ws := Jvm.Cond.code x code maxLocals ret :: tables_1) B.pre
    have hts : ∀ w ∈ lw_tbl, w.before #[Value.ref b] s = true := k2_hts_sels lw_privs (fun w hw => hts0 w (List.mem_cons_of_mem _ hw)) lw_privs_ok
    have hml : c.maxLocals = 7 := B.maxLocals_eq (hts0 _ List.mem_cons_self)
    have X₀ : Stand p l e room_1 s m #[Value.ref b] below meth c s₁ [] 0 0 := Stand.of_body B
    have hh0 : s₁.heap = s.heap := by rw [B.state]; rfl
    have hsz : scr.slots.size = xs.length := by rw [← Array.length_toList, hlist, List.length_map]
    have hval : ∀ j : Nat, j < xs.length → scr.slots[j]? = some (.int (xs.getD j 0)) := fun j hj => by
      rw [← Array.getElem?_toList, hlist]
      simp [hj]
    have hbl : b < s.heap.size := (Array.getElem?_eq_some_iff.mp hcb).1
    have hX : va_X b xs.length (fun j => xs.getD j 0) s s.heap := ⟨scr, hcb, hof, hkn, hsz, hval⟩
    have K : W p l e room_1 s m #[Value.ref b] below meth c s₁.heap [] 0 0 (lw_Z below #[Value.ref b] s) (entryFrame m ([Value.ref b] : List Value).toArray 7) := by
      rw [hh0]
      exact whole_start l hflags hbd ⟨B.exec, B.bytes, B.returns, hml, hown, hts, hX, hbl, B.notSynchronized, hgv⟩
    obtain ⟨t, a1, o, b1, b2, b3⟩ := K s₁ rfl X₀
    exact ⟨t, o, a1, b1, b2, b3⟩
theorem lw_pre_spec {args : Array Value} {s : State} (h : (Jvm.Cond.and given_1 narrow_1).before args s = true) (hr : rest_1_c.before args s = true) : ∃ (b : Addr) (xs : List Int32), lw_P b xs args s := by
  have hs := flat_of_before _ h
  have hq := flat_of_before _ hr
  have hc : (Cond.count 1).before args s = true := hs _ (by decide +kernel)
  have harr : (Cond.arrayOf (.arg 0) .int).before args s = true := hs _ (by decide +kernel)
  have hle : (Cond.le (.length (.arg 0)) (.int 3072)).before args s = true := hs _ (by decide +kernel)
  have hlen : (Cond.isInt (.length (.arg 0))).before args s = true := hq _ (by decide +kernel)
  have hall : (Cond.all (.arg 0) (.isInt (.elem (.arg 0) (.index 0)))).before args s = true := hq _ (by decide +kernel)
  obtain ⟨b, xs, hb, hx⟩ := State.ints_of_pre rfl harr hlen hall
  have hsm : xs.length < 2 ^ 31 := hx.choose_spec.2.2.2
  have hev : (Term.length (.arg 0)).eval args s none [] s = some (.int xs.length.toInt32) := hx.length_eval hb
  have hv := Cond.le_ints hev (show (Term.int 3072).eval args s none [] s = some (.int 3072) from rfl)
  have hd : xs.length.toInt32 ≤ 3072 := by
    simpa [Cond.before, Cond.holds, hv] using hle
  have hN : xs.length ≤ 3072 := (Int32.ofNat_le_ofNat hsm (by decide)).mp (show Int32.ofNat xs.length ≤ Int32.ofNat 3072 from hd)
  exact ⟨b, xs, Cond.one_arg hc (show args[0]? = some (.ref b) from hb), hx, hN, h⟩
theorem lw_comes (l : Launch) (hflags : l.flags = flags0) : Comes l x (Jvm.Cond.code x code maxLocals ret :: tables_1) room_1 (fun tb e args s => Calls_1 tb e args s ∧ rest_1 tb e args s ∧ Pre_1 tb e args s)
    (fun _ _ args s o t => lw_Q args s o t) := by
  intro p e ha hc hk s m args below hf hfit hheap happ hpre
  obtain ⟨b, xs, hP⟩ := lw_pre_spec hpre.2.2 hpre.2.1
  obtain ⟨k, o, h1, h2, h3, hQ⟩ := lw_walk l hflags b xs p e ha hc hk s m args below hf ((Spec.applies_iff_loose hf).mp happ).1 hP trivial
  exact ⟨k, o, h1, h2, h3, hQ⟩
theorem lw_frame {s t : State} {o : Outcome} {args : Array Value} (h : Framed s o t [] room_1.cells room_1.slots) :
    Framed s o t (fieldLocs frame_1_writes args s ++ arrayLocs frame_1_arrays args s ++ staticLocs frame_1_statics s) room_1.cells room_1.slots := h
theorem lw_limb (L : Cond) (hL : ∀ (args : Array Value) (s t : State), L.after args s (.returned (some (.int 1))) t = true) :
    ArmFor flags0 classFile x code maxLocals ret World_1 tables_1 room_1 Calls_1 rest_1 Pre_1
      (fun tb e a s o t => postC L tb e a s o t ∧ Framed s o t (fieldLocs frame_1_writes a s ++ arrayLocs frame_1_arrays a s ++ staticLocs frame_1_statics s) room_1.cells room_1.slots) := by
  intro l hflags _ _ p e ha hc hk s m args below hf hfit hheap happ hpre
  obtain ⟨k, o, h1, h2, h3, rfl, hF⟩ := lw_comes l hflags p e ha hc hk s m args below hf hfit hheap happ hpre
  exact ⟨k, _, h1, h2, h3, hL args s _, lw_frame hF⟩
theorem i_vc : Claimed_1_1 ∧ Claimed_1_2 := ⟨lw_limb limb_1_1 (fun args s t => by simp [limb_1_1, Cond.after, Cond.holds, Cond.value]), lw_limb limb_1_2 (fun args s t => Cond.after_iff.mpr (by
  first | (rw [show limb_1_2 = Cond.eq .result (.int 1) from rfl, Cond.eq_ints (x := 1) (y := 1) rfl rfl]; simp; done) | (simp [limb_1_2, Cond.value, Term.eval]; done)))⟩
