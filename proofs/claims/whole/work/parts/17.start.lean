def R_law : String := "BinProverLaw"
def lw_P (b : Addr) (xs : List Int32) (args : Array Value) (s : State) : Prop := args = #[.ref b] ∧ s.IntsAt b xs ∧ xs.length ≤ 3072 ∧ (Jvm.Cond.and given_1 narrow_1).before args s = true
def lw_Q (_ : Array Value) (s : State) (o : Outcome) (t : State) : Prop := o = .returned (some (.int 1)) ∧ Framed s o t [] room_1.cells room_1.slots
def lw_Z (below : List Frame) (a : Array Value) (s : State) : State → Prop := fun t => ∃ o, t.status = .running ∧ Ended t below o ∧ lw_Q a s o t
/-- the law's own end, with 1 on the stack, nothing written that was there before, its room as the claim has it -/
theorem lw_ret {p : Program} {l : Launch} {e : Env} {s : State} {m : MethodId} {below : List Frame} {meth : Method} {c : Code} {b : Nat} (hx : p.tables.exec = Jvm.exec) (hb : c.code = code) (hr : meth.sig.returnType = ret) (hlocks : meth.locks = false) {pc : Nat} {H : Heap} {ls : Array Slot} (hdg : decode code pc = .ok (.ireturn, 1)) : W p l e room_1 s m #[Value.ref b] below meth c H [] room_1.cells room_1.slots (lw_Z below #[Value.ref b] s) (F0 m pc ls [.int 1]) := by
  intro T hT X
  obtain ⟨fs, hret, hrun, hended, hW, hframe⟩ := X.leave (v := some (.int 1)) (hlocks := hlocks) (fun h => by rw [hr] at h; cases h)
  have hmeth' : T.vm.method? m = some meth := X.method'
  refine ⟨T.setFrames fs, ?_, .returned (some (.int 1)), hrun, hended, rfl, ⟨_, rfl⟩, hW, hframe⟩
  jvm_step X.here [X.here.top, hx, hb, hdg, hmeth', hr, ret, narrow_b1]
  (try refine ⟨rfl, ?_⟩); (try refine ⟨rfl, ?_⟩)
  first | (intro acts; rw [hret _ acts rfl rfl rfl]) | rw [hret _ _ rfl rfl rfl]
  exact Steps.refl _
/-- what holds at the law's entry: the machine, the code, the tables' words (any of lw_tbl by 'hts w (by decide +kernel)'), the script of L ints xs at the cell b, what the Statement gives of the start (any of its parts by flat_of_before) -/
def lw_At (p : Program) (s : State) (m : MethodId) (meth : Method) (c : Code) (b L : Nat) (xs : Nat → Int32) : Prop :=
  p.tables.exec = Jvm.exec ∧ c.code = code ∧ meth.sig.returnType = ret ∧ c.maxLocals = 7 ∧ s.vm.findClass R_law = some m.cls ∧ (∀ w ∈ lw_tbl, w.before #[Value.ref b] s = true) ∧ va_X b L xs s s.heap ∧ b < s.heap.size ∧ meth.locks = false ∧ (Jvm.Cond.and given_1 narrow_1).before #[Value.ref b] s = true

def sTm (i : Nat) : Term := match mStr[i]? with
  | some o => .string o.1 o.2.1
  | none => .int 0
abbrev sFl : List Cond := flatC (Jvm.Cond.and given_1 narrow_1)
theorem s_ex : ∀ i, i < 26 → Cond.exactly (sTm i) "java/lang/String" ∈ sFl := by decide +kernel
theorem s_co : ∀ i, i < 3 → Cond.eq (.field (sTm i) "java/lang/String" "coder" "B") (.int 0) ∈ sFl := by decide +kernel
theorem s_ar : ∀ i, i < 3 → Cond.arrayOf (.field (sTm i) "java/lang/String" "value" "[B") .byte ∈ sFl := by decide +kernel
theorem s_le : ∀ i, i < 3 → Cond.eq (.length (.field (sTm i) "java/lang/String" "value" "[B")) (.int (Int32.ofNat (([8, 4, 3] : List Nat).getD i 0))) ∈ sFl := by decide +kernel
theorem s_el : ∀ i, i < 3 → ∀ j, j < ([8, 4, 3] : List Nat).getD i 0 → Cond.eq (.elem (.field (sTm i) "java/lang/String" "value" "[B") (.int (Int32.ofNat j))) (.int ((([[99, 97, 112, 97, 99, 105, 116, 121], [115, 111, 114, 116], [98, 105, 110]] : List (List Int32)).getD i []).getD j 0)) ∈ sFl := by decide +kernel
theorem s_sr : ∀ i, i < 26 → lw_tbl[([743, 795, 796, 687, 864, 882, 891, 903, 915, 924, 932, 955, 963, 971, 1008, 1023, 1032, 1040, 1048, 1073, 1093, 1119, 1150, 1173, 1184, 1185] : List Nat).getD i 0]? = some (match mStr[i]? with | some o => Cond.stringRef o.1 o.2.1 o.2.2 | none => .tt) := by decide +kernel
theorem s_kn0 : Cond.arrayOf (.static "BinProverModel" "KNOWN" "[B") .byte ∈ sFl := by decide +kernel
theorem s_kn1 : Cond.eq (.length (.static "BinProverModel" "KNOWN" "[B")) (.int 18) ∈ sFl := by decide +kernel
theorem s_kn2 : ∀ j, j < 18 → Cond.eq (.elem (.static "BinProverModel" "KNOWN" "[B") (.int (Int32.ofNat j))) (.int (mKn.getD j 0)) ∈ sFl := by decide +kernel
theorem s_un : Cond.isRef (.static Bundle.tN "UNASSIGNED_STACK" Bundle.steD) ∈ sFl := by decide +kernel
theorem s_su : Cond.isRef (.static Bundle.tN "SUPPRESSED_SENTINEL" Bundle.listD) ∈ sFl := by decide +kernel
theorem s_cs : Cond.eq (.static "java/lang/String" "COMPACT_STRINGS" "Z") (.int 1) ∈ sFl := by decide +kernel
theorem s_si : Cond.isRef (.static "jdk/internal/util/Preconditions" "SIOOBE_FORMATTER" "Ljava/util/function/BiFunction;") ∈ sFl := by decide +kernel
theorem s_nc : Cond.not (.castable "java/lang/IllegalArgumentException" "java/util/NoSuchElementException") ∈ sFl := by decide +kernel
theorem ext0 {p : Program} {s : State} {m : MethodId} {meth : Method} {c : Code} {l : Launch} (hflags : l.flags = flags0) {b L : Nat} {xs : Nat → Int32} (C0 : lw_At p s m meth c b L xs) :
    ∃ adr : Nat → Nat, adr 2 = b ∧ ∀ (dC : Nat → ClassId) (dI : Nat → Nat → Nat) (κ : Nat → ClassId), mExt (s.heap.size, dC, dI, κ, adr, xs, L) (fun x => s.heap.size ≤ x) l s := by
  obtain ⟨hx, hb, hr, hml, hown, hts, hX, hbl, hlocks, hgv⟩ := C0
  have hs := flat_of_before _ hgv
  have hA : ∀ a : Nat, a < s.heap.size → ¬ (fun x : Nat => s.heap.size ≤ x) a := fun a ha h => absurd ha (Nat.not_lt.mpr h)
  have hZ := fun (w : Cond) (i : Nat) (h : lw_tbl[i]? = some w) => hts w (List.mem_of_getElem? h)
  -- strings
  have hK0 : ∀ i : Nat, ∃ a : Nat, i < 26 → (sTm i).eval #[Value.ref b] s none [] s = some (.ref a) ∧ va_O "java/lang/String" a (fun x => s.heap.size ≤ x) s s.heap := by
    intro i
    by_cases hi : i < 26
    · obtain ⟨a, c9, cA, kA, q1, q2, q3, q4, q5, q6, -⟩ := Cond.exactly_spec (args := #[Value.ref b]) (first := s) (o := none) (s := s) (idx := []) (t := sTm i) (cls := "java/lang/String") (hs _ (s_ex i hi))
      exact ⟨a, fun _ => ⟨q1, cA, q3, q5, by rw [q6]; exact q2, hA a (Array.getElem?_eq_some_iff.mp q3).1⟩⟩
    · exact ⟨0, fun h => absurd h hi⟩
  obtain ⟨aK, haK⟩ := Classical.axiomOfChoice hK0
  have hV0 : ∀ i : Nat, ∃ t : Nat, i < 3 → (Term.field (sTm i) "java/lang/String" "value" "[B").eval #[Value.ref b] s none [] s = some (.ref t) ∧ va_T .byte t (([8, 4, 3] : List Nat).getD i 0) (fun j => .int ((([[99, 97, 112, 97, 99, 105, 116, 121], [115, 111, 114, 116], [98, 105, 110]] : List (List Int32)).getD i []).getD j 0)) (fun x => s.heap.size ≤ x) s s.heap := by
    intro i
    by_cases hi : i < 3
    · obtain ⟨t, ht, hT⟩ := va_Tof (f := fun j => .int ((([[99, 97, 112, 97, 99, 105, 116, 121], [115, 111, 114, 116], [98, 105, 110]] : List (List Int32)).getD i []).getD j 0)) (A := fun x => s.heap.size ≤ x) (by rcases (show i = 0 ∨ i = 1 ∨ i = 2 by omega) with rfl | rfl | rfl <;> decide) (hs _ (s_ar i hi)) (va_eqt (hs _ (s_le i hi))) (fun j hj => va_eqt (hs _ (s_el i hi j hj))) hA
      exact ⟨t, fun _ => ⟨ht, hT⟩⟩
    · exact ⟨0, fun h => absurd h hi⟩
  obtain ⟨aV, haV⟩ := Classical.axiomOfChoice hV0
  obtain ⟨tk, htk, hTk⟩ := va_Tof (tm := .static "BinProverModel" "KNOWN" "[B") (ty := .byte) (N := 18) (f := fun j => .int (mKn.getD j 0)) (A := fun x => s.heap.size ≤ x) (by decide) (hs _ s_kn0) (va_eqt (hs _ s_kn1)) (fun j hj => va_eqt (hs _ (s_kn2 j hj))) hA
  have hOF : ∀ i, i < 3 → va_OF "java/lang/String" "value" "[B" (.ref (aV i)) (aK i) (fun x => s.heap.size ≤ x) s s.heap := fun i hi => vk_OFof (haK i (by omega)).1 (haV i hi).1 hA
  refine ⟨fun j => if j = 1 then tk else if j = 2 then b else if j < 60 then aK (j - 10) else aV (j - 60), rfl, fun dC dI κ => ?_⟩
  have e1 : ∀ i, i < 26 → (if 10 + i = 1 then tk else if 10 + i = 2 then b else if 10 + i < 60 then aK (10 + i - 10) else aV (10 + i - 60)) = aK i := fun i hi => by
    rw [if_neg (by omega), if_neg (by omega), if_pos (by omega), show 10 + i - 10 = i by omega]
  have e2 : ∀ i : Nat, (if 60 + i = 1 then tk else if 60 + i = 2 then b else if 60 + i < 60 then aK (60 + i - 10) else aV (60 + i - 60)) = aV i := fun i => by
    rw [if_neg (by omega), if_neg (by omega), if_neg (by omega), show 60 + i - 60 = i by omega]
  refine ⟨?_, ⟨?_, ?_⟩, ⟨?_, ?_⟩, ⟨hX, hbl, hA b hbl⟩, ?_, ?_, ?_, ?_, ?_, va_Nc.of (hs _ s_nc)⟩
  · unfold Launch.stackTraces; rw [hflags]; decide
  · exact vx_Zqof (hZ _ 674 (by decide +kernel)) (hZ _ 100 (by decide +kernel)) (hs _ s_un) hA
  · exact vx_Zqof (hZ _ 676 (by decide +kernel)) (hZ _ 100 (by decide +kernel)) (hs _ s_su) hA
  · exact va_Zof (hZ _ 1401 (by decide +kernel)) (hZ _ 99 (by decide +kernel)) htk hA
  · exact hTk
  · intro i o ho
    have hi : i < 26 := (List.getElem?_eq_some_iff.mp ho).1
    have h1 := s_sr i hi
    have h2 := (haK i hi).1
    rw [ho] at h1
    have h3 : sTm i = .string o.1 o.2.1 := by unfold sTm; rw [ho]
    rw [h3] at h2
    show vk_R o.1 o.2.1 o.2.2 (if 10 + i = 1 then tk else if 10 + i = 2 then b else if 10 + i < 60 then aK (10 + i - 10) else aV (10 + i - 60)) s
    rw [e1 i hi]
    exact vk_R.of (hZ _ _ h1) h2
  · refine ⟨fun i hi => ?_, fun i j hi hj e => ?_⟩
    · show va_O "java/lang/String" (if 10 + i = 1 then tk else if 10 + i = 2 then b else if 10 + i < 60 then aK (10 + i - 10) else aV (10 + i - 60)) _ _ _ ∧ va_OF "java/lang/String" "coder" "B" (.int 0) (if 10 + i = 1 then tk else if 10 + i = 2 then b else if 10 + i < 60 then aK (10 + i - 10) else aV (10 + i - 60)) _ _ _ ∧ va_OF "java/lang/String" "value" "[B" (.ref (if 60 + i = 1 then tk else if 60 + i = 2 then b else if 60 + i < 60 then aK (60 + i - 10) else aV (60 + i - 60))) (if 10 + i = 1 then tk else if 10 + i = 2 then b else if 10 + i < 60 then aK (10 + i - 10) else aV (10 + i - 60)) _ _ _ ∧ va_T .byte (if 60 + i = 1 then tk else if 60 + i = 2 then b else if 60 + i < 60 then aK (60 + i - 10) else aV (60 + i - 60)) _ _ _ _ _
      rw [e1 i (by omega), e2 i]
      exact ⟨(haK i (by omega)).2, vk_OFof (haK i (by omega)).1 (va_eqt (hs _ (s_co i hi))) hA, hOF i hi, (haV i hi).2⟩
    · have e : (if 10 + i = 1 then tk else if 10 + i = 2 then b else if 10 + i < 60 then aK (10 + i - 10) else aV (10 + i - 60)) = (if 10 + j = 1 then tk else if 10 + j = 2 then b else if 10 + j < 60 then aK (10 + j - 10) else aV (10 + j - 60)) := e
      rw [e1 i (by omega), e1 j (by omega)] at e
      obtain ⟨cf, k9, fi, f, cell, h1, h2, h3, h4, h5, h6⟩ := hOF i hi
      obtain ⟨cf', k9', fi', f', cell', h1', h2', h3', h4', h5', h6'⟩ := hOF j hj
      rw [h1] at h1'
      cases h1'
      rw [← e, h3] at h3'
      cases h3'
      rw [h5] at h5'
      have ev : aV i = aV j := by
        have := Option.some.inj h5'
        exact Value.ref.inj this
      obtain ⟨ce, g1, g2, g3, g4, g5, -⟩ := (haV i hi).2
      obtain ⟨ce', g1', g2', g3', g4', g5', -⟩ := (haV j hj).2
      rw [← ev, g1] at g1'
      cases g1'
      rw [g5] at g5'
      revert g5'
      rcases (show i = 0 ∨ i = 1 ∨ i = 2 by omega) with rfl | rfl | rfl <;> rcases (show j = 0 ∨ j = 1 ∨ j = 2 by omega) with rfl | rfl | rfl <;> decide
  · exact va_Zof (hZ _ 756 (by decide +kernel)) (hZ _ 105 (by decide +kernel)) (va_eqt (hs _ s_cs)) hA
  · exact va_Zqof (hZ _ 772 (by decide +kernel)) (hZ _ 107 (by decide +kernel)) (hs _ s_si) hA
  · intro w hw hc
    exact va_Nw.of (by cases w <;> first | rfl | cases hc) (hts w hw)
