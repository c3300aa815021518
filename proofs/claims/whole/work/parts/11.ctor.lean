/-! constructors: a world that grows; its first n cells stand one behind the other from g.1 on, F says what they are -/
def kN : Cond → Bool
  | .methodLinkNest _ _ _ _ => true
  | _ => false
def kA (g : mG) : Nat → Prop := fun x => g.1 ≤ x
def kW (g : mG) (n : Nat) (F : Nat → va_E) (H : Heap) : Prop := H.size = g.1 + n ∧ ∀ i : Nat, i < n → va_at (g.2.1, g.2.2.1) vwCl (g.1 + i, F i) H
def kExt (s : State) : Prop := (Cond.arrayOver (.array .int)).before #[] s = true ∧ ∀ w ∈ lw_tbl, kN w = true → va_Nw w s
theorem kExt.warm {s U : State} (hW : s.WarmedH U.vm) (h : kExt s) : kExt U := by
  refine ⟨over_moved hW.alike h.1, fun w hw hk => ?_⟩
  have h15 := h.2 w hw hk
  cases w with
  | methodLinkNest a i x b => exact va_Nw.warmM hW h15
  | _ => cases hk
def kRel (g : mG) (H0 : Heap) (n : Nat) (F : Nat → va_E) (H : Heap) (locs : List Loc) : Prop := kW g n F H ∧ va_S (kA g) H0 H locs
def kCtx (d : Nat) (q : mMth) (g : mG) (p : Program) (R : Room) (s : State) (m : MethodId) (args : Array Value) (meth : Method) (c : Code) : Prop :=
  p.tables.exec = Jvm.exec ∧ c.code = q.2.1 ∧ c.maxLocals = q.2.2.1 ∧ s.vm.findClass q.1.cls = some m.cls ∧ (∀ w ∈ mTbl, w.before args s = true) ∧ d ≤ R.frames ∧ 64 * d ≤ R.locals ∧
  va_K (g.2.1, g.2.2.1) vwCl (mTy g.2.2.2.1) s ∧ g.1 ≤ s.heap.size ∧ kExt s ∧ (q.1.name = "<init>" → meth.name = "<init>")
/-- from this place of the method the constructor ends with Q; it may make kc cells of ks slots -/
def UX (X : Nat → List mV → Nat → (Nat → va_E) → Prop) (g : mG) (d kc ks : Nat) (q : mMth) (pc : Nat) (ls st : List mV) (n : Nat) (F : Nat → va_E) (Q : Nat → (Nat → va_E) → Prop) : Prop :=
  ∀ (p : Program) (l : Launch) (e : Env) (R : Room) (s : State) (m : MethodId) (args : Array Value) (below : List Frame) (meth : Method) (c : Code) (H : Heap) (locs : List Loc) (cells slots cT sT : Nat) (Qf : State → Prop) (rls : Array Slot),
    kCtx d q g p R s m args meth c → kRel g s.heap n F H locs → lv_has rls q.2.2.1 (mLv g ls) → (cells + kc ≤ cT ∧ slots + ks ≤ sT ∧ cT ≤ R.cells ∧ sT ≤ R.slots) →
    (∀ (n' : Nat) (F' : Nat → va_E) (H' : Heap) (locs' : List Loc) (cells' slots' pc' : Nat) (rls' : Array Slot), Q n' F' → kRel g s.heap n' F' H' locs' → cells' ≤ cT → slots' ≤ sT → decode q.2.1 pc' = .ok (.return_, 1) → W p l e R s m args below meth c H' locs' cells' slots' Qf (F0 m pc' rls' [])) ∧
    (∀ (n' : Nat) (F' : Nat → va_E) (H' : Heap) (locs' : List Loc) (cells' slots' pc' : Nat) (ls' : List mV) (rls' : Array Slot), X pc' ls' n' F' → kRel g s.heap n' F' H' locs' → cells' ≤ cT → slots' ≤ sT → lv_has rls' q.2.2.1 (mLv g ls') → W p l e R s m args below meth c H' locs' cells' slots' Qf (F0 m pc' rls' [])) →
    W p l e R s m args below meth c H locs cells slots Qf (F0 m pc rls (st.map (mRv g)))
abbrev U : mG → Nat → Nat → Nat → mMth → Nat → List mV → List mV → Nat → (Nat → va_E) → (Nat → (Nat → va_E) → Prop) → Prop := UX (fun _ _ _ _ => False)
theorem kAt_kept {D : va_G} {cl : List vw_C} {a : Nat} {e : va_E} {H H1 : Heap} (h : va_at D cl (a, e) H) (h1 : H1[a]? = H[a]?) : va_at D cl (a, e) H1 := by
  cases e with
  | inl x =>
    show H1[a]? = _
    rw [h1]; exact h
  | inr o =>
    obtain ⟨r, h2, h3⟩ := h
    exact ⟨r, h2, h3.kept h1⟩
section URules
variable {X : Nat → List mV → Nat → (Nat → va_E) → Prop} {g : mG} {d kc ks : Nat} {q : mMth} {pc : Nat} {ls st : List mV} {n : Nat} {F : Nat → va_E} {Q : Nat → (Nat → va_E) → Prop}
theorem U_aload_n {i : Fin 4} {a b : Nat} {r : Int} (hd : decode q.2.1 pc = .ok (.aload_n i, 1)) (hv : ls[(i : Nat)]? = some (mR a b r)) (h : UX X g d kc ks q (pc + 1) ls (mR a b r :: st) n F Q) : UX X g d kc ks q pc ls st n F Q := by
  intro p l e R s m args below meth c H locs cells slots cT sT Qf rls hC hM hl hr hE
  have h := h p l e R s m args below meth c H locs cells slots cT sT Qf rls hC hM hl hr hE
  refine lv_aload_n hC.1 hC.2.1 hd rfl (mLv_at hl hv (fun h => by cases h)) ?_
  exact h
theorem U_iconst {x : Int} (hd : decode q.2.1 pc = .ok (.iconst x, 1)) (h : UX X g d kc ks q (pc + 1) ls (mI x :: st) n F Q) : UX X g d kc ks q pc ls st n F Q := by
  intro p l e R s m args below meth c H locs cells slots cT sT Qf rls hC hM hl hr hE
  have h := h p l e R s m args below meth c H locs cells slots cT sT Qf rls hC hM hl hr hE
  refine lv_iconst hC.1 hC.2.1 hd rfl ?_
  exact h
theorem U_bipush {x : Int} (hd : decode q.2.1 pc = .ok (.bipush x, 2)) (hv : (Int8.ofInt x).toInt32 = Int32.ofInt x) (h : UX X g d kc ks q (pc + 2) ls (mI x :: st) n F Q) : UX X g d kc ks q pc ls st n F Q := by
  intro p l e R s m args below meth c H locs cells slots cT sT Qf rls hC hM hl hr hE
  have h := h p l e R s m args below meth c H locs cells slots cT sT Qf rls hC hM hl hr hE
  refine lv_bipush hC.1 hC.2.1 hd hv ?_
  exact h
theorem U_sipush {x : Int} (hd : decode q.2.1 pc = .ok (.sipush x, 3)) (hv : (Int16.ofInt x).toInt32 = Int32.ofInt x) (h : UX X g d kc ks q (pc + 3) ls (mI x :: st) n F Q) : UX X g d kc ks q pc ls st n F Q := by
  intro p l e R s m args below meth c H locs cells slots cT sT Qf rls hC hM hl hr hE
  have h := h p l e R s m args below meth c H locs cells slots cT sT Qf rls hC hM hl hr hE
  refine lv_sipush hC.1 hC.2.1 hd hv ?_
  exact h
theorem U_dup {a b : Nat} {r : Int} (hd : decode q.2.1 pc = .ok (.dup, 1)) (h : UX X g d kc ks q (pc + 1) ls (mR a b r :: mR a b r :: st) n F Q) : UX X g d kc ks q pc ls (mR a b r :: st) n F Q := by
  intro p l e R s m args below meth c H locs cells slots cT sT Qf rls hC hM hl hr hE
  have h := h p l e R s m args below meth c H locs cells slots cT sT Qf rls hC hM hl hr hE
  refine lv_dup hC.1 hC.2.1 hd rfl ?_
  exact h
theorem U_astore_n {i : Fin 4} {a b : Nat} {r : Int} (hd : decode q.2.1 pc = .ok (.astore_n i, 1)) (hf : mFree ls (i : Nat) = true) (hi : (i : Nat) < q.2.2.1) (h : UX X g d kc ks q (pc + 1) (ls.set (i : Nat) (mR a b r)) st n F Q) : UX X g d kc ks q pc ls (mR a b r :: st) n F Q := by
  intro p l e R s m args below meth c H locs cells slots cT sT Qf rls hC hM hl hr hE
  refine lv_astore_n hC.1 hC.2.1 hd rfl hl hi rfl (fun rls2 hl2 => ?_)
  exact h p l e R s m args below meth c H locs cells slots cT sT Qf rls2 hC hM (hl2.mono (mLv_st1 hf)) hr hE
theorem U_objInit {idx a b : Nat} {r : Int} (hd : decode q.2.1 pc = .ok (.invokespecial idx, 3)) (h1 : Cond.methodLink q.1.cls idx Lib.objectInit ∈ mTbl) (h2 : Cond.instanceMethod Lib.objectInit ∈ mTbl) (h3 : Cond.code Lib.objectInit ⟨#[0xb1]⟩ 1 none ∈ mTbl) (hdd : 1 ≤ d) (h : UX X g d kc ks q (pc + 3) ls [] n F Q) : UX X g d kc ks q pc ls [mR a b r] n F Q := by
  intro p l e R s m args below meth c H locs cells slots cT sT Qf rls hC hM hl hr hE
  have h := h p l e R s m args below meth c H locs cells slots cT sT Qf rls hC hM hl hr hE
  have hts := hC.2.2.2.2.1
  refine W.objInit hC.1 hC.2.1 hC.2.2.2.1 (hts _ h1) (hts _ h2) (hts _ h3) rfl (by rw [hC.2.2.1]; exact hl.1) (rest := []) rfl hd (Nat.le_trans hdd hC.2.2.2.2.2.1) ?_ ?_
  · show 0 + 0 + 12 ≤ R.locals
    have := hC.2.2.2.2.2.2.1
    omega
  · exact h
/-- a final field of references -/
def kFF (own : String) (ci j : Nat) : Prop := ∀ (C : String) (T : u_T) (N : Nat), vwCl[ci]? = some (C, T, N) → (T j).2.2.2 = true ∧ (T j).1 = own ∧ ∃ ty, parseFieldDescriptor (T j).2.2.1 = some ty ∧ ∀ a : Nat, narrow ty (.ref a) = .ref a ∧ fits ty (.ref a) = true
theorem U_putR {idx ci j L k1 l1 : Nat} {r0 r1 : Nat} {fs : List Value} (hd : decode q.2.1 pc = .ok (.putfield idx, 3)) (hf : mFL q.1.cls idx ci j) (hw : kFF q.1.cls ci j) (hin : q.1.name = "<init>") (hr0 : r0 < n) (he : F r0 = .inr (ci, fs)) (hlen : j < fs.length)
    (h : ∀ F' : Nat → va_E, F' r0 = .inr (ci, fs.set j (.ref (g.1 + r1))) → (∀ k, k ≠ r0 → F' k = F k) → UX X g d kc ks q (pc + 3) ls st n F' Q) : UX X g d kc ks q pc ls (mR k1 l1 (r1 : Nat) :: mR (ci + 10) L (r0 : Nat) :: st) n F Q := by
  intro p l e R s m args below meth c H locs cells slots cT sT Qf rls hC hM hl hr hE
  obtain ⟨C, T, N, ty, hcl, hj, hN, hws, hlink, hty, hnm⟩ := hf
  obtain ⟨w1, w2, ty1, w3, w4⟩ := hw C T N hcl
  have hK := hC.2.2.2.2.2.2.2.1
  have hts := hC.2.2.2.2.1
  have hown := hC.2.2.2.1
  have hap := va_apart (own := q.1.cls) hts hws ty hty hnm hK hcl
  have hat := hM.1.2 r0 hr0
  rw [he] at hat
  obtain ⟨r, h1, cell, q1, q2, q3, q4⟩ := hat
  have hr9 : r = (C, T, N) := Option.some.inj (h1.symm.trans hcl)
  subst hr9
  obtain ⟨hS, hfc, kC, hkC, hkind⟩ := hK.1 ci _ hcl
  obtain ⟨cf, kf, fi, f, hi, hsl⟩ := hS j hj
  have hlay := hts _ (hws _ (u_in_lay hj))
  unfold u_lay at hlay
  rw [if_pos w1] at hlay
  have hst := (u_facts hfc hkC (u_lays hts hws hj) hi).1
  have hcf : m.cls = cf := by
    obtain ⟨_, _, c', _, _, _, -, -, hf', -, -, -, hown2, -⟩ := Cond.laysFinal_spec hlay
    have e1 : c' = cf := by have := hi.symm.trans hf'; simp at this; exact this.1.symm
    rw [w2] at hown2
    rw [← e1]; exact Option.some.inj (hown.symm.trans hown2)
  have h6 := u_fits hfc hkC hkind (Or.inr hlay) hi w3 (w4 (g.1 + r1)).1 (w4 (g.1 + r1)).2
  refine W.putFinK (a := g.1 + r0) (v := .ref (g.1 + r1)) hC.1 hC.2.1 hown (hts _ hlink) hi hst hcf (hC.2.2.2.2.2.2.2.2.2.2 hin) (by rw [q2]; exact h6) q1 q3 (by rw [hsl]; exact k2_hasslot (q4 j hj)) rfl rfl hd fun H' e1 e2 e3 => ?_
  rw [hsl] at e1 ⊢
  refine h (fun k => if k = r0 then .inr (ci, fs.set j (.ref (g.1 + r1))) else F k) (if_pos rfl) (fun k hk => if_neg hk) p l e R s m args below meth c H' _ cells slots cT sT Qf rls hC ⟨⟨e2.trans hM.1.1, fun i hi' => ?_⟩, hM.2.put e2 e3 (Nat.le_add_right _ _)⟩ hl hr hE
  by_cases hi0 : i = r0
  · subst hi0
    show va_at _ _ (g.1 + i, if i = i then _ else F i) H'
    rw [if_pos rfl]
    exact ⟨_, hcl, t_OB.to (V := updV (vp_V fs) j (.ref (g.1 + r1))) ⟨_, e1, q2, q3, t_set q4 hap hj _⟩ (fun j' _ => vp_updV_set hlen _ j')⟩
  · show va_at _ _ (g.1 + i, if i = r0 then _ else F i) H'
    rw [if_neg hi0]
    exact kAt_kept (hM.1.2 i hi') (e3 (g.1 + i) (fun z => hi0 (Nat.add_left_cancel z)))
theorem U_putI {idx ci j L : Nat} {r0 : Nat} {x : Int} {t : FieldType} {fs : List Value} (hd : decode q.2.1 pc = .ok (.putfield idx, 3)) (hf : mFL q.1.cls idx ci j) (hw : mFW ci j t) (hn : narrow t (.int (Int32.ofInt x)) = .int (Int32.ofInt x)) (hfit : fits t (.int (Int32.ofInt x)) = true) (hr0 : r0 < n) (he : F r0 = .inr (ci, fs)) (hlen : j < fs.length)
    (h : ∀ F' : Nat → va_E, F' r0 = .inr (ci, fs.set j (.int (Int32.ofInt x))) → (∀ k, k ≠ r0 → F' k = F k) → UX X g d kc ks q (pc + 3) ls st n F' Q) : UX X g d kc ks q pc ls (mI x :: mR (ci + 10) L (r0 : Nat) :: st) n F Q := by
  intro p l e R s m args below meth c H locs cells slots cT sT Qf rls hC hM hl hr hE
  obtain ⟨C, T, N, ty, hcl, hj, hN, hws, hlink, hty, hnm⟩ := hf
  obtain ⟨w1, w2⟩ := hw C T N hcl
  have hK := hC.2.2.2.2.2.2.2.1
  have hts := hC.2.2.2.2.1
  have hown := hC.2.2.2.1
  have hap := va_apart (own := q.1.cls) hts hws ty hty hnm hK hcl
  have hat := hM.1.2 r0 hr0
  rw [he] at hat
  obtain ⟨r, h1, cell, q1, q2, q3, q4⟩ := hat
  have hr9 : r = (C, T, N) := Option.some.inj (h1.symm.trans hcl)
  subst hr9
  obtain ⟨hS, hfc, kC, hkC, hkind⟩ := hK.1 ci _ hcl
  obtain ⟨cf, kf, fi, f, hi, hsl⟩ := hS j hj
  have hlay := hts _ (hws _ (u_in_lay hj))
  unfold u_lay at hlay
  rw [if_neg (by rw [w1]; decide)] at hlay
  have hst := (u_facts hfc hkC (u_lays hts hws hj) hi).1
  have h6 := u_store hfc hkC hkind hlay hi w2 hn hfit
  refine W.putK (a := g.1 + r0) (v := .int (Int32.ofInt x)) hC.1 hC.2.1 (f := f) ⟨hown, hts _ hlink, ⟨_, _, _, hi⟩, hst⟩ (by rw [q2]; exact h6) q1 q3 (by rw [hsl]; exact k2_hasslot (q4 j hj)) rfl rfl hd fun H' e1 e2 e3 => ?_
  rw [hsl] at e1 ⊢
  refine h (fun k => if k = r0 then .inr (ci, fs.set j (.int (Int32.ofInt x))) else F k) (if_pos rfl) (fun k hk => if_neg hk) p l e R s m args below meth c H' _ cells slots cT sT Qf rls hC ⟨⟨e2.trans hM.1.1, fun i hi' => ?_⟩, hM.2.put e2 e3 (Nat.le_add_right _ _)⟩ hl hr hE
  by_cases hi0 : i = r0
  · subst hi0
    show va_at _ _ (g.1 + i, if i = i then _ else F i) H'
    rw [if_pos rfl]
    exact ⟨_, hcl, t_OB.to (V := updV (vp_V fs) j (.int (Int32.ofInt x))) ⟨_, e1, q2, q3, t_set q4 hap hj _⟩ (fun j' _ => vp_updV_set hlen _ j')⟩
  · show va_at _ _ (g.1 + i, if i = r0 then _ else F i) H'
    rw [if_neg hi0]
    exact kAt_kept (hM.1.2 i hi') (e3 (g.1 + i) (fun z => hi0 (Nat.add_left_cancel z)))
/-- what 'new' of a class wants; fs: the fields at first -/
def kNw (own : String) (idx ci N : Nat) (fs : List Value) : Prop := ∃ (C : String) (T : u_T) (ty : Nat → FieldType), vwCl[ci]? = some (C, T, N) ∧ (∀ w ∈ u_ws C T N, w ∈ mTbl) ∧ (∀ k, k < N → parseFieldDescriptor (T k).2.2.1 = some (ty k)) ∧
  Cond.classLink own idx C ∈ mTbl ∧ Cond.instantiable C N ∈ mTbl ∧ Cond.initialized C ∈ mTbl ∧ ∀ j, j < N → defaultValue (ty j) = vp_V fs j
theorem kS_new {g : mG} {H0 H H1 : Heap} {locs : List Loc} {k : Nat} (h : va_S (kA g) H0 H locs) (hz : H1.size = H.size + k) (ho : ∀ x : Nat, x < H.size → H1[x]? = H[x]?) : va_S (kA g) H0 H1 locs :=
  ⟨Nat.le_trans h.1 (by omega), fun x h1 h2 => (ho x (Nat.lt_of_lt_of_le h1 h.1)).trans (h.2.1 x h1 h2), h.2.2⟩
theorem U_new {idx ci N L kc' ks' : Nat} {fs : List Value} (hd : decode q.2.1 pc = .ok (.new idx, 3)) (hw : kNw q.1.cls idx ci N fs) (hc : kc' + 1 ≤ kc) (hs : ks' + N ≤ ks)
    (h : ∀ F' : Nat → va_E, F' n = .inr (ci, fs) → (∀ k, k < n → F' k = F k) → UX X g d kc' ks' q (pc + 3) ls (mR (ci + 10) L (n : Nat) :: st) (n + 1) F' Q) : UX X g d kc ks q pc ls st n F Q := by
  intro p l e R s m args below meth c H locs cells slots cT sT Qf rls hC hM hl hr hE
  obtain ⟨C, T, ty, hcl, hws, hty, l1, l2, l3, hfs⟩ := hw
  have hts := hC.2.2.2.2.1
  have hKn := hC.2.2.2.2.2.2.2.1.1 ci _ hcl
  refine W.newcK hC.1 hC.2.1 hC.2.2.2.1 (hts _ l1) (hts _ l2) (hts _ l3) rfl hd (by omega) (by omega) hKn.2.1 hM.1.1 fun H1 kC hkC e1 z1 o1 => ?_
  have ho : ∀ x : Nat, x < H.size → H1[x]? = H[x]? := fun x hx => o1 x (by rw [← hM.1.1]; exact hx)
  refine h (fun k => if k = n then .inr (ci, fs) else F k) (if_pos rfl) (fun k hk => if_neg (by omega)) p l e R s m args below meth c H1 locs (cells + 1) (slots + N) cT sT Qf rls hC ⟨⟨by rw [z1]; omega, fun i hi => ?_⟩, kS_new (k := 1) hM.2 (by rw [z1, hM.1.1]) ho⟩ hl (by omega) hE
  by_cases hi0 : i = n
  · subst hi0
    show va_at _ _ (g.1 + i, if i = i then _ else F i) H1
    rw [if_pos rfl]
    exact ⟨_, hcl, (u_born ty hts hws hKn hkC e1 hty).to hfs⟩
  · show va_at _ _ (g.1 + i, if i = n then _ else F i) H1
    rw [if_neg hi0]
    exact kAt_kept (hM.1.2 i (by omega)) (o1 _ (by omega))
theorem U_newa {at0 : ArrayType} {ty : FieldType} {ki l0 kc' ks' : Nat} {a0 : vp_A} {x : Int} (hd : decode q.2.1 pc = .ok (.newarray at0, 2)) (hty : newarray.typeOf at0 = ty) (hw : Cond.arrayClass ty ∈ mTbl) (hk : (mTy g.2.2.2.1)[ki]? = some (g.2.2.2.1 ki, ty)) (hra : ∀ (V : State) (cA : ClassId), va_RA V cA ty → V.vm.findClass ("[" ++ ty.toString) = some cA)
    (ha : ∀ cA : ClassId, vp_cell cA a0 = arrV cA l0 (fun _ => defaultValue ty)) (hx0 : ¬ Int32.ofInt x < 0) (hx1 : (Int32.ofInt x).toNatClampNeg = l0) (hby : l0 * componentBytes ty ≤ 536870912) (hc : kc' + 1 ≤ kc) (hs : ks' + l0 ≤ ks)
    (h : ∀ F' : Nat → va_E, F' n = .inl (g.2.2.2.1 ki, a0) → (∀ k, k < n → F' k = F k) → UX X g d kc' ks' q (pc + 2) ls (mR ki l0 (n : Nat) :: st) (n + 1) F' Q) : UX X g d kc ks q pc ls (mI x :: st) n F Q := by
  intro p l e R s m args below meth c H locs cells slots cT sT Qf rls hC hM hl hr hE
  subst hty
  have hts := hC.2.2.2.2.1
  refine va_newaK hC.1 hC.2.1 (hts _ hw) rfl hd rfl hx0 hx1 hby (by omega) (by omega) hM.1.1 fun H1 cA e1 z1 o1 hAr hNm => ?_
  have ho : ∀ x : Nat, x < H.size → H1[x]? = H[x]? := fun x hx => o1 x (by rw [← hM.1.1]; exact hx)
  have hcA : cA = g.2.2.2.1 ki := by
    have h1 := hra s _ (hC.2.2.2.2.2.2.2.1.2 ki _ hk).2
    exact Option.some.inj (hNm.symm.trans h1)
  subst hcA
  refine h (fun k => if k = n then .inl (g.2.2.2.1 ki, a0) else F k) (if_pos rfl) (fun k hk => if_neg (by omega)) p l e R s m args below meth c H1 locs (cells + 1) (slots + l0) cT sT Qf rls hC ⟨⟨by rw [z1]; omega, fun i hi => ?_⟩, kS_new (k := 1) hM.2 (by rw [z1, hM.1.1]) ho⟩ hl (by omega) hE
  by_cases hi0 : i = n
  · subst hi0
    show va_at _ _ (g.1 + i, if i = i then _ else F i) H1
    rw [if_pos rfl]
    show H1[g.1 + i]? = some (vp_cell _ _)
    rw [ha]
    exact e1
  · show va_at _ _ (g.1 + i, if i = n then _ else F i) H1
    rw [if_neg hi0]
    exact kAt_kept (hM.1.2 i (by omega)) (o1 _ (by omega))
theorem U_mna {idx N' K' kc' ks' : Nat} {x y : Int} (hd : decode q.2.1 pc = .ok (.multianewarray idx 2, 4)) (hw : Cond.classLink q.1.cls idx ("[" ++ (FieldType.array .int).toString) ∈ mTbl) (hw2 : Cond.arrayClass .int ∈ mTbl)
    (hx0 : ¬ Int32.ofInt x < 0) (hx1 : (Int32.ofInt x).toNatClampNeg = N') (hy0 : ¬ Int32.ofInt y < 0) (hy1 : (Int32.ofInt y).toNatClampNeg = K') (hN : N' ≤ 1000) (hK' : K' ≤ 1000) (hc : kc' + (1 + N') ≤ kc) (hs : ks' + (N' + N' * K') ≤ ks)
    (h : ∀ F' : Nat → va_E, F' n = .inl (g.2.2.2.1 4, N', .inr (.inr (.inr (.inr (fun j => some (g.1 + n + 1 + j)))))) → (∀ j, j < N' → F' (n + 1 + j) = .inl (g.2.2.2.1 0, K', .inl (fun _ => 0))) → (∀ k, k < n → F' k = F k) → UX X g d kc' ks' q (pc + 4) ls (mR 4 N' (n : Nat) :: st) (n + 1 + N') F' Q) : UX X g d kc ks q pc ls (mI y :: mI x :: st) n F Q := by
  intro p l e R s m args below meth c H locs cells slots cT sT Qf rls hC hM hl hr hE
  have hts := hC.2.2.2.2.1
  have hX := hC.2.2.2.2.2.2.2.2.2.1
  have hTy := hC.2.2.2.2.2.2.2.1.2
  refine um_mna (ty := .int) hC.1 hC.2.1 hC.2.2.2.1 (hts _ hw) (over_moved (Vm.Alike.refl s.vm) hX.1) (hts _ hw2) hx0 hy0 hx1 hy1 (by omega) (by show K' * 4 ≤ _; omega) (by omega) rfl rfl (by omega) (by omega) hd fun H1 cA cy fA fC z1 o1 e1 e2 => ?_
  have hcA : cA = g.2.2.2.1 4 := by
    have h1 : s.vm.findClass ("[" ++ (FieldType.array .int).toString) = some (g.2.2.2.1 4) := (hTy 4 _ rfl).2
    exact Option.some.inj (fA.symm.trans h1)
  have hcy : cy = g.2.2.2.1 0 := by
    have h1 : s.vm.findClass ("[" ++ FieldType.int.toString) = some (g.2.2.2.1 0) := (hTy 0 _ rfl).2
    exact Option.some.inj (fC.symm.trans h1)
  subst hcA; subst hcy
  have hsz := hM.1.1
  rw [hsz] at e1 e2 z1
  have hW1 : W p l e R s m args below meth c H1 locs (cells + 1 + N') (slots + N' + N' * K') Qf (F0 m (pc + 4) rls (((mR 4 N' (n : Nat)) :: st).map (mRv g))) := by
    refine h (fun k => if k = n then .inl (g.2.2.2.1 4, N', .inr (.inr (.inr (.inr (fun j => some (g.1 + n + 1 + j)))))) else if n < k then .inl (g.2.2.2.1 0, K', .inl (fun _ => 0)) else F k) (if_pos rfl) (fun j hj => ?_) (fun k hk => ?_) p l e R s m args below meth c H1 locs (cells + 1 + N') (slots + N' + N' * K') cT sT Qf rls hC ⟨⟨by rw [z1]; omega, fun i hi => ?_⟩, kS_new (k := 1 + N') hM.2 (by rw [z1, hsz]; omega) o1⟩ hl (by omega) hE
    · show (if n + 1 + j = n then _ else if n < n + 1 + j then _ else _) = _
      rw [if_neg (by omega), if_pos (by omega)]
    · show (if k = n then _ else if n < k then _ else _) = _
      rw [if_neg (by omega), if_neg (by omega)]
    · show va_at _ _ (g.1 + i, if i = n then _ else if n < i then _ else _) H1
      by_cases hi0 : i = n
      · subst hi0
        rw [if_pos rfl]
        exact e1
      · rw [if_neg hi0]
        by_cases hi1 : n < i
        · rw [if_pos hi1]
          have h2 := e2 (i - n - 1) (by omega)
          rw [show g.1 + n + 1 + (i - n - 1) = g.1 + i by omega] at h2
          exact h2
        · rw [if_neg hi1]
          exact kAt_kept (hM.1.2 i (by omega)) (o1 _ (by omega))
  have e9 : ((mR 4 N' (n : Nat)) :: st).map (mRv g) = .ref H.size :: st.map (mRv g) := by
    rw [List.map_cons, hsz]
    rfl
  rw [e9] at hW1
  exact hW1
/-! a constructor as a callee -/
abbrev kPc (g : mG) (r n : Nat) (F : Nat → va_E) : Array Value → State → Prop := va_Pc [.ref (g.1 + r)] (fun U => kW g n F U.heap ∧ va_K (g.2.1, g.2.2.1) vwCl (mTy g.2.2.2.1) U ∧ kExt U)
abbrev kQc (g : mG) (Q : Nat → (Nat → va_E) → Prop) : Array Value → State → Outcome → State → Prop := va_Qv (fun u : Nat × (Nat → va_E) => Q u.1 u.2) (fun u t => kW g u.1 u.2 t.heap) (kA g)
theorem kPc_blind {g : mG} {r n : Nat} {F : Nat → va_E} : FrameBlind (kPc g r n F) := by
  rintro a V g9 mk ⟨h1, h2, h3, h4⟩
  exact ⟨h1, h2, va_K.moved (u := V) (U := V.calling g9 mk a) (Vm.Alike.refl V.vm) h3, kExt.warm (U := V.calling g9 mk a) (State.WarmedH.refl V) h4⟩
theorem U_met {l : Launch} {k0 l0 r : Nat} (h : U g d kc ks q 0 (mArg q.2.2.1 [mR k0 l0 (r : Nat)]) [] n F Q) (hq : q.2.2.1 = 1) (hqr : q.2.2.2 = none) (hpl : plainName q.1.cls = true) (hnm : q.1.name = "<init>") :
    Met l q.1 (mWs q) { frames := d, cells := kc, slots := ks, locals := 64 * d } (kPc g r n F) (kQc g Q) kc ks (kA g) := by
  refine Met.ofW (cc := q.2.1) (maxL := q.2.2.1) (ret := q.2.2.2) hpl rfl ?_
  intro p e s m args below meth c s₁ B hml hv
  obtain ⟨rfl, hW, hK, hX⟩ := hv
  have hts := atoms_spec (ws := mWs q) B.pre
  have hown : s.vm.findClass q.1.cls = some m.cls := findClass_of_methodNamed B.named
  have hlocks := B.notSynchronized
  have hr := B.returns
  have hx := B.exec
  have hb := B.bytes
  have hin : q.1.name = "<init>" → meth.name = "<init>" := fun h9 => by rw [← h9]; exact (name_of_methodNamed B.named B.method).1
  have hl := lv_entry (([mR k0 l0 (r : Nat)] : List mV).map (mRv g)) (n := q.2.2.1) (by rw [hq]; exact Nat.le_of_ble_eq_true rfl)
  rw [lg_entry_eq]
  refine h p l e _ s m _ below meth c s.heap [] 0 0 kc ks _ _ ⟨hx, hb, hml, hown, fun w hw => hts w (List.mem_cons_of_mem _ hw), Nat.le_refl _, Nat.le_refl _, hK, by have := hW.1; omega, hX, hin⟩ ⟨hW, va_S.rf⟩ (hl.mono mArg_lv) ⟨by omega, by omega, Nat.le_refl _, Nat.le_refl _⟩ ⟨?_, fun _ _ _ _ _ _ _ _ _ h9 => h9.elim⟩
  intro n' F' H' locs' cells' slots' pc' rls' hQ hM' hc hs hdec
  refine W.widen (k := kc) (n := ks) hc hs ?_
  exact W.vret hx hb (by rw [hr, hqr]) (fun t ht _ => ⟨⟨(n', F'), rfl, hQ, by show kW g n' F' t.heap; rw [ht]; exact hM'.1⟩, hM'.2.F ht⟩) hM'.2.2.2 hdec
/-- a constructor's words -/
def kCm (q : mMth) : Prop := Cond.instanceMethod q.1 ∈ mTbl ∧ q.1.name = "<init>" ∧ mCm q 0 ∧ q.2.2.2 = none ∧ q.2.2.1 = 1
theorem U_callN {idx d' kc' ks' kc'' ks'' k0 l0 r : Nat} {host : String} {q' : mMth} (hd : decode q.2.1 pc = .ok (.invokespecial idx, 3)) (hw : Cond.methodLinkNest q.1.cls idx q'.1 host ∈ lw_tbl) (hcm : kCm q') (hdd : d' + 1 ≤ d) (hst : (st.map mCt).sum ≤ 8) (hc : kc'' + kc' ≤ kc) (hs : ks'' + ks' ≤ ks)
    (h : U g d' kc' ks' q' 0 (mArg q'.2.2.1 [mR k0 l0 (r : Nat)]) [] n F (fun n' F' => UX X g d kc'' ks'' q (pc + 3) ls st n' F' Q)) : UX X g d kc ks q pc ls (mR k0 l0 (r : Nat) :: st) n F Q := by
  intro p l e R s m args below meth c H locs cells slots cT sT Qf rls hC hM hl hr hE
  obtain ⟨w1, w2, ⟨c1, c2, c3, c4, c5, c6⟩, w4, w5⟩ := hcm
  have hmet := U_met (l := l) h w5 w4 c5 w2
  have hts := hC.2.2.2.2.1
  have hF := hC.2.2.2.2.2.1
  have hL := hC.2.2.2.2.2.2.1
  have hrun := va_runIN (R := R) (p := p) (e := e) (below := below) (meth := meth) (H := H) (n := 0) (b := g.1 + r) (As := []) (rest := st.map (mRv g)) (g := F0 m pc rls ((mR k0 l0 (r : Nat) :: st).map (mRv g))) (cells := cells) (slots := slots) (locs := locs) (host := host) (bytes := q'.2.1) (maxL := q'.2.2.1)
    ⟨hC.1, hC.2.1, hC.2.2.1, hC.2.2.2.1, hts⟩ hmet
    ⟨⟨⟨rfl, rfl, by show d' + 1 ≤ _; omega, by show 8 + (_ + 11) + 64 * d' ≤ _; omega, fun w hw a' V hW => by
        rcases List.mem_cons.mp hw with rfl | hw
        · exact mTbl_warm hts _ c2 a' V hW
        · exact mTbl_warm hts w hw a' V hW, by rw [← w4]; exact List.mem_cons_self⟩, by rw [← w4]; exact hts _ c2, hts _ c1, c3, fun sig hs => by rw [hs] at c4; exact (Option.some.inj c4).symm, va_Nw.use rfl (hC.2.2.2.2.2.2.2.2.2.1.2 _ hw rfl)⟩, w2, hts _ w1⟩
    ⟨kPc_blind, fun V hV hW => ⟨rfl, by rw [hV]; exact hM.1, va_K.moved hW.alike hC.2.2.2.2.2.2.2.1, kExt.warm hW hC.2.2.2.2.2.2.2.2.2.1⟩⟩ rfl rfl hl.1 rfl (lv_room (by rw [mCt_sum]; exact hst)) hd ⟨by omega, by omega⟩
  refine va_callv hrun hM.2 (fun x _ hx => hx) (fun x hx => hx) (fun u t H1 locs1 ht hal hp hb h1 h2 hS => ?_)
  exact hp p l e R s m args below meth c H1 locs1 (cells + kc') (slots + ks') cT sT Qf rls hC ⟨by rw [← ht]; exact hb, hS⟩ hl (by omega) hE
theorem U_callI {idx d' kc' ks' kc'' ks'' k0 l0 r : Nat} {q' : mMth} (hd : decode q.2.1 pc = .ok (.invokespecial idx, 3)) (hw : Cond.methodLink q.1.cls idx q'.1 ∈ mTbl) (hcm : kCm q') (hdd : d' + 1 ≤ d) (hst : (st.map mCt).sum ≤ 8) (hc : kc'' + kc' ≤ kc) (hs : ks'' + ks' ≤ ks)
    (h : U g d' kc' ks' q' 0 (mArg q'.2.2.1 [mR k0 l0 (r : Nat)]) [] n F (fun n' F' => UX X g d kc'' ks'' q (pc + 3) ls st n' F' Q)) : UX X g d kc ks q pc ls (mR k0 l0 (r : Nat) :: st) n F Q := by
  intro p l e R s m args below meth c H locs cells slots cT sT Qf rls hC hM hl hr hE
  obtain ⟨w1, w2, ⟨c1, c2, c3, c4, c5, c6⟩, w4, w5⟩ := hcm
  have hmet := U_met (l := l) h w5 w4 c5 w2
  have hts := hC.2.2.2.2.1
  have hF := hC.2.2.2.2.2.1
  have hL := hC.2.2.2.2.2.2.1
  have hrun := va_runI (R := R) (p := p) (e := e) (below := below) (meth := meth) (H := H) (n := 0) (b := g.1 + r) (As := []) (rest := st.map (mRv g)) (g := F0 m pc rls ((mR k0 l0 (r : Nat) :: st).map (mRv g))) (cells := cells) (slots := slots) (locs := locs) (bytes := q'.2.1) (maxL := q'.2.2.1)
    ⟨hC.1, hC.2.1, hC.2.2.1, hC.2.2.2.1, hts⟩ hmet
    ⟨⟨rfl, rfl, by show d' + 1 ≤ _; omega, by show 8 + (_ + 11) + 64 * d' ≤ _; omega, fun w hw a' V hW => by
        rcases List.mem_cons.mp hw with rfl | hw
        · exact mTbl_warm hts _ c2 a' V hW
        · exact mTbl_warm hts w hw a' V hW, by rw [← w4]; exact List.mem_cons_self, by rw [← w4]; exact hts _ c2, hts _ c1, c3, fun sig hs => by rw [hs] at c4; exact (Option.some.inj c4).symm, hts _ hw⟩, w2, hts _ w1⟩
    ⟨kPc_blind, fun V hV hW => ⟨rfl, by rw [hV]; exact hM.1, va_K.moved hW.alike hC.2.2.2.2.2.2.2.1, kExt.warm hW hC.2.2.2.2.2.2.2.2.2.1⟩⟩ rfl rfl hl.1 rfl (lv_room (by rw [mCt_sum]; exact hst)) hd ⟨by omega, by omega⟩
  refine va_callv hrun hM.2 (fun x _ hx => hx) (fun x hx => hx) (fun u t H1 locs1 ht hal hp hb h1 h2 hS => ?_)
  exact hp p l e R s m args below meth c H1 locs1 (cells + kc') (slots + ks') cT sT Qf rls hC ⟨by rw [← ht]; exact hb, hS⟩ hl (by omega) hE
theorem U_ret (hd : decode q.2.1 pc = .ok (.return_, 1)) (h : Q n F) : UX X g d kc ks q pc ls [] n F Q := by
  intro p l e R s m args below meth c H locs cells slots cT sT Qf rls hC hM hl hr hE
  exact hE.1 n F H locs cells slots pc rls h hM (by omega) (by omega) hd
theorem U_exit (h : X pc ls n F) : UX X g d kc ks q pc ls [] n F Q := by
  intro p l e R s m args below meth c H locs cells slots cT sT Qf rls hC hM hl hr hE
  exact hE.2 n F H locs cells slots pc ls rls h hM (by omega) (by omega) hl
end URules
