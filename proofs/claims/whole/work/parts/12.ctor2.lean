/-! a constructor's frame: it makes the cell n0 of class ci; what it has made behind it is as it will be -/
def kM0 (L : Int) (xs : Int → Int) : mM := fun n j =>
  if n = -1 then (if j = -1 then L else xs j) else if n = 0 then (if j = 2 then -1 else 0) else if n = 2 then (if j = 2 then -1 else 0) else if n = 3 ∨ n = 8 ∨ n = 12 then (if j = 0 then 30 else 0) else
  if n = 108 then (if j = 1 then -1 else 0) else if n = 112 then (if j = 6 then 30 else if j = 17 then -1 else 0) else 0
theorem kM0_z {L : Int} {xs : Int → Int} {n : Nat} (h : n ≠ 0 ∧ n ≠ 2 ∧ n ≠ 3 ∧ n ≠ 8 ∧ n ≠ 12 ∧ n ≠ 108 ∧ n ≠ 112) (j : Int) : kM0 L xs n j = 0 := by
  unfold kM0
  rw [if_neg (by omega), if_neg (by omega), if_neg (by omega), if_neg (by omega), if_neg (by omega), if_neg (by omega)]
def K (g : mG) (M0 : mM) (F0 : Nat → va_E) (n0 ci L d kc ks : Nat) (q : mMth) (pc : Nat) (st : List mV) (n : Nat) (fs : List Value) (Q : Nat → (Nat → va_E) → Prop) : Prop :=
  ∀ F : Nat → va_E, n0 < n → F n0 = .inr (ci, fs) → (∀ i, i < n0 → F i = F0 i) → (∀ i, n0 < i → i < n → F i = mEnt g.1 g.2.2.2.1 M0 i) → U g d kc ks q pc [mR (ci + 10) L (n0 : Nat)] st n F Q
def kOK (g : mG) (M0 : mM) (n cnt d kc ks : Nat) (q : mMth) (ci L : Nat) (fs : List Value) : Prop := ∀ (F0 : Nat → va_E) (Q : Nat → (Nat → va_E) → Prop), F0 n = .inr (ci, fs) →
  (∀ F' : Nat → va_E, (∀ i, i < n → F' i = F0 i) → (∀ i, n ≤ i → i < n + cnt → F' i = mEnt g.1 g.2.2.2.1 M0 i) → Q (n + cnt) F') → U g d kc ks q 0 (mArg q.2.2.1 [mR (ci + 10) L (n : Nat)]) [] (n + 1) F0 Q
section KRules
variable {g : mG} {M0 : mM} {F0 : Nat → va_E} {n0 ci L d kc ks : Nat} {q : mMth} {pc : Nat} {st : List mV} {n : Nat} {fs : List Value} {Q : Nat → (Nat → va_E) → Prop}
theorem kOK_of {cnt : Nat} (hq : q.2.2.1 = 1) (h : ∀ (F0 : Nat → va_E) (Q : Nat → (Nat → va_E) → Prop), (∀ F' : Nat → va_E, (∀ i, i < n → F' i = F0 i) → (∀ i, n ≤ i → i < n + cnt → F' i = mEnt g.1 g.2.2.2.1 M0 i) → Q (n + cnt) F') → K g M0 F0 n ci L d kc ks q 0 [] (n + 1) fs Q) : kOK g M0 n cnt d kc ks q ci L fs := by
  intro F0 Q h0 hQ
  rw [hq]
  exact h F0 Q hQ F0 (Nat.lt_succ_self _) h0 (fun _ _ => rfl) (fun i h1 h2 => by omega)
theorem K_this (hd : decode q.2.1 pc = .ok (.aload_n 0, 1)) (h : K g M0 F0 n0 ci L d kc ks q (pc + 1) (mR (ci + 10) L (n0 : Nat) :: st) n fs Q) : K g M0 F0 n0 ci L d kc ks q pc st n fs Q := fun F a b c e => U_aload_n hd rfl (h F a b c e)
theorem K_iconst {x : Int} (hd : decode q.2.1 pc = .ok (.iconst x, 1)) (h : K g M0 F0 n0 ci L d kc ks q (pc + 1) (mI x :: st) n fs Q) : K g M0 F0 n0 ci L d kc ks q pc st n fs Q := fun F a b c e => U_iconst hd (h F a b c e)
theorem K_bipush {x : Int} (hd : decode q.2.1 pc = .ok (.bipush x, 2)) (hv : (Int8.ofInt x).toInt32 = Int32.ofInt x) (h : K g M0 F0 n0 ci L d kc ks q (pc + 2) (mI x :: st) n fs Q) : K g M0 F0 n0 ci L d kc ks q pc st n fs Q := fun F a b c e => U_bipush hd hv (h F a b c e)
theorem K_sipush {x : Int} (hd : decode q.2.1 pc = .ok (.sipush x, 3)) (hv : (Int16.ofInt x).toInt32 = Int32.ofInt x) (h : K g M0 F0 n0 ci L d kc ks q (pc + 3) (mI x :: st) n fs Q) : K g M0 F0 n0 ci L d kc ks q pc st n fs Q := fun F a b c e => U_sipush hd hv (h F a b c e)
theorem K_obj {idx a9 b9 : Nat} {r9 : Int} (hd : decode q.2.1 pc = .ok (.invokespecial idx, 3)) (h1 : Cond.methodLink q.1.cls idx Lib.objectInit ∈ mTbl) (h2 : Cond.instanceMethod Lib.objectInit ∈ mTbl) (h3 : Cond.code Lib.objectInit ⟨#[0xb1]⟩ 1 none ∈ mTbl) (hdd : 1 ≤ d) (h : K g M0 F0 n0 ci L d kc ks q (pc + 3) [] n fs Q) : K g M0 F0 n0 ci L d kc ks q pc [mR a9 b9 r9] n fs Q := fun F a b c e => U_objInit hd h1 h2 h3 hdd (h F a b c e)
theorem K_putI {idx j : Nat} {x : Int} {t : FieldType} (hd : decode q.2.1 pc = .ok (.putfield idx, 3)) (hf : mFL q.1.cls idx ci j) (hw : mFW ci j t) (hn : narrow t (.int (Int32.ofInt x)) = .int (Int32.ofInt x)) (hfit : fits t (.int (Int32.ofInt x)) = true) (hlen : j < fs.length) {fs2 : List Value} (hset : fs.set j (.int (Int32.ofInt x)) = fs2)
    (h : K g M0 F0 n0 ci L d kc ks q (pc + 3) st n fs2 Q) : K g M0 F0 n0 ci L d kc ks q pc (mI x :: mR (ci + 10) L (n0 : Nat) :: st) n fs Q :=
  fun F a b c e => U_putI hd hf hw hn hfit a b hlen (fun F' h1 h2 => h F' a (by rw [← hset]; exact h1) (fun i hi => (h2 i (by omega)).trans (c i hi)) (fun i h3 h4 => (h2 i (by omega)).trans (e i h3 h4)))
theorem K_putR {idx j k1 l1 r1 : Nat} (hd : decode q.2.1 pc = .ok (.putfield idx, 3)) (hf : mFL q.1.cls idx ci j) (hw : kFF q.1.cls ci j) (hin : q.1.name = "<init>") (hlen : j < fs.length) {fs2 : List Value} (hset : fs.set j (.ref (g.1 + r1)) = fs2)
    (h : K g M0 F0 n0 ci L d kc ks q (pc + 3) st n fs2 Q) : K g M0 F0 n0 ci L d kc ks q pc (mR k1 l1 (r1 : Nat) :: mR (ci + 10) L (n0 : Nat) :: st) n fs Q :=
  fun F a b c e => U_putR hd hf hw hin a b hlen (fun F' h1 h2 => h F' a (by rw [← hset]; exact h1) (fun i hi => (h2 i (by omega)).trans (c i hi)) (fun i h3 h4 => (h2 i (by omega)).trans (e i h3 h4)))
theorem K_newx {at0 : ArrayType} {ty : FieldType} {ki l0 kc' ks' : Nat} {a0 : vp_A} {x : Int} (hd : decode q.2.1 pc = .ok (.newarray at0, 2)) (hty : newarray.typeOf at0 = ty) (hw : Cond.arrayClass ty ∈ mTbl) (hk : (mTy g.2.2.2.1)[ki]? = some (g.2.2.2.1 ki, ty)) (hra : ∀ (V : State) (cA : ClassId), va_RA V cA ty → V.vm.findClass ("[" ++ ty.toString) = some cA)
    (ha : ∀ cA : ClassId, vp_cell cA a0 = arrV cA l0 (fun _ => defaultValue ty)) (he : mEnt g.1 g.2.2.2.1 M0 n = .inl (g.2.2.2.1 ki, a0)) (hx0 : ¬ Int32.ofInt x < 0) (hx1 : (Int32.ofInt x).toNatClampNeg = l0) (hby : l0 * componentBytes ty ≤ 536870912) (hc : kc' + 1 ≤ kc) (hs : ks' + l0 ≤ ks) {n2 : Nat} (hn2 : n + 1 = n2)
    (h : K g M0 F0 n0 ci L d kc' ks' q (pc + 2) (mR ki l0 (n : Nat) :: st) n2 fs Q) : K g M0 F0 n0 ci L d kc ks q pc (mI x :: st) n fs Q :=
  fun F a b c e => U_newa hd hty hw hk hra ha hx0 hx1 hby hc hs (fun F' h1 h2 => hn2 ▸ h F' (by omega) ((h2 n0 a).trans b) (fun i hi => (h2 i (by omega)).trans (c i hi)) (fun i h3 h4 => by
    by_cases hi : i = n
    · subst hi; exact h1.trans he.symm
    · exact (h2 i (by omega)).trans (e i h3 (by omega))))
theorem K_newI {l0 kc' ks' : Nat} {x : Int} (hd : decode q.2.1 pc = .ok (.newarray .int, 2)) (hsh : mShL[n]? = some (0, l0)) (hz : ∀ j : Int, M0 n j = 0) (hx0 : ¬ Int32.ofInt x < 0) (hx1 : (Int32.ofInt x).toNatClampNeg = l0) (hby : l0 ≤ 10000) (hc : kc' + 1 ≤ kc) (hs : ks' + l0 ≤ ks) {n2 : Nat} (hn2 : n + 1 = n2)
    (h : K g M0 F0 n0 ci L d kc' ks' q (pc + 2) (mR 0 l0 (n : Nat) :: st) n2 fs Q) : K g M0 F0 n0 ci L d kc ks q pc (mI x :: st) n fs Q :=
  K_newx (ty := .int) (ki := 0) (l0 := l0) (a0 := (l0, .inl (fun j : Nat => Int32.ofInt (M0 (n : Nat) (j : Nat))))) hd rfl (mTbl_at 182 (by decide +kernel) rfl) rfl (fun _ _ h => h) (fun cA => by
    rw [vp_cell_i]
    exact um_congr fun j _ => by
      show Value.int (Int32.ofInt (M0 n j)) = .int 0
      rw [hz]; rfl) (mEnt_i hsh) hx0 hx1 (by show l0 * 4 ≤ _; omega) hc hs hn2 h
theorem K_newL {l0 kc' ks' : Nat} {x : Int} (hd : decode q.2.1 pc = .ok (.newarray .long, 2)) (hsh : mShL[n]? = some (1, l0)) (hz : ∀ j : Int, M0 n j = 0) (hx0 : ¬ Int32.ofInt x < 0) (hx1 : (Int32.ofInt x).toNatClampNeg = l0) (hby : l0 ≤ 10000) (hc : kc' + 1 ≤ kc) (hs : ks' + l0 ≤ ks) {n2 : Nat} (hn2 : n + 1 = n2)
    (h : K g M0 F0 n0 ci L d kc' ks' q (pc + 2) (mR 1 l0 (n : Nat) :: st) n2 fs Q) : K g M0 F0 n0 ci L d kc ks q pc (mI x :: st) n fs Q :=
  K_newx (ty := .long) (ki := 1) (l0 := l0) (a0 := (l0, .inr (.inl (fun j : Nat => Int64.ofInt (M0 (n : Nat) (j : Nat)))))) hd rfl (mTbl_at 211 (by decide +kernel) rfl) rfl (fun _ _ h => h) (fun cA => by
    rw [vp_cell_l]
    exact um_congr fun j _ => by
      show Value.long (Int64.ofInt (M0 n j)) = .long 0
      rw [hz]; rfl) (mEnt_l hsh) hx0 hx1 (by show l0 * 8 ≤ _; omega) hc hs hn2 h
theorem K_newB {l0 kc' ks' : Nat} {x : Int} (hd : decode q.2.1 pc = .ok (.newarray .byte, 2)) (hsh : mShL[n]? = some (2, l0)) (hz : ∀ j : Int, M0 n j = 0) (hx0 : ¬ Int32.ofInt x < 0) (hx1 : (Int32.ofInt x).toNatClampNeg = l0) (hby : l0 ≤ 10000) (hc : kc' + 1 ≤ kc) (hs : ks' + l0 ≤ ks) {n2 : Nat} (hn2 : n + 1 = n2)
    (h : K g M0 F0 n0 ci L d kc' ks' q (pc + 2) (mR 2 l0 (n : Nat) :: st) n2 fs Q) : K g M0 F0 n0 ci L d kc ks q pc (mI x :: st) n fs Q :=
  K_newx (ty := .byte) (ki := 2) (l0 := l0) (a0 := (l0, .inl (fun j : Nat => Int32.ofInt (M0 (n : Nat) (j : Nat))))) hd rfl (mTbl_at 181 (by decide +kernel) rfl) rfl (fun _ _ h => h) (fun cA => by
    rw [vp_cell_i]
    exact um_congr fun j _ => by
      show Value.int (Int32.ofInt (M0 n j)) = .int 0
      rw [hz]; rfl) (mEnt_b hsh) hx0 hx1 (by show l0 * 1 ≤ _; omega) hc hs hn2 h
theorem K_newZ {l0 kc' ks' : Nat} {x : Int} (hd : decode q.2.1 pc = .ok (.newarray .boolean, 2)) (hsh : mShL[n]? = some (3, l0)) (hz : ∀ j : Int, M0 n j = 0) (hx0 : ¬ Int32.ofInt x < 0) (hx1 : (Int32.ofInt x).toNatClampNeg = l0) (hby : l0 ≤ 10000) (hc : kc' + 1 ≤ kc) (hs : ks' + l0 ≤ ks) {n2 : Nat} (hn2 : n + 1 = n2)
    (h : K g M0 F0 n0 ci L d kc' ks' q (pc + 2) (mR 3 l0 (n : Nat) :: st) n2 fs Q) : K g M0 F0 n0 ci L d kc ks q pc (mI x :: st) n fs Q :=
  K_newx (ty := .boolean) (ki := 3) (l0 := l0) (a0 := (l0, .inl (fun j : Nat => Int32.ofInt (M0 (n : Nat) (j : Nat))))) hd rfl (mTbl_at 1368 (by decide +kernel) rfl) rfl (fun _ _ h => h) (fun cA => by
    rw [vp_cell_i]
    exact um_congr fun j _ => by
      show Value.int (Int32.ofInt (M0 n j)) = .int 0
      rw [hz]; rfl) (mEnt_z hsh) hx0 hx1 (by show l0 * 1 ≤ _; omega) hc hs hn2 h
theorem K_mna {idx N' K' kc' ks' : Nat} {x y : Int} (hd : decode q.2.1 pc = .ok (.multianewarray idx 2, 4)) (hw : Cond.classLink q.1.cls idx ("[" ++ (FieldType.array .int).toString) ∈ mTbl)
    (hx0 : ¬ Int32.ofInt x < 0) (hx1 : (Int32.ofInt x).toNatClampNeg = N') (hy0 : ¬ Int32.ofInt y < 0) (hy1 : (Int32.ofInt y).toNatClampNeg = K') (hN : N' ≤ 1000) (hK' : K' ≤ 1000) (hc : kc' + (1 + N') ≤ kc) (hs : ks' + (N' + N' * K') ≤ ks)
    (hsh : mShL[n]? = some (4, N')) (hsr : ∀ j, j < N' → mShL[n + 1 + j]? = some (0, K')) (hz : ∀ j : Nat, j < N' → ∀ i : Int, M0 ((n + 1 + j : Nat) : Int) i = 0) {n2 : Nat} (hn2 : n + 1 + N' = n2)
    (h : K g M0 F0 n0 ci L d kc' ks' q (pc + 4) (mR 4 N' (n : Nat) :: st) n2 fs Q) : K g M0 F0 n0 ci L d kc ks q pc (mI y :: mI x :: st) n fs Q :=
  fun F a b c e => U_mna hd hw (mTbl_at 182 (by decide +kernel) rfl) hx0 hx1 hy0 hy1 hN hK' hc hs (fun F' h1 h1' h2 => hn2 ▸ h F' (by omega) ((h2 n0 a).trans b) (fun i hi => (h2 i (by omega)).trans (c i hi)) (fun i h3 h4 => by
    by_cases hi : i = n
    · subst hi; exact h1.trans (mEnt_q hsh).symm
    · by_cases hi2 : n < i
      · have h5 := h1' (i - n - 1) (by omega)
        have h6 := hsr (i - n - 1) (by omega)
        have h7 := hz (i - n - 1) (by omega)
        rw [show n + 1 + (i - n - 1) = i by omega] at h5 h6 h7
        rw [h5, mEnt_i h6]
        have : (fun j : Nat => Int32.ofInt (M0 i j)) = fun _ => 0 := funext fun j => by rw [h7]; rfl
        rw [this]
      · exact (h2 i (by omega)).trans (e i h3 (by omega))))
theorem K_newC {idx idx2 ci' L' N' cnt d' kc' ks' kc'' ks'' : Nat} {host : String} {q' : mMth} {fs' : List Value} (hd0 : decode q.2.1 pc = .ok (.new idx, 3)) (hd3 : decode q.2.1 (pc + 3) = .ok (.dup, 1)) (hd4 : decode q.2.1 (pc + 3 + 1) = .ok (.invokespecial idx2, 3)) (hw : kNw q.1.cls idx ci' N' fs') (hcn : Cond.methodLinkNest q.1.cls idx2 q'.1 host ∈ lw_tbl) (hcm : kCm q')
    (hok : kOK g M0 n cnt d' kc' ks' q' ci' L' fs') (hdd : d' + 1 ≤ d) (hst : (((mR (ci' + 10) L' (n : Nat)) :: st).map mCt).sum ≤ 8) (hc : kc'' + kc' + 1 ≤ kc) (hs : ks'' + ks' + N' ≤ ks) {n2 : Nat} (hn2 : n + cnt = n2)
    (h : K g M0 F0 n0 ci L d kc'' ks'' q (pc + 3 + 1 + 3) (mR (ci' + 10) L' (n : Nat) :: st) n2 fs Q) : K g M0 F0 n0 ci L d kc ks q pc st n fs Q := by
  intro F a b c e
  subst hn2
  refine U_new (kc' := kc'' + kc') (ks' := ks'' + ks') (L := L') hd0 hw hc hs (fun F1 h1 h2 => U_dup hd3 ?_)
  refine U_callN hd4 hcn hcm hdd hst (Nat.le_refl _) (Nat.le_refl _) (hok F1 _ h1 (fun F2 h3 h4 => ?_))
  by_cases hcnt : cnt = 0
  · subst hcnt
    exact h F2 (by omega) ((h3 n0 a).trans ((h2 n0 a).trans b)) (fun i hi => (h3 i (by omega)).trans ((h2 i (by omega)).trans (c i hi))) (fun i h5 h6 => (h3 i (by omega)).trans ((h2 i (by omega)).trans (e i h5 (by omega))))
  · refine h F2 (by omega) ((h3 n0 a).trans ((h2 n0 a).trans b)) (fun i hi => (h3 i (by omega)).trans ((h2 i (by omega)).trans (c i hi))) (fun i h5 h6 => ?_)
    by_cases hi : i < n
    · exact (h3 i (by omega)).trans ((h2 i (by omega)).trans (e i h5 hi))
    · exact h4 i (by omega) h6
theorem K_ret {cnt : Nat} (hd : decode q.2.1 pc = .ok (.return_, 1)) (hsh : mShL[n0]? = some (ci + 10, L)) (he : mFds g.1 M0 n0 (mFt ci) = fs) (hn : n = n0 + cnt) (hQ : ∀ F' : Nat → va_E, (∀ i, i < n0 → F' i = F0 i) → (∀ i, n0 ≤ i → i < n0 + cnt → F' i = mEnt g.1 g.2.2.2.1 M0 i) → Q (n0 + cnt) F') : K g M0 F0 n0 ci L d kc ks q pc [] n fs Q := by
  intro F a b c e
  subst hn
  refine U_ret hd (hQ F c (fun i h1 h2 => ?_))
  by_cases hi : i = n0
  · subst hi
    rw [b, mEnt_o hsh, he]
  · exact e i (by omega) h2
end KRules

theorem k_oi2 : Cond.instanceMethod Lib.objectInit ∈ mTbl := mTbl_at 120 (by decide +kernel) rfl
theorem k_oi3 : Cond.code Lib.objectInit ⟨#[0xb1]⟩ 1 none ∈ mTbl := mTbl_at 121 (by decide +kernel) rfl
abbrev qX1_init : mMth := (yX1_init, cX1_init, 1, none)
theorem k_cm0 : kCm qX1_init := ⟨mTbl_at 343 (by decide +kernel) rfl, rfl, ⟨mTbl_at 98 (by decide +kernel) rfl, mTbl_at 344 (by decide +kernel) rfl, ⟨by decide +kernel, by decide +kernel⟩, by decide +kernel, by decide +kernel, by decide⟩, rfl, rfl⟩
theorem k_ff0_2 : kFF "BinProver$Guess" 0 2 := fun C T N h => by
  have h : (RX1, TX1, 3) = (C, T, N) := Option.some.inj h
  cases h
  exact ⟨rfl, rfl, _, (by decide +kernel : parseFieldDescriptor "[I" = some (.array .int)), fun a => ⟨rfl, rfl⟩⟩
abbrev qX2_init : mMth := (yX2_init, cX2_init, 1, none)
theorem k_cm1 : kCm qX2_init := ⟨mTbl_at 131 (by decide +kernel) rfl, rfl, ⟨mTbl_at 93 (by decide +kernel) rfl, mTbl_at 132 (by decide +kernel) rfl, ⟨by decide +kernel, by decide +kernel⟩, by decide +kernel, by decide +kernel, by decide⟩, rfl, rfl⟩
theorem k_ff1_2 : kFF "BinProver$Lot" 1 2 := fun C T N h => by
  have h : (RX2, TX2, 5) = (C, T, N) := Option.some.inj h
  cases h
  exact ⟨rfl, rfl, _, (by decide +kernel : parseFieldDescriptor "[I" = some (.array .int)), fun a => ⟨rfl, rfl⟩⟩
theorem k_ff1_3 : kFF "BinProver$Lot" 1 3 := fun C T N h => by
  have h : (RX2, TX2, 5) = (C, T, N) := Option.some.inj h
  cases h
  exact ⟨rfl, rfl, _, (by decide +kernel : parseFieldDescriptor "[I" = some (.array .int)), fun a => ⟨rfl, rfl⟩⟩
theorem k_ff1_4 : kFF "BinProver$Lot" 1 4 := fun C T N h => by
  have h : (RX2, TX2, 5) = (C, T, N) := Option.some.inj h
  cases h
  exact ⟨rfl, rfl, _, (by decide +kernel : parseFieldDescriptor "[I" = some (.array .int)), fun a => ⟨rfl, rfl⟩⟩
abbrev qX3_init : mMth := (yX3_init, cX3_init, 1, none)
theorem k_cm2 : kCm qX3_init := ⟨mTbl_at 323 (by decide +kernel) rfl, rfl, ⟨mTbl_at 97 (by decide +kernel) rfl, mTbl_at 324 (by decide +kernel) rfl, ⟨by decide +kernel, by decide +kernel⟩, by decide +kernel, by decide +kernel, by decide⟩, rfl, rfl⟩
theorem k_ff2_0 : kFF "BinProver$Net" 2 0 := fun C T N h => by
  have h : (RX3, TX3, 4) = (C, T, N) := Option.some.inj h
  cases h
  exact ⟨rfl, rfl, _, (by decide +kernel : parseFieldDescriptor "[[I" = some (.array (.array .int))), fun a => ⟨rfl, rfl⟩⟩
theorem k_ff2_1 : kFF "BinProver$Net" 2 1 := fun C T N h => by
  have h : (RX3, TX3, 4) = (C, T, N) := Option.some.inj h
  cases h
  exact ⟨rfl, rfl, _, (by decide +kernel : parseFieldDescriptor "[[I" = some (.array (.array .int))), fun a => ⟨rfl, rfl⟩⟩
theorem k_ff2_2 : kFF "BinProver$Net" 2 2 := fun C T N h => by
  have h : (RX3, TX3, 4) = (C, T, N) := Option.some.inj h
  cases h
  exact ⟨rfl, rfl, _, (by decide +kernel : parseFieldDescriptor "[I" = some (.array .int)), fun a => ⟨rfl, rfl⟩⟩
abbrev qX4_init : mMth := (yX4_init, cX4_init, 1, none)
theorem k_cm3 : kCm qX4_init := ⟨mTbl_at 250 (by decide +kernel) rfl, rfl, ⟨mTbl_at 95 (by decide +kernel) rfl, mTbl_at 251 (by decide +kernel) rfl, ⟨by decide +kernel, by decide +kernel⟩, by decide +kernel, by decide +kernel, by decide⟩, rfl, rfl⟩
theorem k_ff3_0 : kFF "BinProver$Packer" 3 0 := fun C T N h => by
  have h : (RX4, TX4, 5) = (C, T, N) := Option.some.inj h
  cases h
  exact ⟨rfl, rfl, _, (by decide +kernel : parseFieldDescriptor "[I" = some (.array .int)), fun a => ⟨rfl, rfl⟩⟩
theorem k_ff3_1 : kFF "BinProver$Packer" 3 1 := fun C T N h => by
  have h : (RX4, TX4, 5) = (C, T, N) := Option.some.inj h
  cases h
  exact ⟨rfl, rfl, _, (by decide +kernel : parseFieldDescriptor "[I" = some (.array .int)), fun a => ⟨rfl, rfl⟩⟩
theorem k_ff3_4 : kFF "BinProver$Packer" 3 4 := fun C T N h => by
  have h : (RX4, TX4, 5) = (C, T, N) := Option.some.inj h
  cases h
  exact ⟨rfl, rfl, _, (by decide +kernel : parseFieldDescriptor "[I" = some (.array .int)), fun a => ⟨rfl, rfl⟩⟩
abbrev qX6_init : mMth := (yX6_init, cX6_init, 1, none)
theorem k_cm4 : kCm qX6_init := ⟨mTbl_at 125 (by decide +kernel) rfl, rfl, ⟨mTbl_at 92 (by decide +kernel) rfl, mTbl_at 126 (by decide +kernel) rfl, ⟨by decide +kernel, by decide +kernel⟩, by decide +kernel, by decide +kernel, by decide⟩, rfl, rfl⟩
theorem k_ff4_0 : kFF "BinProver$Reader" 4 0 := fun C T N h => by
  have h : (RX6, TX6, 8) = (C, T, N) := Option.some.inj h
  cases h
  exact ⟨rfl, rfl, _, (by decide +kernel : parseFieldDescriptor "LBinProver$Lot;" = some (.object "BinProver$Lot")), fun a => ⟨rfl, rfl⟩⟩
theorem k_ff4_1 : kFF "BinProver$Reader" 4 1 := fun C T N h => by
  have h : (RX6, TX6, 8) = (C, T, N) := Option.some.inj h
  cases h
  exact ⟨rfl, rfl, _, (by decide +kernel : parseFieldDescriptor "[J" = some (.array .long)), fun a => ⟨rfl, rfl⟩⟩
abbrev qX7_init : mMth := (yX7_init, cX7_init, 1, none)
theorem k_cm5 : kCm qX7_init := ⟨mTbl_at 217 (by decide +kernel) rfl, rfl, ⟨mTbl_at 94 (by decide +kernel) rfl, mTbl_at 218 (by decide +kernel) rfl, ⟨by decide +kernel, by decide +kernel⟩, by decide +kernel, by decide +kernel, by decide⟩, rfl, rfl⟩
theorem k_ff5_0 : kFF "BinProver$Stock" 5 0 := fun C T N h => by
  have h : (RX7, TX7, 7) = (C, T, N) := Option.some.inj h
  cases h
  exact ⟨rfl, rfl, _, (by decide +kernel : parseFieldDescriptor "[J" = some (.array .long)), fun a => ⟨rfl, rfl⟩⟩
theorem k_ff5_1 : kFF "BinProver$Stock" 5 1 := fun C T N h => by
  have h : (RX7, TX7, 7) = (C, T, N) := Option.some.inj h
  cases h
  exact ⟨rfl, rfl, _, (by decide +kernel : parseFieldDescriptor "[I" = some (.array .int)), fun a => ⟨rfl, rfl⟩⟩
theorem k_ff5_4 : kFF "BinProver$Stock" 5 4 := fun C T N h => by
  have h : (RX7, TX7, 7) = (C, T, N) := Option.some.inj h
  cases h
  exact ⟨rfl, rfl, _, (by decide +kernel : parseFieldDescriptor "[J" = some (.array .long)), fun a => ⟨rfl, rfl⟩⟩
theorem k_ff5_5 : kFF "BinProver$Stock" 5 5 := fun C T N h => by
  have h : (RX7, TX7, 7) = (C, T, N) := Option.some.inj h
  cases h
  exact ⟨rfl, rfl, _, (by decide +kernel : parseFieldDescriptor "[I" = some (.array .int)), fun a => ⟨rfl, rfl⟩⟩
theorem k_ff5_6 : kFF "BinProver$Stock" 5 6 := fun C T N h => by
  have h : (RX7, TX7, 7) = (C, T, N) := Option.some.inj h
  cases h
  exact ⟨rfl, rfl, _, (by decide +kernel : parseFieldDescriptor "[I" = some (.array .int)), fun a => ⟨rfl, rfl⟩⟩
abbrev qX8_init : mMth := (yX8_init, cX8_init, 1, none)
theorem k_cm6 : kCm qX8_init := ⟨mTbl_at 275 (by decide +kernel) rfl, rfl, ⟨mTbl_at 96 (by decide +kernel) rfl, mTbl_at 276 (by decide +kernel) rfl, ⟨by decide +kernel, by decide +kernel⟩, by decide +kernel, by decide +kernel, by decide⟩, rfl, rfl⟩
theorem k_ff6_0 : kFF "BinProver$Tree" 6 0 := fun C T N h => by
  have h : (RX8, TX8, 10) = (C, T, N) := Option.some.inj h
  cases h
  exact ⟨rfl, rfl, _, (by decide +kernel : parseFieldDescriptor "[I" = some (.array .int)), fun a => ⟨rfl, rfl⟩⟩
theorem k_ff6_7 : kFF "BinProver$Tree" 6 7 := fun C T N h => by
  have h : (RX8, TX8, 10) = (C, T, N) := Option.some.inj h
  cases h
  exact ⟨rfl, rfl, _, (by decide +kernel : parseFieldDescriptor "LBinProver$Packer;" = some (.object "BinProver$Packer")), fun a => ⟨rfl, rfl⟩⟩
theorem k_ff6_8 : kFF "BinProver$Tree" 6 8 := fun C T N h => by
  have h : (RX8, TX8, 10) = (C, T, N) := Option.some.inj h
  cases h
  exact ⟨rfl, rfl, _, (by decide +kernel : parseFieldDescriptor "[[I" = some (.array (.array .int))), fun a => ⟨rfl, rfl⟩⟩
theorem k_ff6_9 : kFF "BinProver$Tree" 6 9 := fun C T N h => by
  have h : (RX8, TX8, 10) = (C, T, N) := Option.some.inj h
  cases h
  exact ⟨rfl, rfl, _, (by decide +kernel : parseFieldDescriptor "[[I" = some (.array (.array .int))), fun a => ⟨rfl, rfl⟩⟩
abbrev qX9_init : mMth := (yX9_init, cX9_init, 1, none)
theorem k_cm7 : kCm qX9_init := ⟨mTbl_at 117 (by decide +kernel) rfl, rfl, ⟨mTbl_at 91 (by decide +kernel) rfl, mTbl_at 118 (by decide +kernel) rfl, ⟨by decide +kernel, by decide +kernel⟩, by decide +kernel, by decide +kernel, by decide⟩, rfl, rfl⟩
theorem k_ff7_0 : kFF "BinProver" 7 0 := fun C T N h => by
  have h : (RX9, TX9, 15) = (C, T, N) := Option.some.inj h
  cases h
  exact ⟨rfl, rfl, _, (by decide +kernel : parseFieldDescriptor "[B" = some (.array .byte)), fun a => ⟨rfl, rfl⟩⟩
theorem k_ff7_4 : kFF "BinProver" 7 4 := fun C T N h => by
  have h : (RX9, TX9, 15) = (C, T, N) := Option.some.inj h
  cases h
  exact ⟨rfl, rfl, _, (by decide +kernel : parseFieldDescriptor "LBinProver$Reader;" = some (.object "BinProver$Reader")), fun a => ⟨rfl, rfl⟩⟩
theorem k_ff7_5 : kFF "BinProver" 7 5 := fun C T N h => by
  have h : (RX9, TX9, 15) = (C, T, N) := Option.some.inj h
  cases h
  exact ⟨rfl, rfl, _, (by decide +kernel : parseFieldDescriptor "LBinProver$Lot;" = some (.object "BinProver$Lot")), fun a => ⟨rfl, rfl⟩⟩
theorem k_ff7_6 : kFF "BinProver" 7 6 := fun C T N h => by
  have h : (RX9, TX9, 15) = (C, T, N) := Option.some.inj h
  cases h
  exact ⟨rfl, rfl, _, (by decide +kernel : parseFieldDescriptor "LBinProver$Lot;" = some (.object "BinProver$Lot")), fun a => ⟨rfl, rfl⟩⟩
theorem k_ff7_7 : kFF "BinProver" 7 7 := fun C T N h => by
  have h : (RX9, TX9, 15) = (C, T, N) := Option.some.inj h
  cases h
  exact ⟨rfl, rfl, _, (by decide +kernel : parseFieldDescriptor "LBinProver$Stock;" = some (.object "BinProver$Stock")), fun a => ⟨rfl, rfl⟩⟩
theorem k_ff7_8 : kFF "BinProver" 7 8 := fun C T N h => by
  have h : (RX9, TX9, 15) = (C, T, N) := Option.some.inj h
  cases h
  exact ⟨rfl, rfl, _, (by decide +kernel : parseFieldDescriptor "LBinProver$Stock;" = some (.object "BinProver$Stock")), fun a => ⟨rfl, rfl⟩⟩
theorem k_ff7_9 : kFF "BinProver" 7 9 := fun C T N h => by
  have h : (RX9, TX9, 15) = (C, T, N) := Option.some.inj h
  cases h
  exact ⟨rfl, rfl, _, (by decide +kernel : parseFieldDescriptor "LBinProver$Packer;" = some (.object "BinProver$Packer")), fun a => ⟨rfl, rfl⟩⟩
theorem k_ff7_10 : kFF "BinProver" 7 10 := fun C T N h => by
  have h : (RX9, TX9, 15) = (C, T, N) := Option.some.inj h
  cases h
  exact ⟨rfl, rfl, _, (by decide +kernel : parseFieldDescriptor "LBinProver$Tree;" = some (.object "BinProver$Tree")), fun a => ⟨rfl, rfl⟩⟩
theorem k_ff7_11 : kFF "BinProver" 7 11 := fun C T N h => by
  have h : (RX9, TX9, 15) = (C, T, N) := Option.some.inj h
  cases h
  exact ⟨rfl, rfl, _, (by decide +kernel : parseFieldDescriptor "LBinProver$Net;" = some (.object "BinProver$Net")), fun a => ⟨rfl, rfl⟩⟩
theorem k_ff7_12 : kFF "BinProver" 7 12 := fun C T N h => by
  have h : (RX9, TX9, 15) = (C, T, N) := Option.some.inj h
  cases h
  exact ⟨rfl, rfl, _, (by decide +kernel : parseFieldDescriptor "LBinProver$Guess;" = some (.object "BinProver$Guess")), fun a => ⟨rfl, rfl⟩⟩
theorem k_ff7_13 : kFF "BinProver" 7 13 := fun C T N h => by
  have h : (RX9, TX9, 15) = (C, T, N) := Option.some.inj h
  cases h
  exact ⟨rfl, rfl, _, (by decide +kernel : parseFieldDescriptor "[I" = some (.array .int)), fun a => ⟨rfl, rfl⟩⟩
theorem k_ff7_14 : kFF "BinProver" 7 14 := fun C T N h => by
  have h : (RX9, TX9, 15) = (C, T, N) := Option.some.inj h
  cases h
  exact ⟨rfl, rfl, _, (by decide +kernel : parseFieldDescriptor "[I" = some (.array .int)), fun a => ⟨rfl, rfl⟩⟩
abbrev qX10_init : mMth := (yX10_init, cX10_init, 1, none)
theorem k_cm8 : kCm qX10_init := ⟨mTbl_at 1190 (by decide +kernel) rfl, rfl, ⟨mTbl_at 99 (by decide +kernel) rfl, mTbl_at 1191 (by decide +kernel) rfl, ⟨by decide +kernel, by decide +kernel⟩, by decide +kernel, by decide +kernel, by decide⟩, rfl, rfl⟩
theorem k_ff8_0 : kFF "BinProverModel" 8 0 := fun C T N h => by
  have h : (RX10, TX10, 58) = (C, T, N) := Option.some.inj h
  cases h
  exact ⟨rfl, rfl, _, (by decide +kernel : parseFieldDescriptor "[I" = some (.array .int)), fun a => ⟨rfl, rfl⟩⟩
theorem k_ff8_1 : kFF "BinProverModel" 8 1 := fun C T N h => by
  have h : (RX10, TX10, 58) = (C, T, N) := Option.some.inj h
  cases h
  exact ⟨rfl, rfl, _, (by decide +kernel : parseFieldDescriptor "[I" = some (.array .int)), fun a => ⟨rfl, rfl⟩⟩
theorem k_ff8_2 : kFF "BinProverModel" 8 2 := fun C T N h => by
  have h : (RX10, TX10, 58) = (C, T, N) := Option.some.inj h
  cases h
  exact ⟨rfl, rfl, _, (by decide +kernel : parseFieldDescriptor "[I" = some (.array .int)), fun a => ⟨rfl, rfl⟩⟩
theorem k_ff8_3 : kFF "BinProverModel" 8 3 := fun C T N h => by
  have h : (RX10, TX10, 58) = (C, T, N) := Option.some.inj h
  cases h
  exact ⟨rfl, rfl, _, (by decide +kernel : parseFieldDescriptor "[I" = some (.array .int)), fun a => ⟨rfl, rfl⟩⟩
theorem k_ff8_4 : kFF "BinProverModel" 8 4 := fun C T N h => by
  have h : (RX10, TX10, 58) = (C, T, N) := Option.some.inj h
  cases h
  exact ⟨rfl, rfl, _, (by decide +kernel : parseFieldDescriptor "[I" = some (.array .int)), fun a => ⟨rfl, rfl⟩⟩
theorem k_ff8_15 : kFF "BinProverModel" 8 15 := fun C T N h => by
  have h : (RX10, TX10, 58) = (C, T, N) := Option.some.inj h
  cases h
  exact ⟨rfl, rfl, _, (by decide +kernel : parseFieldDescriptor "[I" = some (.array .int)), fun a => ⟨rfl, rfl⟩⟩
theorem k_ff8_25 : kFF "BinProverModel" 8 25 := fun C T N h => by
  have h : (RX10, TX10, 58) = (C, T, N) := Option.some.inj h
  cases h
  exact ⟨rfl, rfl, _, (by decide +kernel : parseFieldDescriptor "[I" = some (.array .int)), fun a => ⟨rfl, rfl⟩⟩
theorem k_ff8_26 : kFF "BinProverModel" 8 26 := fun C T N h => by
  have h : (RX10, TX10, 58) = (C, T, N) := Option.some.inj h
  cases h
  exact ⟨rfl, rfl, _, (by decide +kernel : parseFieldDescriptor "[I" = some (.array .int)), fun a => ⟨rfl, rfl⟩⟩
theorem k_ff8_30 : kFF "BinProverModel" 8 30 := fun C T N h => by
  have h : (RX10, TX10, 58) = (C, T, N) := Option.some.inj h
  cases h
  exact ⟨rfl, rfl, _, (by decide +kernel : parseFieldDescriptor "[I" = some (.array .int)), fun a => ⟨rfl, rfl⟩⟩
theorem k_ff8_31 : kFF "BinProverModel" 8 31 := fun C T N h => by
  have h : (RX10, TX10, 58) = (C, T, N) := Option.some.inj h
  cases h
  exact ⟨rfl, rfl, _, (by decide +kernel : parseFieldDescriptor "[I" = some (.array .int)), fun a => ⟨rfl, rfl⟩⟩
theorem k_ff8_32 : kFF "BinProverModel" 8 32 := fun C T N h => by
  have h : (RX10, TX10, 58) = (C, T, N) := Option.some.inj h
  cases h
  exact ⟨rfl, rfl, _, (by decide +kernel : parseFieldDescriptor "[I" = some (.array .int)), fun a => ⟨rfl, rfl⟩⟩
theorem k_ff8_34 : kFF "BinProverModel" 8 34 := fun C T N h => by
  have h : (RX10, TX10, 58) = (C, T, N) := Option.some.inj h
  cases h
  exact ⟨rfl, rfl, _, (by decide +kernel : parseFieldDescriptor "[I" = some (.array .int)), fun a => ⟨rfl, rfl⟩⟩
theorem k_ff8_35 : kFF "BinProverModel" 8 35 := fun C T N h => by
  have h : (RX10, TX10, 58) = (C, T, N) := Option.some.inj h
  cases h
  exact ⟨rfl, rfl, _, (by decide +kernel : parseFieldDescriptor "[I" = some (.array .int)), fun a => ⟨rfl, rfl⟩⟩
theorem k_ff8_36 : kFF "BinProverModel" 8 36 := fun C T N h => by
  have h : (RX10, TX10, 58) = (C, T, N) := Option.some.inj h
  cases h
  exact ⟨rfl, rfl, _, (by decide +kernel : parseFieldDescriptor "[I" = some (.array .int)), fun a => ⟨rfl, rfl⟩⟩
theorem k_ff8_39 : kFF "BinProverModel" 8 39 := fun C T N h => by
  have h : (RX10, TX10, 58) = (C, T, N) := Option.some.inj h
  cases h
  exact ⟨rfl, rfl, _, (by decide +kernel : parseFieldDescriptor "[I" = some (.array .int)), fun a => ⟨rfl, rfl⟩⟩
theorem k_ff8_41 : kFF "BinProverModel" 8 41 := fun C T N h => by
  have h : (RX10, TX10, 58) = (C, T, N) := Option.some.inj h
  cases h
  exact ⟨rfl, rfl, _, (by decide +kernel : parseFieldDescriptor "[I" = some (.array .int)), fun a => ⟨rfl, rfl⟩⟩
theorem k_ff8_42 : kFF "BinProverModel" 8 42 := fun C T N h => by
  have h : (RX10, TX10, 58) = (C, T, N) := Option.some.inj h
  cases h
  exact ⟨rfl, rfl, _, (by decide +kernel : parseFieldDescriptor "[I" = some (.array .int)), fun a => ⟨rfl, rfl⟩⟩
theorem k_ff8_43 : kFF "BinProverModel" 8 43 := fun C T N h => by
  have h : (RX10, TX10, 58) = (C, T, N) := Option.some.inj h
  cases h
  exact ⟨rfl, rfl, _, (by decide +kernel : parseFieldDescriptor "[Z" = some (.array .boolean)), fun a => ⟨rfl, rfl⟩⟩
theorem k_ff8_50 : kFF "BinProverModel" 8 50 := fun C T N h => by
  have h : (RX10, TX10, 58) = (C, T, N) := Option.some.inj h
  cases h
  exact ⟨rfl, rfl, _, (by decide +kernel : parseFieldDescriptor "[I" = some (.array .int)), fun a => ⟨rfl, rfl⟩⟩
theorem k_ff8_51 : kFF "BinProverModel" 8 51 := fun C T N h => by
  have h : (RX10, TX10, 58) = (C, T, N) := Option.some.inj h
  cases h
  exact ⟨rfl, rfl, _, (by decide +kernel : parseFieldDescriptor "[I" = some (.array .int)), fun a => ⟨rfl, rfl⟩⟩
theorem k_ff8_52 : kFF "BinProverModel" 8 52 := fun C T N h => by
  have h : (RX10, TX10, 58) = (C, T, N) := Option.some.inj h
  cases h
  exact ⟨rfl, rfl, _, (by decide +kernel : parseFieldDescriptor "[I" = some (.array .int)), fun a => ⟨rfl, rfl⟩⟩
theorem k_ff8_54 : kFF "BinProverModel" 8 54 := fun C T N h => by
  have h : (RX10, TX10, 58) = (C, T, N) := Option.some.inj h
  cases h
  exact ⟨rfl, rfl, _, (by decide +kernel : parseFieldDescriptor "[I" = some (.array .int)), fun a => ⟨rfl, rfl⟩⟩
theorem k_ff8_55 : kFF "BinProverModel" 8 55 := fun C T N h => by
  have h : (RX10, TX10, 58) = (C, T, N) := Option.some.inj h
  cases h
  exact ⟨rfl, rfl, _, (by decide +kernel : parseFieldDescriptor "[I" = some (.array .int)), fun a => ⟨rfl, rfl⟩⟩
theorem k_ff8_56 : kFF "BinProverModel" 8 56 := fun C T N h => by
  have h : (RX10, TX10, 58) = (C, T, N) := Option.some.inj h
  cases h
  exact ⟨rfl, rfl, _, (by decide +kernel : parseFieldDescriptor "[I" = some (.array .int)), fun a => ⟨rfl, rfl⟩⟩
theorem k_nw_X9_24 : kNw "BinProver" 24 4 8 [.null, .null, .int (Int32.ofInt 0), .int (Int32.ofInt 0), .int (Int32.ofInt 0), .int (Int32.ofInt 0), .int (Int32.ofInt 0), .int (Int32.ofInt 0)] := ⟨RX6, TX6, tyX6, rfl, uw_4, tyX6_ok, mTbl_at 122 (by decide +kernel) rfl, mTbl_at 123 (by decide +kernel) rfl, mTbl_at 92 (by decide +kernel) rfl, by decide +kernel⟩
theorem k_nw_X6_9 : kNw "BinProver$Reader" 9 1 5 [.int (Int32.ofInt 0), .int (Int32.ofInt 0), .null, .null, .null] := ⟨RX2, TX2, tyX2, rfl, uw_1, tyX2_ok, mTbl_at 128 (by decide +kernel) rfl, mTbl_at 129 (by decide +kernel) rfl, mTbl_at 93 (by decide +kernel) rfl, by decide +kernel⟩
theorem k_nw_X9_31 : kNw "BinProver" 31 1 5 [.int (Int32.ofInt 0), .int (Int32.ofInt 0), .null, .null, .null] := ⟨RX2, TX2, tyX2, rfl, uw_1, tyX2_ok, mTbl_at 212 (by decide +kernel) rfl, mTbl_at 129 (by decide +kernel) rfl, mTbl_at 93 (by decide +kernel) rfl, by decide +kernel⟩
theorem k_nw_X9_41 : kNw "BinProver" 41 5 7 [.null, .null, .int (Int32.ofInt 0), .int (Int32.ofInt 0), .null, .null, .null] := ⟨RX7, TX7, tyX7, rfl, uw_5, tyX7_ok, mTbl_at 214 (by decide +kernel) rfl, mTbl_at 215 (by decide +kernel) rfl, mTbl_at 94 (by decide +kernel) rfl, by decide +kernel⟩
theorem k_nw_X9_51 : kNw "BinProver" 51 3 5 [.null, .null, .int (Int32.ofInt 0), .int (Int32.ofInt 0), .null] := ⟨RX4, TX4, tyX4, rfl, uw_3, tyX4_ok, mTbl_at 247 (by decide +kernel) rfl, mTbl_at 248 (by decide +kernel) rfl, mTbl_at 95 (by decide +kernel) rfl, by decide +kernel⟩
theorem k_nw_X9_58 : kNw "BinProver" 58 6 10 [.null, .int (Int32.ofInt 0), .int (Int32.ofInt 0), .int (Int32.ofInt 0), .int (Int32.ofInt 0), .int (Int32.ofInt 0), .int (Int32.ofInt 0), .null, .null, .null] := ⟨RX8, TX8, tyX8, rfl, uw_6, tyX8_ok, mTbl_at 272 (by decide +kernel) rfl, mTbl_at 273 (by decide +kernel) rfl, mTbl_at 96 (by decide +kernel) rfl, by decide +kernel⟩
theorem k_nw_X8_35 : kNw "BinProver$Tree" 35 3 5 [.null, .null, .int (Int32.ofInt 0), .int (Int32.ofInt 0), .null] := ⟨RX4, TX4, tyX4, rfl, uw_3, tyX4_ok, mTbl_at 278 (by decide +kernel) rfl, mTbl_at 248 (by decide +kernel) rfl, mTbl_at 95 (by decide +kernel) rfl, by decide +kernel⟩
theorem k_nw_X9_65 : kNw "BinProver" 65 2 4 [.null, .null, .null, .int (Int32.ofInt 0)] := ⟨RX3, TX3, tyX3, rfl, uw_2, tyX3_ok, mTbl_at 320 (by decide +kernel) rfl, mTbl_at 321 (by decide +kernel) rfl, mTbl_at 97 (by decide +kernel) rfl, by decide +kernel⟩
theorem k_nw_X9_72 : kNw "BinProver" 72 0 3 [.int (Int32.ofInt 0), .int (Int32.ofInt 0), .null] := ⟨RX1, TX1, tyX1, rfl, uw_0, tyX1_ok, mTbl_at 340 (by decide +kernel) rfl, mTbl_at 341 (by decide +kernel) rfl, mTbl_at 98 (by decide +kernel) rfl, by decide +kernel⟩
-- the law's own
theorem k_nw_L_8 : kNw "BinProverLaw" 8 7 15 [.null, .int (Int32.ofInt 0), .int (Int32.ofInt 0), .int (Int32.ofInt 0), .null, .null, .null, .null, .null, .null, .null, .null, .null, .null, .null] := ⟨RX9, TX9, tyX9, rfl, uw_7, tyX9_ok, mTbl_at 114 (by decide +kernel) rfl, mTbl_at 115 (by decide +kernel) rfl, mTbl_at 91 (by decide +kernel) rfl, by decide +kernel⟩
theorem k_nw_L_86 : kNw "BinProverLaw" 86 8 58 [.null, .null, .null, .null, .null, .int (Int32.ofInt 0), .int (Int32.ofInt 0), .int (Int32.ofInt 0), .int (Int32.ofInt 0), .int (Int32.ofInt 0), .int (Int32.ofInt 0), .int (Int32.ofInt 0), .int (Int32.ofInt 0), .int (Int32.ofInt 0), .int (Int32.ofInt 0), .null, .int (Int32.ofInt 0), .int (Int32.ofInt 0), .int (Int32.ofInt 0), .int (Int32.ofInt 0), .int (Int32.ofInt 0), .int (Int32.ofInt 0), .int (Int32.ofInt 0), .int (Int32.ofInt 0), .int (Int32.ofInt 0), .null, .null, .int (Int32.ofInt 0), .int (Int32.ofInt 0), .int (Int32.ofInt 0), .null, .null, .null, .int (Int32.ofInt 0), .null, .null, .null, .int (Int32.ofInt 0), .int (Int32.ofInt 0), .null, .int (Int32.ofInt 0), .null, .null, .null, .int (Int32.ofInt 0), .int (Int32.ofInt 0), .int (Int32.ofInt 0), .int (Int32.ofInt 0), .int (Int32.ofInt 0), .int (Int32.ofInt 0), .null, .null, .null, .int (Int32.ofInt 0), .null, .null, .null, .int (Int32.ofInt 0)] := ⟨RX10, TX10, tyX10, rfl, uw_8, tyX10_ok, mTbl_at 1187 (by decide +kernel) rfl, mTbl_at 1188 (by decide +kernel) rfl, mTbl_at 99 (by decide +kernel) rfl, by decide +kernel⟩
