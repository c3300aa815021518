/-! years: what is drawn -/
theorem and32767 (z : Int) : (Int32.ofInt z &&& Int32.ofInt 32767).toInt = z % 32768 := by
  have h1 : (Int32.ofInt z &&& Int32.ofInt 32767).toBitVec = BitVec.ofInt 32 z &&& 32767#32 := rfl
  have h2 : (BitVec.ofInt 32 z &&& 32767#32).toNat = (z % 32768).toNat := by
    rw [BitVec.toNat_and, BitVec.toNat_ofInt]
    show _ &&& 32767 = _
    rw [show (32767 : Nat) = 2 ^ 15 - 1 from rfl, Nat.and_two_pow_sub_one_eq_mod]
    omega
  show (Int32.ofInt z &&& Int32.ofInt 32767).toBitVec.toInt = _
  rw [h1, BitVec.toInt_eq_toNat_of_lt (by rw [h2]; omega), h2]
  omega
def nxS (x : Int) : Int := (Int32.ofInt ((Int32.ofInt (x * 1103515245)).toInt + 12345)).toInt
theorem nxS_rg {x : Int} : r32 (nxS x) := i_rg _
theorem dwM_v {x : Int} (h : r32 x) : (Int32.ofInt ((Int32.ofInt x >>> (Int32.ofInt 16 &&& 31)).toInt) &&& Int32.ofInt 32767).toInt = x / 65536 % 32768 := by
  rw [and32767]
  have : (Int32.ofInt x >>> (Int32.ofInt 16 &&& 31)).toInt = x / 65536 := by
    show (Int32.ofInt x >>> (Int32.ofInt 16 &&& 31)).toBitVec.toInt = _
    rw [Int32.toBitVec_shiftRight]
    have e : ((Int32.ofInt 16 &&& 31).toBitVec.smod 32).toNat = 16 := by decide
    rw [BitVec.sshiftRight', e, BitVec.toInt_sshiftRight]
    have e2 : (Int32.ofInt x).toBitVec.toInt = x := i_ti h
    rw [e2, Int.shiftRight_eq_div_pow]
    rfl
  rw [this]
theorem dwX_v {x : Int} (h : r32 x) : (Int32.ofInt (((Int32.ofInt x).toUInt32 >>> ((Int32.ofInt 16).toUInt32 &&& Int32.toUInt32 31)).toInt32.toInt) &&& Int32.ofInt 32767).toInt = x / 65536 % 32768 := by
  rw [and32767]
  have e1 : ((Int32.ofInt x).toUInt32 >>> ((Int32.ofInt 16).toUInt32 &&& Int32.toUInt32 31)).toNat = (x % 4294967296).toNat / 65536 := by
    rw [UInt32.toNat_shiftRight]
    have e : ((Int32.ofInt 16).toUInt32 &&& Int32.toUInt32 31).toNat % 32 = 16 := by decide
    have e2 : (Int32.ofInt x).toUInt32.toNat = (x % 4294967296).toNat := by
      show (BitVec.ofInt 32 x).toNat = _
      rw [BitVec.toNat_ofInt]
      rfl
    rw [e, e2, Nat.shiftRight_eq_div_pow]
  have e3 : ((Int32.ofInt x).toUInt32 >>> ((Int32.ofInt 16).toUInt32 &&& Int32.toUInt32 31)).toInt32.toInt = (((x % 4294967296).toNat / 65536 : Nat) : Int) := by
    show ((Int32.ofInt x).toUInt32 >>> ((Int32.ofInt 16).toUInt32 &&& Int32.toUInt32 31)).toBitVec.toInt = _
    have e4 : ((Int32.ofInt x).toUInt32 >>> ((Int32.ofInt 16).toUInt32 &&& Int32.toUInt32 31)).toBitVec.toNat = (x % 4294967296).toNat / 65536 := e1
    rw [BitVec.toInt_eq_toNat_of_lt (by rw [e4]; omega), e4]
  rw [e3]
  omega
def yrZ (K : Nat) (sz : Int → Int) (x : Int) : Int := sz (x / 65536 % 32768 % K)
abbrev yT : Type := Int × Nat × (Int → Int) × Int
def yrS (c : Int) (K : Nat) (sz : Int → Int) (way old : Int) (P : yT) : yT := (nxS P.1, ciN c way (yrZ K sz (nxS P.1)) P.2.1 P.2.2.1, ciG c way (yrZ K sz (nxS P.1)) P.2.1 P.2.2.1, P.2.2.2 + if ciF c way (yrZ K sz (nxS P.1)) P.2.1 P.2.2.1 < old then 1 else 0)
def yrP (c : Int) (K : Nat) (sz : Int → Int) (way old x0 : Int) (n0 : Nat) (f0 : Int → Int) : Nat → yT
  | 0 => (x0, n0, f0, 0)
  | j + 1 => yrS c K sz way old (yrP c K sz way old x0 n0 f0 j)
def yOK (c : Int) (n j : Nat) (P : yT) : Prop := P.2.1 ≤ n + j ∧ (∀ b : Nat, b < P.2.1 → 0 ≤ P.2.2.1 b ∧ P.2.2.1 b ≤ c) ∧ 0 ≤ P.2.2.2 ∧ P.2.2.2 ≤ j
theorem ci_ok {c way z : Int} {n : Nat} {f : Int → Int} (hz : 0 ≤ z ∧ z ≤ c) (h : ∀ b : Nat, b < n → 0 ≤ f b ∧ f b ≤ c) : ciN c way z n f ≤ n + 1 ∧ ∀ b : Nat, b < ciN c way z n f → 0 ≤ ciG c way z n f b ∧ ciG c way z n f b ≤ c := by
  have hb := chF_bd (f := f) (most := c - z) (way := way) (n := n)
  have hf := chF_fit (f := f) (most := c - z) (way := way) (n := n)
  unfold ciN ciG
  by_cases e : chF f (c - z) way n = -1
  · rw [if_pos e, if_pos e]
    refine ⟨Nat.le_refl _, fun b hb => ?_⟩
    by_cases e2 : (b : Int) = n
    · rw [e2, fset_s]; exact hz
    · rw [fset_n e2]; exact h b (by omega)
  · rw [if_neg e, if_neg e]
    refine ⟨by omega, fun b hb => ?_⟩
    obtain ⟨q, hq⟩ : ∃ q : Nat, chF f (c - z) way n = q := ⟨(chF f (c - z) way n).toNat, by omega⟩
    rw [hq] at hf ⊢
    by_cases e2 : (b : Int) = q
    · rw [e2, fset_s]
      have := hf (by omega)
      have := h q (by omega)
      omega
    · rw [fset_n e2]; exact h b hb
theorem yrS_ok {c : Int} {K : Nat} {sz : Int → Int} {way old : Int} {n j : Nat} {P : yT} (hK : 1 ≤ K) (hz : ∀ s : Nat, s < K → 0 ≤ sz s ∧ sz s ≤ c) (h : yOK c n j P) : yOK c n (j + 1) (yrS c K sz way old P) := by
  have hzz : 0 ≤ yrZ K sz (nxS P.1) ∧ yrZ K sz (nxS P.1) ≤ c := by
    unfold yrZ
    have h0 : 0 ≤ nxS P.1 / 65536 % 32768 % (K : Int) := Int.emod_nonneg _ (by omega)
    have h1 : nxS P.1 / 65536 % 32768 % (K : Int) < K := Int.emod_lt_of_pos _ (by omega)
    obtain ⟨q, hq⟩ : ∃ q : Nat, nxS P.1 / 65536 % 32768 % (K : Int) = q := ⟨(nxS P.1 / 65536 % 32768 % (K : Int)).toNat, by omega⟩
    rw [hq]; exact hz q (by omega)
  have o := ci_ok (way := way) hzz h.2.1
  have h1 := h.1
  have h2 := h.2.2
  refine ⟨?_, o.2, ?_⟩
  · show ciN c way (yrZ K sz (nxS P.1)) P.2.1 P.2.2.1 ≤ n + (j + 1)
    have := o.1
    omega
  · show 0 ≤ P.2.2.2 + (if ciF c way (yrZ K sz (nxS P.1)) P.2.1 P.2.2.1 < old then 1 else 0) ∧ P.2.2.2 + (if ciF c way (yrZ K sz (nxS P.1)) P.2.1 P.2.2.1 < old then 1 else 0) ≤ ((j + 1 : Nat) : Int)
    split <;> omega
theorem yrP_ok {c : Int} {K : Nat} {sz : Int → Int} {way old x0 : Int} {n : Nat} {f0 : Int → Int} (hK : 1 ≤ K) (hz : ∀ s : Nat, s < K → 0 ≤ sz s ∧ sz s ≤ c) (hf : ∀ b : Nat, b < n → 0 ≤ f0 b ∧ f0 b ≤ c) : ∀ j : Nat, yOK c n j (yrP c K sz way old x0 n f0 j)
  | 0 => ⟨Nat.le_refl _, hf, by show (0 : Int) ≤ 0 ∧ (0 : Int) ≤ ((0 : Nat) : Int); omega⟩
  | j + 1 => yrS_ok hK hz (yrP_ok hK hz hf j)
def yrE (c : Int) (K : Nat) (M : mM) (x1 x2 x3 : Int) : yT := if K = 0 then (x1, (M 113 6).toNat, wtB K M, 0) else yrP c K (M 9) x3 (M 113 6) x1 (M 113 6).toNat (wtB K M) x2.toNat
def an_years (c : Int) (K : Nat) (M : mM) (x1 x2 x3 x4 : Int) : An := if 0 ≤ x4 ∧ x4 ≤ 2 then (if (0 ≤ x2 ∧ x2 ≤ 60) ∧ 0 ≤ x3 ∧ x3 ≤ 3 then .inl (if x4 = 0 then ((yrE c K M x1 x2 x3).2.1 : Int) else if x4 = 1 then sg (fun b => c - (yrE c K M x1 x2 x3).2.2.1 b) (yrE c K M x1 x2 x3).2.1 else (yrE c K M x1 x2 x3).2.2.2) else .inr 2) else .inr 1
theorem St.wb {c : Int} {K : Nat} {N : Int} {M : mM} (h : St c K N M) {n : Nat} (hn : M 113 6 = n) : ∀ b : Nat, b < n → 0 ≤ wtB K M b ∧ wtB K M b ≤ c := fun b hb => (h.bin (b := b) (by have := h.b13; omega)).2.2.2
theorem xq_years {d : Nat} {c : Int} {K : Nat} {N : Int} {M : mM} {Q : mRes → mM → Prop} {x1 x2 x3 x4 : Int} (hS : St c K N M) (hQ : ∀ M', kpX M M' → Q (xr (an_years c K M x1 x2 x3 x4)) M') : V (d + 60) 3 qX9_years 0 [mR 17 15 0, mI x1, mI x2, mI x3, mI x4, mE 0, mE 0, mE 0, mE 0, mE 0, mE 0, mE 0] [] M Q := by
  unfold an_years at hQ
  have hL := hS.1
  have hK6 := hL.2.1
  have h13 := hS.b13
  have hc := hL.1
  have n1 : ¬ (0 ≤ x4 ∧ x4 ≤ 2) → Q (.inr 1) M := fun h => by have := hQ M kpX.rf; rw [if_neg h] at this; exact this
  have n2 : (0 ≤ x4 ∧ x4 ≤ 2) → ¬ ((0 ≤ x2 ∧ x2 ≤ 60) ∧ 0 ≤ x3 ∧ x3 ≤ 3) → Q (.inr 2) M := fun h h2 => by have := hQ M kpX.rf; rw [if_pos h, if_neg h2] at this; exact this
  refine B_X9_years_0 ⟨fun z => ⟨by omega, by omega, n1 (by omega)⟩, fun z => ⟨fun y => ⟨fun a => ⟨by omega, by omega, n2 (by omega) (by omega)⟩, fun a => ⟨fun b => ⟨by omega, by omega, n2 (by omega) (by omega)⟩, fun b => ⟨fun e => ⟨by omega, by omega, n2 (by omega) (by omega)⟩, fun e => ⟨fun f => ?_, fun f => ⟨by omega, by omega, n2 (by omega) (by omega)⟩⟩⟩⟩⟩, fun y => ⟨by omega, by omega, n1 (by omega)⟩⟩⟩
  rw [if_pos ⟨by omega, y⟩, if_pos ⟨by omega, by omega⟩] at hQ
  obtain ⟨n, hn⟩ : ∃ n : Nat, M 113 6 = n := ⟨(M 113 6).toNat, by omega⟩
  obtain ⟨m, hm⟩ : ∃ m : Nat, x2 = m := ⟨x2.toNat, by omega⟩
  subst hm
  have hwb := hS.wb hn
  refine c_X9_copyFilled hS (fun M1 q1 q2 => B_X9_years_56 ?_)
  rw [hn]
  have k1 : kpX M M1 := fun t ht => q1 t (by simp; omega)
  have eE : (1 ≤ K → yrE c K M x1 m x3 = yrP c K (M 9) x3 n x1 n (wtB K M) m) ∧ (K = 0 → yrE c K M x1 m x3 = (x1, n, wtB K M, 0)) := by
    unfold yrE
    rw [hn, show ((n : Int)).toNat = n by omega, show ((m : Int)).toNat = m by omega]
    exact ⟨fun h => if_neg (by omega), fun h => if_pos h⟩
  have fin : ∀ (P : yT) (M' : mM) (x9 : Int) (u10 u11 : mV), P = yrE c K M x1 m x3 → P.2.1 ≤ 72 → (∀ b : Nat, b < P.2.1 → 0 ≤ P.2.2.1 b ∧ P.2.2.1 b ≤ c) → kpX M M' → (∀ b : Nat, b < P.2.1 → M' 111 b = P.2.2.1 b) → V (d + 60) 3 qX9_years 219 [mR 17 15 0, mI x1, mI m, mI x3, mI x4, mI n, mI P.2.1, mI P.2.2.2, mI P.1, mI x9, u10, u11] [] M' Q := by
    intro P M' x9 u10 u11 hP hP72 hPf k' w'
    have h := hQ M' k'
    rw [← hP] at h
    refine B_X9_years_219 ⟨fun z0 => ⟨fun z1 => ?_, fun z1 => c_X9_freeAbove (c := c) (f := P.2.2.1) (by rw [k' 8 (by omega)]; exact hL.2.2.1) hc hP72 (fun b hb => ⟨w' b hb, hPf b hb⟩) (B_X9_years_239 ?_)⟩, fun z0 => ?_⟩
    · rw [if_neg z0, if_neg z1] at h; exact h
    · rw [if_neg z0, if_pos z1] at h; exact h
    · rw [if_pos z0] at h; exact h
  by_cases hK0 : K = 0
  · have e8 : M1 8 1 = 0 := by rw [k1 8 (by omega), hL.2.2.2.2.1, hK0]; rfl
    have e := fin (x1, n, wtB K M, 0) M1 0 (mE 0) (mE 0) (eE.2 hK0).symm (by show n ≤ 72; omega) hwb k1 (fun b hb => q2 b (by rw [hn]; have : b < n := hb; omega))
    exact B_X9_years_71W ⟨fun _ => e, fun _ => ⟨fun _ => e, fun z => by omega⟩⟩
  · have hz : ∀ s : Nat, s < K → 0 ≤ M 9 s ∧ M 9 s ≤ c := fun s hs => by have := hS.sz hs; omega
    have ok := fun j => yrP_ok (c := c) (K := K) (sz := M 9) (way := x3) (old := n) (x0 := x1) (n := n) (f0 := wtB K M) (by omega) hz hwb j
    have loop : ∀ (r j : Nat) (M' : mM) (u10 u11 : mV), j + r = m → kpX M M' → (∀ b : Nat, b < (yrP c K (M 9) x3 n x1 n (wtB K M) j).2.1 → M' 111 b = (yrP c K (M 9) x3 n x1 n (wtB K M) j).2.2.1 b) → V (d + 60) 3 qX9_years 71 [mR 17 15 0, mI x1, mI m, mI x3, mI x4, mI n, mI (yrP c K (M 9) x3 n x1 n (wtB K M) j).2.1, mI (yrP c K (M 9) x3 n x1 n (wtB K M) j).2.2.2, mI (yrP c K (M 9) x3 n x1 n (wtB K M) j).1, mI j, u10, u11] [] M' Q := by
      intro r
      induction r with
      | zero =>
        intro j M' u10 u11 hj k' w'
        have e : j = m := by omega
        subst e
        have o := ok j
        exact B_X9_years_71W ⟨fun _ => fin _ M' j u10 u11 (eE.1 (by omega)).symm (by have := o.1; omega) o.2.1 k' w', fun z => by omega⟩
      | succ r ih =>
        intro j M' u10 u11 hj k' w'
        have o := ok j
        have nx := fun M'' u10 u11 => ih (j + 1) M'' u10 u11 (by omega)
        have eS : yrP c K (M 9) x3 n x1 n (wtB K M) (j + 1) = yrS c K (M 9) x3 n (yrP c K (M 9) x3 n x1 n (wtB K M) j) := rfl
        rw [eS] at nx
        generalize yrP c K (M 9) x3 n x1 n (wtB K M) j = P at *
        have Bk := B_X9_years_71W (d := d + 59) (k := 3) (M := M') (Q := Q) (x1 := x1) (x2 := m) (x3 := x3) (x4 := x4) (x5 := n) (x6 := P.2.1) (x7 := P.2.2.2) (x8 := P.1) (x9 := j) (u10 := u10) (u11 := u11)
        have en : (Int32.ofInt ((Int32.ofInt (P.1 * 1103515245)).toInt + 12345)).toInt = nxS P.1 := rfl
        rw [en, dwX_v nxS_rg, k' 8 (by omega), k' 9 (by omega), hL.2.2.2.2.1, hL.2.2.1] at Bk
        have hd0 : 0 ≤ nxS P.1 / 65536 % 32768 % (K : Int) := Int.emod_nonneg _ (by omega)
        have hd1 : nxS P.1 / 65536 % 32768 % (K : Int) < K := Int.emod_lt_of_pos _ (by omega)
        have hzz : 0 ≤ yrZ K (M 9) (nxS P.1) ∧ yrZ K (M 9) (nxS P.1) ≤ c := by
          unfold yrZ
          obtain ⟨q, hq⟩ : ∃ q : Nat, nxS P.1 / 65536 % 32768 % (K : Int) = q := ⟨(nxS P.1 / 65536 % 32768 % (K : Int)).toNat, by omega⟩
          rw [hq]; exact hz q (by omega)
        have eZ : M 9 (nxS P.1 / 65536 % 32768 % (K : Int)) = yrZ K (M 9) (nxS P.1) := rfl
        rw [eZ] at Bk
        unfold yrS at nx
        generalize yrZ K (M 9) (nxS P.1) = z at *
        have hP1 := o.1
        refine Bk ⟨fun y => by omega, fun _ => ⟨fun y => by omega, fun _ => ⟨by omega, by omega, by omega, ?_⟩⟩⟩
        refine c_X4_choose (l1 := 72) (by omega) (by omega) (by omega) (fun v hv => ?_)
        rw [chF_congr (g := P.2.2.1) (fun b hb => w' b hb)] at hv
        have hbd := chF_bd (f := P.2.2.1) (most := c - z) (way := x3) (n := P.2.1)
        unfold ciN ciG ciF at nx
        rw [← hv] at nx hbd
        -- the thing comes into bin q, of n' bins
        have last : ∀ (M2 : mM) (q n' : Nat) (g : Int → Int), q < n' → n' ≤ 72 → kpX M M2 → (∀ b : Nat, b < n' → b ≠ q → M2 111 b = g b) → M2 111 q + z = g q → (0 ≤ g q ∧ g q ≤ c) → (∀ M'' u10 u11, kpX M M'' → (∀ b : Nat, b < n' → M'' 111 b = g b) → V (d + 60) 3 qX9_years 71 [mR 17 15 0, mI x1, mI m, mI x3, mI x4, mI n, mI n', mI (P.2.2.2 + if (q : Int) < n then 1 else 0), mI (nxS P.1), mI ((j + 1 : Nat) : Int), u10, u11] [] M'' Q) → V (d + 60) 3 qX9_years 179 [mR 17 15 0, mI x1, mI m, mI x3, mI x4, mI n, mI n', mI P.2.2.2, mI (nxS P.1), mI j, mI z, mI q] [] M2 Q := by
          intro M2 q n' g hq hn' k2 w2 w3 hg nx2
          have kx : kpX M (mUp M2 111 q (M2 111 q + z)) := k2.tr (fun t ht => up_row (by omega))
          have wx : ∀ b : Nat, b < n' → mUp M2 111 q (M2 111 q + z) 111 b = g b := fun b hb => by
            by_cases e : b = q
            · subst e; rw [up_s]; exact w3
            · rw [up_fld (by omega)]; exact w2 b hb e
          have nx3 := fun u10 u11 => nx2 _ u10 u11 kx wx
          have o3 := o.2.2
          refine B_X9_years_179 ⟨fun y => by omega, fun _ => ⟨by omega, by omega, by omega, fun y => ⟨by omega, by omega, ?_⟩, fun y => ⟨by omega, by omega, ?_⟩⟩⟩
          · rw [if_neg (by omega)] at nx3; exact nx3 _ _
          · rw [if_pos (by omega)] at nx3; exact nx3 _ _
        refine B_X9_years_146 ⟨fun y => ?_, fun y => ⟨fun a => by omega, fun a => ⟨by omega, by omega, ?_⟩⟩⟩
        · rw [if_neg y, if_neg y, if_neg y] at nx
          obtain ⟨q, hq⟩ : ∃ q : Nat, v = q := ⟨v.toNat, by omega⟩
          subst hq
          have hfit := chF_fit (f := P.2.2.1) (most := c - z) (way := x3) (n := P.2.1) (by omega)
          rw [← hv] at hfit
          have hq0 := o.2.1 q (by omega)
          refine last M' q P.2.1 (fset P.2.2.1 q (P.2.2.1 q + z)) (by omega) (by omega) k' (fun b hb e => by rw [fset_n (by omega)]; exact w' b hb) (by rw [fset_s, w' q (by omega)]) (by rw [fset_s]; omega) (fun M'' u10 u11 ka wa => nx M'' u10 u11 ka wa)
        · rw [if_pos y, if_pos y, if_pos y] at nx
          refine last (mUp M' 111 P.2.1 0) P.2.1 (P.2.1 + 1) (fset P.2.2.1 P.2.1 z) (by omega) (by omega) (k'.tr (fun t ht => up_row (by omega))) (fun b hb e => by rw [up_fld (by omega), fset_n (by omega)]; exact w' b (by omega)) (by rw [up_s, fset_s]; omega) (by rw [fset_s]; exact hzz) (fun M'' u10 u11 ka wa => nx M'' u10 u11 ka wa)
    exact loop m 0 M1 _ _ (by omega) k1 (fun b hb => q2 b (by rw [hn]; have : b < n := hb; omega))
