/-! the bounds of goods: pure, and as the class and the model have them -/
def LotOK (c : Int) (K : Nat) (sz mn : Int → Int) : Prop := 1 ≤ c ∧ c ≤ 99 ∧ K ≤ 6 ∧ ∀ j : Nat, j < K → 1 ≤ sz j ∧ sz j ≤ 99 ∧ 0 ≤ mn j ∧ mn j ≤ 24
def wtF (K : Nat) (sz mn : Int → Int) : Int := sg (fun j => sz j * mn j) K
def areaF (c : Int) (K : Nat) (sz mn : Int → Int) : Int := rUp (wtF K sz mn) c
def sB (c a : Int) (sz mn : Int → Int) (j : Int) : Int := if sz j ≤ c - a then (if 2 * sz j ≤ c then 0 else mn j) else mn j
def sO (c a : Int) (sz mn : Int → Int) (j : Int) : Int := if sz j ≤ c - a then (if 2 * sz j ≤ c then (if sz j < a then 0 else mn j * sz j) else -(mn j * (c - sz j))) else 0
def splitF (c : Int) (K : Nat) (sz mn : Int → Int) (a : Int) : Int := sg (sB c a sz mn) K + rUp (sg (sO c a sz mn) K) c
def stF (c k : Int) (sz mn : Int → Int) (j : Int) : Int := mn j * (if (k + 1) * sz j / c * c = (k + 1) * sz j then k * sz j else c * ((k + 1) * sz j / c))
def stepF (c : Int) (K : Nat) (sz mn : Int → Int) (k : Int) : Int := rUp (sg (stF c k sz mn) K) (k * c)
theorem LotOK.w {c : Int} {K : Nat} {sz mn : Int → Int} (h : LotOK c K sz mn) {j : Nat} (hj : j < K) : 0 ≤ sz j * mn j ∧ sz j * mn j ≤ 2376 := by
  have h1 := h.2.2.2 j hj
  have := mulp (x := sz j) (y := mn j) (a := 99) (b := 24) (by omega) (by omega)
  omega
theorem wtF_bd {c : Int} {K : Nat} {sz mn : Int → Int} (h : LotOK c K sz mn) : 0 ≤ wtF K sz mn ∧ wtF K sz mn ≤ 14256 := by
  have h1 := sg_bd (f := fun j => sz j * mn j) (c := 2376) (n := K) (fun j hj => h.w hj)
  have h2 := h.2.2.1
  unfold wtF
  omega
theorem c_X0_areaOf {d k : Nat} {M : mM} {Q : mRes → mM → Prop} {a2 c : Int} {K : Nat} (hc : M 12 0 = c) (hK : M 12 1 = K) (h : LotOK c K (M 13) (M a2)) (hQ : ∀ r, r = areaF c K (M 13) (M a2) → Q (.inl (some (mI r))) M) : V (d + 1) k qX0_areaOf 0 [mR 11 5 12, mR 0 6 a2] [] M Q := by
  have hw := wtF_bd h
  refine B_X0_areaOf_0 (c_X2_weightOf (K := K) (by omega) hK h.2.2.1 (fun j hj => by have := h.w hj; exact ⟨this.1, Int.le_trans this.2 (by decide)⟩) (fun r hr => ?_))
  have hr : r = wtF K (M 13) (M a2) := hr
  refine B_X0_areaOf_5 (c_X0_roundUp (by omega) (fun r2 hr2 => ?_))
  exact B_X0_areaOf_12 (hQ r2 (by rw [hr2, hr, hc]; rfl))
theorem sB_bd {c a : Int} {K : Nat} {sz mn : Int → Int} (h : LotOK c K sz mn) {j : Nat} (hj : j < K) : 0 ≤ sB c a sz mn j ∧ sB c a sz mn j ≤ 24 := by
  have h1 := h.2.2.2 j hj
  unfold sB
  split
  · split <;> omega
  · omega
theorem sg_ab {f : Int → Int} {c : Int} (hc : 0 ≤ c) : ∀ {n : Nat}, (∀ j : Nat, j < n → -c ≤ f j ∧ f j ≤ c) → -(c * n) ≤ sg f n ∧ sg f n ≤ c * n
  | 0, _ => by simp [sg]
  | n + 1, h => by
    have h1 := sg_ab hc (n := n) (fun j hj => h j (by omega))
    have h2 := h n (by omega)
    have h3 : c * ((n + 1 : Nat) : Int) = c * n + c := by rw [Int.natCast_add, Int.mul_add]; simp
    rw [h3]
    simp only [sg]
    omega
theorem sO_bd {c a : Int} {K : Nat} {sz mn : Int → Int} (h : LotOK c K sz mn) {j : Nat} (hj : j < K) : -2376 ≤ sO c a sz mn j ∧ sO c a sz mn j ≤ 2376 := by
  have h1 := h.2.2.2 j hj
  have h2 := mulb (x := mn j) (y := c - sz j) (a := 24) (b := 99) (by omega) (by have := h.1; have := h.2.1; omega)
  have h3 := mulb (x := mn j) (y := sz j) (a := 24) (b := 99) (by omega) (by omega)
  unfold sO
  split
  · split
    · split <;> omega
    · omega
  · omega
theorem splitF_bd {c a : Int} {K : Nat} {sz mn : Int → Int} (h : LotOK c K sz mn) : 0 ≤ splitF c K sz mn a ∧ splitF c K sz mn a ≤ 14400 := by
  have h1 := sg_bd (f := sB c a sz mn) (c := 24) (n := K) (fun j hj => sB_bd h hj)
  have h2 := sg_ab (f := sO c a sz mn) (c := 2376) (by decide) (n := K) (fun j hj => sO_bd h hj)
  have h3 := h.2.2.1
  unfold splitF
  by_cases h4 : 0 ≤ sg (sO c a sz mn) K
  · have h5 := rUp_bd (n := sg (sO c a sz mn) K) (b := c) h4
    omega
  · have h5 : rUp (sg (sO c a sz mn) K) c = 0 := by unfold rUp; rw [if_pos (by omega)]
    omega
set_option maxHeartbeats 1000000 in
theorem c_X0_splitOf {d k : Nat} {M : mM} {Q : mRes → mM → Prop} {a2 c a : Int} {K : Nat} (hc : M 12 0 = c) (hK : M 12 1 = K) (h : LotOK c K (M 13) (M a2)) (ha : 0 ≤ a ∧ a ≤ 99) (hQ : ∀ r, r = splitF c K (M 13) (M a2) a → Q (.inl (some (mI r))) M) : V (d + 1) k qX0_splitOf 0 [mR 11 5 12, mR 0 6 a2, mI a, mE 0, mE 0, mE 0, mE 0] [] M Q := by
  have h6 := h.2.2.1
  have hc1 := h.1
  have hc2 := h.2.1
  subst hc
  have loop : ∀ (r j : Nat) (b o : Int) (u : mV), j + r = K → b = sg (sB (M 12 0) a (M 13) (M a2)) j → o = sg (sO (M 12 0) a (M 13) (M a2)) j → V (d + 1) k qX0_splitOf 8 [mR 11 5 12, mR 0 6 a2, mI a, mI b, mI o, mI j, u] [] M Q := by
    intro r
    induction r with
    | zero =>
      intro j b o u hj hb ho
      rw [show j = K by omega] at hb ho
      have h1 := sg_bd (f := sB (M 12 0) a (M 13) (M a2)) (c := 24) (n := K) (fun j hj => sB_bd h hj)
      have h2 := sg_ab (f := sO (M 12 0) a (M 13) (M a2)) (c := 2376) (by decide) (n := K) (fun j hj => sO_bd h hj)
      have h3 := splitF_bd (a := a) h
      have fin : V (d + 1) k qX0_splitOf 116 [mR 11 5 12, mR 0 6 a2, mI a, mI b, mI o, mI j, u] [] M Q := by
        refine B_X0_splitOf_116 (c_X0_roundUp (by omega) (fun r2 hr2 => ?_))
        unfold splitF at h3
        refine B_X0_splitOf_126 ⟨?_, hQ _ (by unfold splitF; rw [hr2, hb, ho])⟩
        rw [hr2, hb, ho]
        omega
      refine B_X0_splitOf_8  ⟨fun c1 => ?_, fun c1 => ⟨fun c2 => ?_, fun c2 => ⟨?_, ?_, fun c3 => ⟨?_, fun c4 => ⟨fun c5 => ⟨?_, ?_⟩, fun c5 => ⟨?_, ?_, ?_, ?_, ?_⟩⟩, fun c4 => ⟨?_, ?_, ?_, ?_, ?_, ?_, ?_, ?_⟩⟩, fun c3 => ⟨?_, ?_, ?_, ?_⟩⟩⟩⟩ <;> try omega
      all_goals exact fin
    | succ r ih =>
      intro j b o u hj hb ho
      have hjK : j < K := by omega
      have h0 := h.2.2.2 j hjK
      have h1 := sg_bd (f := sB (M 12 0) a (M 13) (M a2)) (c := 24) (n := j) (fun i hi => sB_bd h (by omega))
      have h2 := sg_ab (f := sO (M 12 0) a (M 13) (M a2)) (c := 2376) (by decide) (n := j) (fun i hi => sO_bd h (by omega))
      have h4 := mulb (x := M a2 j) (y := M 12 0 - M 13 j) (a := 24) (b := 99) (by omega) (by omega)
      have h5 := mulb (x := M a2 j) (y := M 13 j) (a := 24) (b := 99) (by omega) (by omega)
      have eB : sg (sB (M 12 0) a (M 13) (M a2)) (j + 1) = sg (sB (M 12 0) a (M 13) (M a2)) j + sB (M 12 0) a (M 13) (M a2) j := rfl
      have eO : sg (sO (M 12 0) a (M 13) (M a2)) (j + 1) = sg (sO (M 12 0) a (M 13) (M a2)) j + sO (M 12 0) a (M 13) (M a2) j := rfl
      unfold sB at eB
      unfold sO at eO
      refine B_X0_splitOf_8  ⟨fun c1 => ?_, fun c1 => ⟨fun c2 => ?_, fun c2 => ⟨?_, ?_, fun c3 => ⟨?_, fun c4 => ⟨fun c5 => ⟨?_, ?_⟩, fun c5 => ⟨?_, ?_, ?_, ?_, ?_⟩⟩, fun c4 => ⟨?_, ?_, ?_, ?_, ?_, ?_, ?_, ?_⟩⟩, fun c3 => ⟨?_, ?_, ?_, ?_⟩⟩⟩⟩ <;> try omega
      · exact ih (j + 1) _ _ _ (by omega) (by rw [hb]; unfold sB; rw [eB, if_pos (by omega), if_pos (by omega)]; omega) (by rw [ho]; unfold sO; rw [eO, if_pos (by omega), if_pos (by omega), if_pos (by omega)]; omega)
      · exact ih (j + 1) _ _ _ (by omega) (by rw [hb]; unfold sB; rw [eB, if_pos (by omega), if_pos (by omega)]; omega) (by rw [ho]; unfold sO; rw [eO, if_pos (by omega), if_pos (by omega), if_neg (by omega)])
      · exact ih (j + 1) _ _ _ (by omega) (by rw [hb]; unfold sB; rw [eB, if_pos (by omega), if_neg (by omega)]) (by rw [ho]; unfold sO; rw [eO, if_pos (by omega), if_neg (by omega)]; omega)
      · exact ih (j + 1) _ _ _ (by omega) (by rw [hb]; unfold sB; rw [eB, if_neg (by omega)]) (by rw [ho]; unfold sO; rw [eO, if_neg (by omega)]; omega)
  exact B_X0_splitOf_0 (loop K 0 0 0 _ (by omega) rfl rfl)
theorem dvc {x c : Int} (hx : 0 ≤ x) (hc : 1 ≤ c) : 0 ≤ x / c ∧ x / c * c ≤ x ∧ x / c ≤ x := by
  have h1 := Int.ediv_nonneg hx (show 0 ≤ c by omega)
  have h2 := Int.ediv_mul_le x (show c ≠ 0 by omega)
  have h3 := Int.ediv_le_self c hx
  omega
theorem stF_bd {c kk : Int} {K : Nat} {sz mn : Int → Int} (h : LotOK c K sz mn) (hk : 1 ≤ kk ∧ kk ≤ 20) {j : Nat} (hj : j < K) : (0 ≤ (kk + 1) * sz j ∧ (kk + 1) * sz j ≤ 2079) ∧ (0 ≤ kk * sz j ∧ kk * sz j ≤ 1980) ∧ (0 ≤ (kk + 1) * sz j / c ∧ (kk + 1) * sz j / c ≤ 2079 ∧ 0 ≤ (kk + 1) * sz j / c * c ∧ (kk + 1) * sz j / c * c ≤ 2079) ∧ (0 ≤ mn j * (kk * sz j) ∧ mn j * (kk * sz j) ≤ 47520) ∧ (0 ≤ mn j * (c * ((kk + 1) * sz j / c)) ∧ mn j * (c * ((kk + 1) * sz j / c)) ≤ 49896) ∧ (0 ≤ stF c kk sz mn j ∧ stF c kk sz mn j ≤ 49896) := by
  have h1 := h.2.2.2 j hj
  have hc := h.1
  have a1 := mulp (x := kk + 1) (y := sz j) (a := 21) (b := 99) (by omega) (by omega)
  have a2 := mulp (x := kk) (y := sz j) (a := 20) (b := 99) (by omega) (by omega)
  have a3 := dvc (x := (kk + 1) * sz j) (c := c) (by omega) hc
  have a4 : 0 ≤ (kk + 1) * sz j / c * c := Int.mul_nonneg a3.1 (by omega)
  have a5 := mulp (x := mn j) (y := kk * sz j) (a := 24) (b := 1980) (by omega) (by omega)
  have a6 : c * ((kk + 1) * sz j / c) = (kk + 1) * sz j / c * c := Int.mul_comm _ _
  have a7 := mulp (x := mn j) (y := (kk + 1) * sz j / c * c) (a := 24) (b := 2079) (by omega) (by omega)
  rw [a6]
  refine ⟨by omega, by omega, ⟨by omega, by omega, a4, by omega⟩, by omega, by omega, ?_⟩
  unfold stF
  split
  · omega
  · rw [a6]; omega
theorem stepF_bd {c kk : Int} {K : Nat} {sz mn : Int → Int} (h : LotOK c K sz mn) (hk : 1 ≤ kk ∧ kk ≤ 20) : (0 ≤ sg (stF c kk sz mn) K ∧ sg (stF c kk sz mn) K ≤ 299376) ∧ 0 ≤ stepF c K sz mn kk ∧ stepF c K sz mn kk ≤ 299376 := by
  have h1 := sg_bd (f := stF c kk sz mn) (c := 49896) (n := K) (fun j hj => (stF_bd h hk hj).2.2.2.2.2)
  have h2 := h.2.2.1
  have h3 := rUp_bd (n := sg (stF c kk sz mn) K) (b := kk * c) h1.1
  unfold stepF
  omega
set_option maxHeartbeats 1000000 in
theorem c_X0_stepOf {d k : Nat} {M : mM} {Q : mRes → mM → Prop} {a2 c kk : Int} {K : Nat} (hc : M 12 0 = c) (hK : M 12 1 = K) (h : LotOK c K (M 13) (M a2)) (hk : 1 ≤ kk ∧ kk ≤ 20) (hQ : ∀ r, r = stepF c K (M 13) (M a2) kk → Q (.inl (some (mI r))) M) : V (d + 1) k qX0_stepOf 0 [mR 11 5 12, mR 0 6 a2, mI kk, mE 0, mE 0, mE 0, mE 0] [] M Q := by
  have h6 := h.2.2.1
  have hc1 := h.1
  have hc2 := h.2.1
  subst hc
  have hkc := mulp (x := kk) (y := M 12 0) (a := 20) (b := 99) (by omega) (by omega)
  have loop : ∀ (r j : Nat) (b : Int) (u u' : mV), j + r = K → b = sg (stF (M 12 0) kk (M 13) (M a2)) j → V (d + 1) k qX0_stepOf 5 [mR 11 5 12, mR 0 6 a2, mI kk, mI b, mI j, u, u'] [] M Q := by
    intro r
    induction r with
    | zero =>
      intro j b u u' hj hb
      rw [show j = K by omega] at hb
      have h3 := stepF_bd h hk
      have fin : V (d + 1) k qX0_stepOf 107 [mR 11 5 12, mR 0 6 a2, mI kk, mI b, mI j, u, u'] [] M Q := by
        refine B_X0_stepOf_107 ⟨by omega, c_X0_roundUp (by omega) (fun r2 hr2 => ?_)⟩
        exact B_X0_stepOf_117 (hQ _ (by unfold stepF; rw [hr2, hb]))
      refine B_X0_stepOf_5  ⟨fun c1 => ?_, fun c1 => ⟨fun c2 => ?_, fun c2 => ⟨?_, ?_, ?_, ?_⟩⟩⟩ <;> try omega
      all_goals exact fin
    | succ r ih =>
      intro j b u u' hj hb
      have hjK : j < K := by omega
      have h0 := stF_bd h hk hjK
      have h1 := sg_bd (f := stF (M 12 0) kk (M 13) (M a2)) (c := 49896) (n := j) (fun i hi => (stF_bd h hk (by omega)).2.2.2.2.2)
      have eS : sg (stF (M 12 0) kk (M 13) (M a2)) (j + 1) = sg (stF (M 12 0) kk (M 13) (M a2)) j + stF (M 12 0) kk (M 13) (M a2) j := rfl
      have hz : (M 12 0) * ((kk + 1) * M 13 j / M 12 0) = (kk + 1) * M 13 j / M 12 0 * M 12 0 := Int.mul_comm _ _
      refine B_X0_stepOf_5  ⟨fun c1 => ?_, fun c1 => ⟨fun c2 => ?_, fun c2 => ⟨?_, ?_, ?_, ?_⟩⟩⟩ <;> try omega
      · refine c_X2_cut (by omega) (fun r2 hr2 => ?_)
        rw [if_neg (by omega)] at hr2
        subst hr2
        refine B_X0_stepOf_39  ⟨?_, ?_, ?_, ?_, fun c1 => ?_, fun c1 => ?_⟩ <;> try omega
        · have e1 := c1
          refine B_X0_stepOf_67  ⟨?_, fun c1 => ⟨?_, ?_, ?_, ?_, ?_⟩, fun c1 => ⟨?_, ?_, ?_, ?_, ?_, ?_⟩⟩ <;> try omega
          · refine ih (j + 1) _ _ _ (by omega) ?_
            rw [eS, hb]
            rw [show stF (M 12 0) kk (M 13) (M a2) j = M a2 j * (M 12 0 * ((kk + 1) * M 13 j / M 12 0)) by unfold stF; rw [if_neg e1]]
        · have e1 := c1
          refine B_X0_stepOf_67  ⟨?_, fun c1 => ⟨?_, ?_, ?_, ?_, ?_⟩, fun c1 => ⟨?_, ?_, ?_, ?_, ?_, ?_⟩⟩ <;> try omega
          · refine ih (j + 1) _ _ _ (by omega) ?_
            rw [eS, hb]
            rw [show stF (M 12 0) kk (M 13) (M a2) j = M a2 j * (kk * M 13 j) by unfold stF; rw [if_pos e1]]
  exact B_X0_stepOf_0 (loop K 0 0 _ _ (by omega) rfl)
/-- the first greatest of f lo, f (lo + 1), .. f (lo + n): where, and how much -/
def bst (f : Int → Int) (lo : Int) : Nat → Int × Int
  | 0 => (lo, f lo)
  | n + 1 => if (bst f lo n).2 < f (lo + (n + 1 : Nat)) then (lo + (n + 1 : Nat), f (lo + (n + 1 : Nat))) else bst f lo n
theorem bst_val {f : Int → Int} {lo : Int} : ∀ n, (bst f lo n).2 = f (bst f lo n).1 ∧ lo ≤ (bst f lo n).1 ∧ (bst f lo n).1 ≤ lo + n
  | 0 => ⟨rfl, by simp [bst], by simp [bst]⟩
  | n + 1 => by
    have ih := bst_val (f := f) (lo := lo) n
    unfold bst
    split
    · exact ⟨rfl, by simp only []; omega, by simp only []; omega⟩
    · exact ⟨ih.1, ih.2.1, by have := ih.2.2; omega⟩
theorem bst_ge {f : Int → Int} {lo b : Int} : ∀ n, b ≤ (bst f lo n).2 ↔ ∃ j : Nat, j ≤ n ∧ b ≤ f (lo + j)
  | 0 => by
    constructor
    · intro h; exact ⟨0, Nat.le_refl _, by simpa [bst] using h⟩
    · rintro ⟨j, hj, h⟩
      rw [show j = 0 by omega] at h
      simpa [bst] using h
  | n + 1 => by
    have ih := bst_ge (f := f) (lo := lo) (b := b) n
    unfold bst
    constructor
    · intro h
      split at h
      · exact ⟨n + 1, Nat.le_refl _, h⟩
      · obtain ⟨j, h1, h2⟩ := ih.mp h
        exact ⟨j, by omega, h2⟩
    · rintro ⟨j, h1, h2⟩
      split
      · rename_i hlt
        by_cases e : j = n + 1
        · subst e; exact h2
        · have h3 := ih.mpr ⟨j, by omega, h2⟩
          show b ≤ f (lo + (n + 1 : Nat))
          omega
      · rename_i hlt
        by_cases e : j = n + 1
        · subst e; omega
        · exact ih.mpr ⟨j, by omega, h2⟩
def tSp (c : Int) (K : Nat) (sz mn : Int → Int) : Int × Int := bst (splitF c K sz mn) 0 (c / 2).toNat
def tSt (c : Int) (K : Nat) (sz mn : Int → Int) : Int × Int := bst (stepF c K sz mn) 1 19
def boundF (c : Int) (K : Nat) (sz mn : Int → Int) : Int := max (areaF c K sz mn) (max (tSp c K sz mn).2 (tSt c K sz mn).2)
theorem c_X0_bestSplit {d k : Nat} {M : mM} {Q : mRes → mM → Prop} {a2 c : Int} {K : Nat} (hc : M 12 0 = c) (hK : M 12 1 = K) (h : LotOK c K (M 13) (M a2)) (hQ : ∀ r, r = (tSp c K (M 13) (M a2)).1 → Q (.inl (some (mI r))) M) : V (d + 2) k qX0_bestSplit 0 [mR 11 5 12, mR 0 6 a2, mE 0, mE 0, mE 0, mE 0] [] M Q := by
  have hc1 := h.1
  have hc2 := h.2.1
  have loop : ∀ (r j : Nat) (u : mV), j + r = (c / 2).toNat → V (d + 2) k qX0_bestSplit 12 [mR 11 5 12, mR 0 6 a2, mI (bst (splitF c K (M 13) (M a2)) 0 j).1, mI (bst (splitF c K (M 13) (M a2)) 0 j).2, mI ((j : Int) + 1), u] [] M Q := by
    intro r
    induction r with
    | zero =>
      intro j u hj
      refine B_X0_bestSplit_12  ⟨?_, fun c1 => ?_, fun c1 => ?_⟩ <;> try omega
      · exact hQ _ (by unfold tSp; rw [show j = (c / 2).toNat by omega])
    | succ r ih =>
      intro j u hj
      refine B_X0_bestSplit_12  ⟨?_, fun c1 => ?_, fun c1 => ?_⟩ <;> try omega
      · refine c_X0_splitOf hc hK h (by omega) (fun r2 hr2 => ?_)
        have e : bst (splitF c K (M 13) (M a2)) 0 (j + 1) = if (bst (splitF c K (M 13) (M a2)) 0 j).2 < r2 then ((j : Int) + 1, r2) else bst (splitF c K (M 13) (M a2)) 0 j := by
          rw [hr2]
          show (if _ < splitF c K (M 13) (M a2) (0 + ((j + 1 : Nat) : Int)) then _ else _) = _
          rw [show (0 + ((j + 1 : Nat) : Int)) = (j : Int) + 1 by omega]
        have ih := ih (j + 1) (mI r2) (by omega)
        rw [e] at ih
        refine B_X0_bestSplit_30  ⟨fun c1 => ⟨?_, ?_⟩, fun c1 => ⟨?_, ?_⟩⟩ <;> try omega
        · rw [if_neg (by omega)] at ih
          exact ih
        · rw [if_pos (by omega)] at ih
          exact ih
  refine B_X0_bestSplit_0 (c_X0_splitOf hc hK h (by omega) (fun r hr => B_X0_bestSplit_8 ?_))
  rw [hr]
  exact loop (c / 2).toNat 0 _ (by omega)
theorem c_X0_bestStep {d k : Nat} {M : mM} {Q : mRes → mM → Prop} {a2 c : Int} {K : Nat} (hc : M 12 0 = c) (hK : M 12 1 = K) (h : LotOK c K (M 13) (M a2)) (hQ : ∀ r, r = (tSt c K (M 13) (M a2)).1 → Q (.inl (some (mI r))) M) : V (d + 2) k qX0_bestStep 0 [mR 11 5 12, mR 0 6 a2, mE 0, mE 0, mE 0, mE 0] [] M Q := by
  have loop : ∀ (r j : Nat) (u : mV), j + r = 19 → V (d + 2) k qX0_bestStep 12 [mR 11 5 12, mR 0 6 a2, mI (bst (stepF c K (M 13) (M a2)) 1 j).1, mI (bst (stepF c K (M 13) (M a2)) 1 j).2, mI ((j : Int) + 2), u] [] M Q := by
    intro r
    induction r with
    | zero =>
      intro j u hj
      refine B_X0_bestStep_12  ⟨fun c1 => ?_, fun c1 => ?_⟩ <;> try omega
      · exact hQ _ (by unfold tSt; rw [show j = 19 by omega])
    | succ r ih =>
      intro j u hj
      refine B_X0_bestStep_12  ⟨fun c1 => ?_, fun c1 => ?_⟩ <;> try omega
      · refine c_X0_stepOf hc hK h (by omega) (fun r2 hr2 => ?_)
        have e : bst (stepF c K (M 13) (M a2)) 1 (j + 1) = if (bst (stepF c K (M 13) (M a2)) 1 j).2 < r2 then ((j : Int) + 2, r2) else bst (stepF c K (M 13) (M a2)) 1 j := by
          rw [hr2]
          show (if _ < stepF c K (M 13) (M a2) (1 + ((j + 1 : Nat) : Int)) then _ else _) = _
          rw [show (1 + ((j + 1 : Nat) : Int)) = (j : Int) + 2 by omega]
        have ih := ih (j + 1) (mI r2) (by omega)
        rw [e, show (((j + 1 : Nat) : Int) + 2) = (j : Int) + 2 + 1 by omega] at ih
        refine B_X0_bestStep_26  ⟨fun c1 => ⟨?_, ?_⟩, fun c1 => ⟨?_, ?_⟩⟩ <;> try omega
        · rw [if_neg (by omega)] at ih
          exact ih
        · rw [if_pos (by omega)] at ih
          exact ih
  refine B_X0_bestStep_0 (c_X0_stepOf hc hK h (by omega) (fun r hr => B_X0_bestStep_8 ?_))
  rw [hr]
  exact loop 19 0 _ (by omega)
theorem c_X0_greatestOf {d k : Nat} {M : mM} {Q : mRes → mM → Prop} {a2 c : Int} {K : Nat} (hc : M 12 0 = c) (hK : M 12 1 = K) (h : LotOK c K (M 13) (M a2)) (hQ : ∀ r, r = boundF c K (M 13) (M a2) → Q (.inl (some (mI r))) M) : V (d + 3) k qX0_greatestOf 0 [mR 11 5 12, mR 0 6 a2, mE 0, mE 0] [] M Q := by
  have hc1 := h.1
  have hc2 := h.2.1
  refine B_X0_greatestOf_0 (c_X0_bestSplit hc hK h (fun r1 h1 => ?_))
  have b1 := bst_val (f := splitF c K (M 13) (M a2)) (lo := 0) (c / 2).toNat
  have b2 := bst_val (f := stepF c K (M 13) (M a2)) (lo := 1) 19
  unfold tSp at h1
  refine B_X0_greatestOf_7 (c_X0_splitOf hc hK h (by omega) (fun r2 h2 => ?_))
  refine B_X0_greatestOf_10 (c_X0_bestStep hc hK h (fun r3 h3 => ?_))
  unfold tSt at h3
  refine B_X0_greatestOf_18 (c_X0_stepOf hc hK h (by omega) (fun r4 h4 => ?_))
  refine B_X0_greatestOf_21 (c_X0_areaOf hc hK h (fun r5 h5 => ?_))
  exact B_X0_greatestOf_27 (hQ _ (by unfold boundF tSp tSt; rw [b1.1, b2.1, h5, h4, h3, h2, h1]))
theorem boundF_ge {c b : Int} {K : Nat} {sz mn : Int → Int} : b ≤ boundF c K sz mn ↔ b ≤ areaF c K sz mn ∨ (∃ j : Nat, j ≤ 19 ∧ b ≤ stepF c K sz mn (1 + j)) ∨ ∃ j : Nat, j ≤ (c / 2).toNat ∧ b ≤ splitF c K sz mn (0 + j) := by
  rw [← bst_ge (f := stepF c K sz mn), ← bst_ge (f := splitF c K sz mn)]
  unfold boundF tSp tSt
  omega
set_option maxHeartbeats 1000000 in
theorem c_X0_reaches {d k : Nat} {M : mM} {Q : mRes → mM → Prop} {a2 c b : Int} {K : Nat} (hc : M 12 0 = c) (hK : M 12 1 = K) (h : LotOK c K (M 13) (M a2)) (hQ : ∀ r, r = (if b ≤ boundF c K (M 13) (M a2) then 1 else 0) → Q (.inl (some (mI r))) M) : V (d + 2) k qX0_reaches 0 [mR 11 5 12, mR 0 6 a2, mI b, mE 0] [] M Q := by
  have hc1 := h.1
  have hc2 := h.2.1
  have yes : b ≤ boundF c K (M 13) (M a2) → Q (.inl (some (mI 1))) M := fun z => hQ _ (by rw [if_pos z])
  refine B_X0_reaches_0 (c_X0_areaOf hc hK h (fun r1 h1 => ?_))
  have loop2 : ∀ (r j : Nat), j + r = (c / 2).toNat + 1 → (∀ i : Nat, i < j → ¬ b ≤ splitF c K (M 13) (M a2) (0 + i)) → (¬ b ≤ areaF c K (M 13) (M a2)) → (∀ i : Nat, i ≤ 19 → ¬ b ≤ stepF c K (M 13) (M a2) (1 + i)) → V (d + 2) k qX0_reaches 39 [mR 11 5 12, mR 0 6 a2, mI b, mI j] [] M Q := by
    intro r
    induction r with
    | zero =>
      intro j hj h2 h3 h4
      refine B_X0_reaches_39  ⟨?_, fun c1 => ?_, fun c1 => ?_⟩ <;> try omega
      · refine hQ _ ?_
        rw [if_neg]
        intro z
        rcases boundF_ge.mp z with z | ⟨i, i1, i2⟩ | ⟨i, i1, i2⟩
        · exact h3 z
        · exact h4 i i1 i2
        · exact h2 i (by omega) i2
    | succ r ih =>
      intro j hj h2 h3 h4
      refine B_X0_reaches_39  ⟨?_, fun c1 => ?_, fun c1 => ?_⟩ <;> try omega
      · refine c_X0_splitOf hc hK h (by omega) (fun r2 hr2 => ?_)
        refine B_X0_reaches_55  ⟨fun c1 => ⟨?_, ?_⟩, fun c1 => ?_⟩ <;> try omega
        · refine ih (j + 1) (by omega) (fun i hi => ?_) h3 h4
          by_cases e : i = j
          · subst e; rw [Int.zero_add]; omega
          · exact h2 i (by omega)
        · exact yes (boundF_ge.mpr (Or.inr (Or.inr ⟨j, by omega, by rw [Int.zero_add]; omega⟩)))
  have loop1 : ∀ (r j : Nat), j + r = 20 → (∀ i : Nat, i < j → ¬ b ≤ stepF c K (M 13) (M a2) (1 + i)) → (¬ b ≤ areaF c K (M 13) (M a2)) → V (d + 2) k qX0_reaches 13 [mR 11 5 12, mR 0 6 a2, mI b, mI (1 + (j : Int))] [] M Q := by
    intro r
    induction r with
    | zero =>
      intro j hj h2 h3
      refine B_X0_reaches_13  ⟨fun c1 => ?_, fun c1 => ?_⟩ <;> try omega
      · exact loop2 ((c / 2).toNat + 1) 0 (by omega) (fun i hi => by omega) h3 (fun i hi => h2 i (by omega))
    | succ r ih =>
      intro j hj h2 h3
      refine B_X0_reaches_13  ⟨fun c1 => ?_, fun c1 => ?_⟩ <;> try omega
      · refine c_X0_stepOf hc hK h (by omega) (fun r2 hr2 => ?_)
        have ih := ih (j + 1) (by omega)
        rw [show (1 + ((j + 1 : Nat) : Int)) = 1 + (j : Int) + 1 by omega] at ih
        refine B_X0_reaches_25  ⟨fun c1 => ⟨?_, ?_⟩, fun c1 => ?_⟩ <;> try omega
        · refine ih (fun i hi => ?_) h3
          by_cases e : i = j
          · subst e; omega
          · exact h2 i (by omega)
        · exact yes (boundF_ge.mpr (Or.inr (Or.inl ⟨j, by omega, by omega⟩)))
  refine B_X0_reaches_5  ⟨fun c1 => ?_, fun c1 => ?_⟩ <;> try omega
  · exact loop1 20 0 (by omega) (fun i hi => by omega) (by omega)
  · exact yes (boundF_ge.mpr (Or.inl (by omega)))
