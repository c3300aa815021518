/-! the law's frame up to its loop; the first state -/
def lX (g : mG) (L : Int) (xs : Int → Int) : Nat → List mV → Nat → (Nat → va_E) → Prop := fun pc ls n F => pc = 20 ∧ ls = [mE 2, mR 17 15 0, mR 18 58 112, mR 1 1 137, mE 0, mE 0, mE 0] ∧ n = 138 ∧ ∀ i, i < 138 → F i = mEnt g.1 g.2.2.2.1 (kM0 L xs) i
set_option maxHeartbeats 2000000 in
theorem l_ctor {g : mG} {L : Int} {xs : Int → Int} {F : Nat → va_E} {Q : Nat → (Nat → va_E) → Prop} : UX (lX g L xs) g 1000 200 40000 qL_law 0 [mE 2, mE 0, mE 0, mE 0, mE 0, mE 0, mE 0] [] 0 F Q := by
  refine U_new (L := 15) (kc' := 199) (ks' := 39985) (n := 0) dL_law_0 k_nw_L_8 (Nat.le_of_ble_eq_true rfl) (Nat.le_of_ble_eq_true rfl) (fun F1 a1 a2 => ?_)
  refine U_dup dL_law_3 ?_
  refine U_callI (d' := 3) (kc' := 111) (ks' := 4402) (kc'' := 80) (ks'' := 30000) (q' := qX9_init) dL_law_4 (mTbl_at 116 (by decide +kernel) rfl) k_cm7 (by omega) (Nat.le_of_ble_eq_true rfl) (Nat.le_of_ble_eq_true rfl) (Nat.le_of_ble_eq_true rfl) (k_ok_7_0 (L := L) (xs := xs) F1 _ a1 (fun F2 b1 b2 => ?_))
  refine U_astore_n dL_law_7 rfl (by decide) ?_
  refine U_new (L := 58) (kc' := 79) (ks' := 29000) (n := 112) dL_law_8 k_nw_L_86 (Nat.le_of_ble_eq_true rfl) (Nat.le_of_ble_eq_true rfl) (fun F3 c1 c2 => ?_)
  refine U_dup dL_law_11 ?_
  refine U_callI (d' := 1) (kc' := 24) (ks' := 15223) (kc'' := 50) (ks'' := 10000) (q' := qX10_init) dL_law_12 (mTbl_at 1189 (by decide +kernel) rfl) k_cm8 (by omega) (Nat.le_of_ble_eq_true rfl) (Nat.le_of_ble_eq_true rfl) (Nat.le_of_ble_eq_true rfl) (k_ok_8_112 (L := L) (xs := xs) F3 _ c1 (fun F4 d1 d2 => ?_))
  refine U_astore_n dL_law_15 rfl (by decide) ?_
  refine U_iconst dL_law_16 ?_
  refine U_newa (ty := .long) (ki := 1) (l0 := 1) (kc' := 40) (ks' := 9000) (n := 137) (a0 := (1, .inr (.inl (fun j : Nat => Int64.ofInt (kM0 L xs (137 : Nat) (j : Nat)))))) dL_law_17 rfl (mTbl_at 211 (by decide +kernel) rfl) rfl (fun _ _ h => h) (fun cA => ?_) (by decide +kernel) (by decide +kernel) (Nat.le_of_ble_eq_true rfl) (Nat.le_of_ble_eq_true rfl) (Nat.le_of_ble_eq_true rfl) (fun F5 e1 e2 => ?_)
  · rw [vp_cell_l]
    exact um_congr fun j _ => by
      show Value.long (Int64.ofInt (kM0 L xs (137 : Nat) j)) = .long 0
      rw [kM0_z (by decide)]; rfl
  · refine U_astore_n dL_law_19 rfl (by decide) ?_
    refine U_exit ⟨rfl, rfl, rfl, fun i hi => ?_⟩
    by_cases h1 : i = 137
    · subst h1
      rw [e1, mEnt_l (show mShL[137]? = some (1, 1) from rfl)]
    · rw [e2 i (by omega)]
      by_cases h2 : 112 ≤ i
      · exact d2 i h2 (by omega)
      · rw [d1 i (by omega), c2 i (by omega)]
        exact b2 i (Nat.zero_le i) (by omega)
theorem kM0_ok {L : Int} {xs : Int → Int} : mOK (kM0 L xs) := by
  intro n j k hk
  have z : ∀ k, mRg k 0 := fun k => by
    unfold mRg
    split <;> omega
  by_cases h : n ≠ 0 ∧ n ≠ 2 ∧ n ≠ 3 ∧ n ≠ 8 ∧ n ≠ 12 ∧ n ≠ 108 ∧ n ≠ 112
  · rw [kM0_z h]; exact z k
  · have go : ∀ (jj : Nat) (v : Int), mEl n jj = some 0 → r32 v → (∀ j : Nat, j ≠ jj → kM0 L xs n j = 0) → kM0 L xs n jj = v → mRg k (kM0 L xs n j) := fun jj v e1 e2 e3 e4 => by
      by_cases hj : j = jj
      · subst hj
        rw [e1] at hk
        cases hk
        rw [e4]; exact e2
      · rw [e3 j hj]; exact z k
    have hc : n = 0 ∨ n = 2 ∨ n = 3 ∨ n = 8 ∨ n = 12 ∨ n = 108 ∨ n = 112 := by omega
    rcases hc with rfl | rfl | rfl | rfl | rfl | rfl | rfl
    · exact go 2 (-1) (by decide +kernel) (by omega) (fun j hj => by show (if (j : Int) = 2 then (-1 : Int) else 0) = 0; rw [if_neg (by omega)]) rfl
    · exact go 2 (-1) (by decide +kernel) (by omega) (fun j hj => by show (if (j : Int) = 2 then (-1 : Int) else 0) = 0; rw [if_neg (by omega)]) rfl
    · exact go 0 30 (by decide +kernel) (by omega) (fun j hj => by show (if (j : Int) = 0 then (30 : Int) else 0) = 0; rw [if_neg (by omega)]) rfl
    · exact go 0 30 (by decide +kernel) (by omega) (fun j hj => by show (if (j : Int) = 0 then (30 : Int) else 0) = 0; rw [if_neg (by omega)]) rfl
    · exact go 0 30 (by decide +kernel) (by omega) (fun j hj => by show (if (j : Int) = 0 then (30 : Int) else 0) = 0; rw [if_neg (by omega)]) rfl
    · exact go 1 (-1) (by decide +kernel) (by omega) (fun j hj => by show (if (j : Int) = 1 then (-1 : Int) else 0) = 0; rw [if_neg (by omega)]) rfl
    · by_cases hj6 : j = 6
      · subst hj6
        have : mEl 112 6 = some 0 := by decide +kernel
        rw [this] at hk
        cases hk
        show r32 30
        omega
      · by_cases hj7 : j = 17
        · subst hj7
          have : mEl 112 17 = some 0 := by decide +kernel
          rw [this] at hk
          cases hk
          show r32 (-1)
          omega
        · have : kM0 L xs ((112 : Nat) : Int) j = 0 := by
            show (if (j : Int) = 6 then (30 : Int) else if (j : Int) = 17 then -1 else 0) = 0
            rw [if_neg (by omega), if_neg (by omega)]
          rw [this]; exact z k
theorem rowOK0 {c : Int} {sz R : Int → Int} (hc : 0 ≤ c) (h : ∀ i : Int, R i = 0) : rowOK c 0 sz R := by
  refine ⟨fun s _ => ?_, ?_, ?_, fun b s _ _ => ?_, fun b _ => ?_⟩
  · rw [h]; omega
  · show (0 : Int) ≤ 24; omega
  · rw [h]; omega
  · rw [h]; omega
  · exact hc
theorem St0 {L : Int} {xs : Int → Int} : St 30 0 0 (kM0 L xs) := by
  have z : ∀ (n : Nat) (i : Int), n ≠ 0 ∧ n ≠ 2 ∧ n ≠ 3 ∧ n ≠ 8 ∧ n ≠ 12 ∧ n ≠ 108 ∧ n ≠ 112 → kM0 L xs n i = 0 := fun n i h => kM0_z h i
  have p0 : ∀ f : Int → Int, (∀ i, f i = 0) → pkL f = 0 := fun f hf => by unfold pkL; simp only [hf]; rfl
  refine ⟨⟨by omega, by omega, rfl, rfl, rfl, rfl, fun s hs => absurd hs (Nat.not_lt_zero s), fun s hs => absurd hs (Nat.not_lt_zero s)⟩, ⟨⟨rfl, rfl, (show (0 : Int) ≤ 0 ∧ (0 : Int) ≤ 40 by omega), (show (0 : Int) ≤ 0 ∧ (0 : Int) < 40 by omega), (show (0 : Int) ≤ 0 ∧ (0 : Int) ≤ 8 by omega)⟩, ⟨⟨?_, ?_, fun b hb => ?_⟩, ?_⟩, ?_, ?_, ?_⟩, ⟨rfl, Or.inl rfl⟩, ⟨rfl, (show (0 : Int) ≤ 0 ∧ (0 : Int) ≤ 700 by omega), ?_⟩, rfl⟩
  · exact (z 17 _ (by decide)).trans (p0 _ (fun i => z 113 _ (by decide))).symm
  · exact (z 17 _ (by decide)).trans (z 113 _ (by decide)).symm
  · exact (z 17 _ (by decide)).trans (p0 _ (fun i => z 113 _ (by decide))).symm
  · exact rowOK0 (by omega) (fun i => z 113 _ (by decide))
  · intro k hk
    have : (k : Int) < 0 := hk
    omega
  · intro k hk
    have : (k : Int) < 0 := hk
    omega
  · intro i hi
    have e1 : kM0 L xs (16 + 2) i = 0 := z 18 _ (by decide)
    have e2 : kM0 L xs 117 (0 + i) = 0 := z 117 _ (by decide)
    rw [e1, e2]
    omega
  · intro i hi
    have : (i : Int) < 0 := hi
    omega
