/-! small methods of the model -/
theorem c_X10_within {d k : Nat} {M : mM} {Q : mRes → mM → Prop} {x y z : Int} (hQ : ∀ r, r = (if y ≤ x ∧ x ≤ z then 1 else 0) → Q (.inl (some (mI r))) M) : V d k qX10_within 0 [mI x, mI y, mI z] [] M Q := by
  refine B_X10_within_0  ⟨fun c1 => ?_, fun c1 => ⟨fun c2 => ?_, fun c2 => ?_⟩⟩ <;> try omega
  · exact hQ _ (by rw [if_neg (by omega)])
  · exact hQ _ (by rw [if_neg (by omega)])
  · exact hQ _ (by rw [if_pos (by omega)])
theorem c_X10_fine {d k : Nat} {M : mM} {Q : mRes → mM → Prop} {x y : Int} (h : M 112 5 = 0) (hy : y ≠ 0) (h1 : x = 0 → Q (.inl (some (mI 0))) (mUp M 112 5 y)) (h2 : x ≠ 0 → Q (.inl (some (mI 1))) M) : V d k qX10_fine 0 [mR 18 58 112, mI x, mI y] [] M Q := by
  have e0 : (mUp M 112 5 y) 112 5 = y := up_s
  refine B_X10_fine_0  ⟨fun c1 => ?_, fun c1 => ⟨fun c2 => ?_, fun c2 => ?_⟩⟩ <;> try omega
  · have z := c2
    refine B_X10_fine_16  ⟨fun c1 => ?_, fun c1 => ?_⟩ <;> try omega
    · exact h2 z
  · have z := c2
    refine B_X10_fine_16  ⟨fun c1 => ?_, fun c1 => ?_⟩ <;> try omega
    · exact h1 z
theorem c_X10_bins {d k : Nat} {M : mM} {Q : mRes → mM → Prop} (hQ : ∀ r, r = M 113 6 → Q (.inl (some (mI r))) M) : V d k qX10_bins 0 [mR 18 58 112] [] M Q := B_X10_bins_0 (hQ _ rfl)
theorem c_X10_binAt {d k : Nat} {M : mM} {Q : mRes → mM → Prop} {x : Int} (hx : 0 ≤ x ∧ x ≤ 12) (hQ : ∀ r, r = 7 + 6 * x → Q (.inl (some (mI r))) M) : V d k qX10_binAt 0 [mI x] [] M Q := B_X10_binAt_0 ⟨by omega, by omega, hQ _ rfl⟩
theorem c_X10_isSort {d k : Nat} {M : mM} {Q : mRes → mM → Prop} {x : Int} {K : Nat} (h : M 112 5 = 0) (hK : M 112 7 = K) (hK6 : K ≤ 6) (h1 : ¬ (0 ≤ x ∧ x < K) → Q (.inl (some (mI 0))) (mUp M 112 5 1)) (h2 : 0 ≤ x ∧ x < K → Q (.inl (some (mI 1))) M) : V (d + 1) k qX10_isSort 0 [mR 18 58 112, mI x] [] M Q := by
  refine B_X10_isSort_0 ⟨by omega, c_X10_within (fun r hr => B_X10_isSort_12 (c_X10_fine h (by decide) (fun z => B_X10_isSort_16 ⟨by omega, h1 ?_⟩) (fun z => B_X10_isSort_16 ⟨by omega, h2 ?_⟩)))⟩
  · intro z2; rw [if_pos (by omega)] at hr; omega
  · exact Decidable.byContradiction fun z2 => by rw [if_neg (by omega)] at hr; omega
theorem c_X10_isBin {d k : Nat} {M : mM} {Q : mRes → mM → Prop} {x : Int} (h : M 112 5 = 0) (h6 : 0 ≤ M 113 6 ∧ M 113 6 ≤ 12) (h1 : ¬ (0 ≤ x ∧ x < M 113 6) → Q (.inl (some (mI 0))) (mUp M 112 5 1)) (h2 : 0 ≤ x ∧ x < M 113 6 → Q (.inl (some (mI 1))) M) : V (d + 1) k qX10_isBin 0 [mR 18 58 112, mI x] [] M Q := by
  refine B_X10_isBin_0 (c_X10_bins (fun q hq => B_X10_isBin_7 ⟨by omega, c_X10_within (fun r hr => B_X10_isBin_12 (c_X10_fine h (by decide) (fun z => B_X10_isBin_16 ⟨by omega, h1 ?_⟩) (fun z => B_X10_isBin_16 ⟨by omega, h2 ?_⟩)))⟩))
  · intro z2; rw [if_pos (by omega)] at hr; omega
  · exact Decidable.byContradiction fun z2 => by rw [if_neg (by omega)] at hr; omega
theorem c_X10_isRule {d k : Nat} {M : mM} {Q : mRes → mM → Prop} {x : Int} (h : M 112 5 = 0) (h1 : ¬ (0 ≤ x ∧ x < 8) → Q (.inl (some (mI 0))) (mUp M 112 5 1)) (h2 : 0 ≤ x ∧ x < 8 → Q (.inl (some (mI 1))) M) : V (d + 1) k qX10_isRule 0 [mR 18 58 112, mI x] [] M Q := by
  refine B_X10_isRule_0 (c_X10_within (fun r hr => B_X10_isRule_8 (c_X10_fine h (by decide) (fun z => B_X10_isRule_12 ⟨by omega, h1 ?_⟩) (fun z => B_X10_isRule_12 ⟨by omega, h2 ?_⟩))))
  · intro z2; rw [if_pos (by omega)] at hr; omega
  · exact Decidable.byContradiction fun z2 => by rw [if_neg (by omega)] at hr; omega
theorem c_X10_restMany {d k : Nat} {M : mM} {Q : mRes → mM → Prop} {K : Nat} (hK : M 112 7 = K) (hK6 : K ≤ 6) (h7 : ∀ s : Nat, s < 6 → 0 ≤ M 113 s ∧ M 113 s ≤ 127) (hQ : ∀ r, r = sg (M 113) K → Q (.inl (some (mI r))) M) : V d k qX10_restMany 0 [mR 18 58 112, mE 0, mE 0] [] M Q := by
  have loop : ∀ r j : Nat, j + r = K → V d k qX10_restMany 4 [mR 18 58 112, mI (sg (M 113) j), mI j] [] M Q := by
    intro r
    induction r with
    | zero =>
      intro j hj
      refine B_X10_restMany_4  ⟨fun c1 => ?_, fun c1 => ⟨?_, ?_, ?_, ?_⟩⟩ <;> try omega
      · exact hQ _ (by rw [show j = K by omega])
    | succ r ih =>
      intro j hj
      have h2 := sg_bd (f := M 113) (n := j) (fun i hi => h7 i (by omega))
      have h3 := h7 j (by omega)
      refine B_X10_restMany_4  ⟨fun c1 => ?_, fun c1 => ⟨?_, ?_, ?_, ?_⟩⟩ <;> try omega
      · exact ih (j + 1) (by omega)
  exact B_X10_restMany_0 (loop K 0 (by omega))
theorem c_X10_fullOf {d k : Nat} {M : mM} {Q : mRes → mM → Prop} {K : Nat} {x : Int} (hK : M 112 7 = K) (hK6 : K ≤ 6) (hx : 0 ≤ x ∧ x ≤ 12) (hf : ∀ s : Nat, s < 6 → 0 ≤ M 113 (7 + 6 * x + s) ∧ M 113 (7 + 6 * x + s) ≤ 127) (hz : ∀ s : Nat, s < K → 0 ≤ M 114 s ∧ M 114 s ≤ 99) (hQ : ∀ r, r = sg (fun s => M 114 s * M 113 (7 + 6 * x + s)) K → Q (.inl (some (mI r))) M) : V (d + 1) k qX10_fullOf 0 [mR 18 58 112, mI x, mE 0, mE 0] [] M Q := by
  have hb : ∀ j : Nat, j < K → 0 ≤ M 114 j * M 113 (7 + 6 * x + j) ∧ M 114 j * M 113 (7 + 6 * x + j) ≤ 99 * 127 := fun j hj => mulp (hz j hj) (hf j (by omega))
  have loop : ∀ r j : Nat, j + r = K → V (d + 1) k qX10_fullOf 4 [mR 18 58 112, mI x, mI (sg (fun s => M 114 s * M 113 (7 + 6 * x + s)) j), mI j] [] M Q := by
    intro r
    induction r with
    | zero =>
      intro j hj
      refine B_X10_fullOf_4  ⟨fun c1 => ?_, fun c1 => ?_⟩ <;> try omega
      · exact hQ _ (by rw [show j = K by omega])
    | succ r ih =>
      intro j hj
      have h1 := hb j (by omega)
      have h2 := sg_bd (f := fun s => M 114 s * M 113 (7 + 6 * x + s)) (c := 99 * 127) (n := j) (fun i hi => hb i (by omega))
      have ih := ih (j + 1) (by omega)
      rw [show sg (fun s => M 114 s * M 113 (7 + 6 * x + s)) (j + 1) = sg (fun s => M 114 s * M 113 (7 + 6 * x + s)) j + M 114 j * M 113 (7 + 6 * x + j) from rfl, Int.mul_comm (M 114 j)] at ih
      rw [Int.mul_comm (M 114 j)] at h1
      refine B_X10_fullOf_4  ⟨fun c1 => ?_, fun c1 => ?_⟩ <;> try omega
      · refine c_X10_binAt hx (fun r hr => ?_)
        subst hr
        refine B_X10_fullOf_21  ⟨?_, ?_, ?_, ?_, ?_, ?_, ?_⟩ <;> try omega
        · exact ih
  exact B_X10_fullOf_0 (loop K 0 (by omega))
theorem c_X10_inBins {d k : Nat} {M : mM} {Q : mRes → mM → Prop} {s : Int} (h6 : 0 ≤ M 113 6 ∧ M 113 6 ≤ 12) (hs : 0 ≤ s ∧ s < 6) (hf : ∀ b : Nat, b < 12 → 0 ≤ M 113 (7 + 6 * b + s) ∧ M 113 (7 + 6 * b + s) ≤ 127) (hQ : ∀ r, r = sg (fun b => M 113 (7 + 6 * b + s)) (M 113 6).toNat → Q (.inl (some (mI r))) M) : V (d + 1) k qX10_inBins 0 [mR 18 58 112, mI s, mE 0, mE 0] [] M Q := by
  have loop : ∀ r j : Nat, (j : Int) + r = M 113 6 → V (d + 1) k qX10_inBins 4 [mR 18 58 112, mI s, mI (sg (fun b => M 113 (7 + 6 * b + s)) j), mI j] [] M Q := by
    intro r
    induction r with
    | zero =>
      intro j hj
      refine B_X10_inBins_4 (c_X10_bins (fun q hq => ?_))
      subst hq
      refine B_X10_inBins_9  ⟨fun c1 => ?_, fun c1 => ?_⟩ <;> try omega
      · exact hQ _ (by rw [show j = (M 113 6).toNat by omega])
    | succ r ih =>
      intro j hj
      have h1 := hf j (by omega)
      have h2 := sg_bd (f := fun b => M 113 (7 + 6 * b + s)) (c := 127) (n := j) (fun i hi => hf i (by omega))
      have ih := ih (j + 1) (by omega)
      refine B_X10_inBins_4 (c_X10_bins (fun q hq => ?_))
      subst hq
      refine B_X10_inBins_9  ⟨fun c1 => ?_, fun c1 => ?_⟩ <;> try omega
      · refine c_X10_binAt (by omega) (fun r hr => ?_)
        subst hr
        refine B_X10_inBins_21  ⟨?_, ?_, ?_, ?_, ?_⟩ <;> try omega
        · exact ih
  exact B_X10_inBins_0 (loop (M 113 6).toNat 0 (by omega))
/-- what is looked at -/
def lkRel (c : Int) (K : Nat) (sz mn : Int → Int) (M : mM) : Prop := M 112 33 = c ∧ (∀ s : Nat, s < 6 → M 121 s = mn s) ∧ (∀ s : Nat, s < 6 → M 122 s = sz s) ∧ (∀ i : Nat, i < K → M 123 i = orF sz K i)
theorem orF_congr {f g : Int → Int} : ∀ {n : Nat}, (∀ s : Nat, s < n → f s = g s) → orF f n = orF g n
  | 0, _ => rfl
  | n + 1, h => by
    have ih := orF_congr (n := n) (fun s hs => h s (by omega))
    have hp : ∀ m : Nat, m ≤ n → psF (fun i => f (orF g n i)) (f n) m = psF (fun i => g (orF g n i)) (g n) m := fun m => by
      induction m with
      | zero => intro _; rfl
      | succ m ihm =>
        intro hm
        have hr := orF_rg (sz := g) n m (by omega)
        obtain ⟨t, ht⟩ : ∃ t : Nat, orF g n m = t := ⟨(orF g n m).toNat, by omega⟩
        have := h t (by omega)
        have e1 : f (orF g n m) = g (orF g n m) := by rw [ht]; exact this
        simp only [psF]
        have e2 := h n (show n < n + 1 by omega)
        have e3 := ihm (by omega)
        rw [e2] at e3
        simp only [e1, e2, e3]
    show insF (orF f n) (psF (fun i => f (orF f n i)) (f n) n) n = insF (orF g n) (psF (fun i => g (orF g n i)) (g n) n) n
    rw [ih, hp n (by omega)]
theorem c_X10_looks {d k : Nat} {M : mM} {Q : mRes → mM → Prop} {K : Nat} (hK : M 112 7 = K) (hK6 : K ≤ 6) (h0 : ∀ s : Nat, K ≤ s → s < 6 → M 113 s = 0)
    (hQ : ∀ M', frM [121, 122, 123] [33] M M' → lkRel (M 112 6) K (M 114) (M 113) M' → Q (.inl none) M') : V (d + 1) k qX10_looks 0 [mR 18 58 112, mE 0] [] M Q := by
  refine B_X10_looks_0 ?_
  have loop : ∀ (r j : Nat) (M' : mM), j + r = 6 → frM [121, 122, 123] [33] M M' → M' 112 33 = M 112 6 → (∀ s : Nat, s < j → M' 121 s = M 113 s) → (∀ s : Nat, s < j → M' 122 s = M 114 s) → V (d + 1) k qX10_looks 10 [mR 18 58 112, mI j] [] M' Q := by
    intro r
    induction r with
    | zero =>
      intro j M' hj g1 g2 g3 g4
      have o1 : M' 112 7 = K := by rw [g1.2 7 (by simp)]; exact hK
      refine B_X10_looks_10  ⟨fun c1 => ?_, fun c1 => ⟨fun c2 => ?_, fun c2 => ⟨?_, ?_⟩⟩⟩ <;> try omega
      · refine c_X10_orders o1 hK6 (fun M'' q1 q2 => B_X10_looks_62 (hQ M'' ⟨fun n hn hn2 => ?_, fun i hi => ?_⟩ ⟨?_, ?_, ?_, ?_⟩))
        · rw [q1 n (by simp at hn ⊢; omega)]; exact g1.1 n hn hn2
        · rw [q1 112 (by simp)]; exact g1.2 i hi
        · rw [q1 112 (by simp)]; exact g2
        · intro s hs; rw [q1 121 (by simp)]; exact g3 s (by omega)
        · intro s hs; rw [q1 122 (by simp)]; exact g4 s (by omega)
        · intro i hi; rw [q2 i hi, orF_congr (fun s hs => g4 s (by omega))]
    | succ r ih =>
      intro j M' hj g1 g2 g3 g4
      have o1 : M' 112 7 = K := by rw [g1.2 7 (by simp)]; exact hK
      have o2 : M' 113 = M 113 := g1.1 113 (by simp) (by decide)
      have o3 : M' 114 = M 114 := g1.1 114 (by simp) (by decide)
      have go : ∀ v, v = M 113 j → V (d + 1) k qX10_looks 39 [mR 18 58 112, mI j] [mI v, mI j, mR 0 6 121] M' Q := fun v hv => by
        refine B_X10_looks_39  ⟨?_, ?_, ?_, ?_, ?_⟩ <;> try omega
        · refine ih (j + 1) _ (by omega) ((g1.up (by simp) (by decide)).up (by simp) (by decide)) ?_ (fun s hs => ?_) (fun s hs => ?_)
          · rw [up_row (by decide), up_row (by decide)]; exact g2
          · rw [up_row (by decide)]
            by_cases e : s = j
            · subst e; rw [up_s]; exact hv
            · rw [up_fld (by omega)]; exact g3 s (by omega)
          · by_cases e : s = j
            · subst e; rw [up_s, o3]
            · rw [up_fld (by omega), up_row (by decide)]; exact g4 s (by omega)
      refine B_X10_looks_10  ⟨fun c1 => ?_, fun c1 => ⟨fun c2 => ?_, fun c2 => ⟨?_, ?_⟩⟩⟩ <;> try omega
      · exact go _ (h0 j (by omega) (by omega)).symm
      · exact go _ (by rw [o2])
  exact loop 6 0 _ (by omega) (frM.rf.fl (by simp)) up_s (fun s hs => by omega) (fun s hs => by omega)
