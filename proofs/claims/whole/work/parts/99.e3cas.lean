/-! the law's cases -/
def lawQ : mRes → mM → Prop := fun r _ => r = .inl (some (mI 1))
theorem lawQn : ∀ (E : Nat) (M : mM), ¬ lawQ (.inr E) M := fun _ _ h => by cases h
/-- what no question writes and reads -/
def nrm (M : mM) : mM := fun n => if (2 ≤ n ∧ n ≤ 7) ∨ (12 ≤ n ∧ n ≤ 15) ∨ (28 ≤ n ∧ n ≤ 111) ∨ n = 137 then fun _ => 0 else M n
theorem nrm_x {M M1 : mM} (h : kpX M M1) : nrm M1 = nrm M := by
  funext n
  unfold nrm
  split
  · rfl
  · rename_i hn
    exact h n (fun z => hn (by rcases z with z | z | z
                               · exact Or.inl z
                               · exact Or.inr (Or.inl z)
                               · exact Or.inr (Or.inr (Or.inl z))))
theorem nrm_o {M : mM} {v : Int} : nrm (mUp M 137 0 v) = nrm M := by
  funext n
  unfold nrm
  split
  · rfl
  · rename_i hn
    exact up_row (fun e => hn (Or.inr (Or.inr (Or.inr e))))
theorem crF_n {c : Int} {K : Nat} {M : mM} : ∀ j : Nat, crF c K M j = crF c K (nrm M) j
  | 0 => rfl
  | j + 1 => by
    unfold crF
    rw [crF_n j]
    rfl
theorem agF_n {c : Int} {K : Nat} {M : mM} {sz : Int → Int} : ∀ j : Nat, agF c K M sz j = agF c K (nrm M) sz j
  | 0 => rfl
  | j + 1 => by
    unfold agF
    rw [agF_n j]
    rfl
theorem gsV_n {c : Int} {K : Nat} {M : mM} {n s : Nat} {st : Int × Int} : ∀ v : Nat, gsV c K M n s st v = gsV c K (nrm M) n s st v
  | 0 => rfl
  | v + 1 => by
    unfold gsV
    rw [gsV_n v, show agF c K M (fset (M 9) s ((v + 1 : Nat) : Int)) n = agF c K (nrm M) (fset (M 9) s ((v + 1 : Nat) : Int)) n from agF_n n]
    rfl
theorem gsS_n {c : Int} {K : Nat} {M : mM} {n : Nat} : ∀ s : Nat, gsS c K M n s = gsS c K (nrm M) n s
  | 0 => rfl
  | s + 1 => by
    unfold gsS
    rw [gsS_n s]
    exact gsV_n _
theorem glV_n {c : Int} {K : Nat} {M : mM} {n s : Nat} {l : List (Int → Int)} : ∀ v : Nat, glV c K M n s l v = glV c K (nrm M) n s l v
  | 0 => rfl
  | v + 1 => by
    unfold glV
    rw [glV_n v, show agF c K M (fset (M 9) s ((v + 1 : Nat) : Int)) n = agF c K (nrm M) (fset (M 9) s ((v + 1 : Nat) : Int)) n from agF_n n]
    rfl
theorem glS_n {c : Int} {K : Nat} {M : mM} {n : Nat} : ∀ s : Nat, glS c K M n s = glS c K (nrm M) n s
  | 0 => rfl
  | s + 1 => by
    unfold glS
    rw [glS_n s]
    exact glV_n _
theorem lkU_n {c : Int} {K : Nat} {M : mM} : lkU c K M = lkU c K (nrm M) := by
  funext r
  unfold lkU
  rw [show glS c K M (M 112 10).toNat K = glS c K (nrm M) (M 112 10).toNat K from glS_n K]
  rfl
theorem St.o {c : Int} {K : Nat} {N : Int} {M : mM} {v : Int} (h : St c K N M) : St c K N (mUp M 137 0 v) := h
theorem ind_count {c : Int} {K : Nat} {M : mM} {y0 : Int} : an_count c K M y0 = an_count c K (nrm M) y0 := by
  unfold an_count
  rw [show crF c K M K = crF c K (nrm M) K from crF_n K]
  rfl
set_option maxHeartbeats 1000000 in
theorem lc_count {d k : Nat} {c : Int} {K : Nat} {N : Int} {M : mM} {i : Int} {u5 u6 : mV} (hS : St c K N M) (hi : 0 ≤ i) (hL : i + 5 < M (-1) (-1)) (h3 : M (-1) (-1) ≤ 3072) (hR : ∀ j : Int, 0 ≤ j → j < M (-1) (-1) → r32 (M (-1) j)) (hk : 3 ≤ k)
    (hn : ∀ (c' : Int) (K' : Nat) (N' : Int) (M' : mM) (u5 u6 : mV), St c' K' N' M' → N' ≤ N + 1 → sE M M' → V (d + 62) (k - 3) qL_law 1989 [mE 2, mR 17 15 0, mR 18 58 112, mR 1 1 137, mI i, u5, u6] [] M' lawQ) : V (d + 62) k qL_law 342 [mE 2, mR 17 15 0, mR 18 58 112, mR 1 1 137, mI i, u5, u6] [] M lawQ := by
  refine B_L_law_342 lawQn ⟨?_, ?_, ?_, ?_⟩ <;> try omega
  refine V_sE (xq_count hS (fun M1 h1 hs1 => ?_))
  have hS1 := hS.kx h1
  have hA : nrm M1 = nrm M := nrm_x h1
  generalize ha : an_count c K M (M (-1) (i + 1)) = a
  rcases a with v | e
  · show V (d + 62) (k - 3) qL_law 353 [mE 2, mR 17 15 0, mR 18 58 112, mR 1 1 137, mI i, u5, u6] [mI 0] (mUp M1 137 0 v) lawQ
    have hS2 : St c K N (mUp M1 137 0 v) := hS1.o
    have hs2 : sE M (mUp M1 137 0 v) := hs1.o
    have hB : nrm (mUp M1 137 0 v) = nrm M := nrm_o.trans hA
    have hv : (mUp M1 137 0 v) 137 0 = v := up_s
    revert hS2 hs2 hB hv
    generalize mUp M1 137 0 v = M2
    intro hS2 hs2 hB hv
    have ea : an_count c K M2 (M (-1) (i + 1)) = .inl v := by rw [ind_count, hB, ← ind_count]; exact ha
    have Bk := B_L_law_353 (d := d + 60) (k := k - 3) (M := M2) (Q := lawQ) (x4 := i) (u5 := u5) (u6 := u6) (sx0 := 0) lawQn
    rw [hs2.1, hs2.2 (i + 1) (by omega) (by omega)] at Bk
    refine Bk ⟨?_, ?_, ?_⟩ <;> try omega
    refine V_sE (mq_count hS2 (fun M3 b h3' hm hs3 => ?_))
    rw [ea] at hm
    obtain ⟨t0, rfl⟩ := hm
    refine B_L_law_365 (x5 := 0) lawQn ?_
    refine B_X10_thrown_0 ?_
    rw [t0]
    have ho : M3 137 0 = b := by rw [h3'.1 137 (by omega) (by omega)]; exact hv
    refine B_L_law_371 (x5 := 0) (x6 := b) lawQn ⟨fun _ => ⟨fun h => absurd rfl h, fun _ => ⟨fun _ => hn c K N M3 (mI 0) (mI b) (hS2.km h3') (by omega) (hs2.tr hs3), fun h => ?_⟩⟩, fun h => absurd rfl h⟩
    exact absurd (by rw [ho]; simp) h
  · have he : e = 1 := by
      unfold an_count at ha
      split at ha <;> first | (cases ha; done) | (cases ha; rfl) | (split at ha <;> first | (cases ha; done) | (cases ha; rfl) | (split at ha <;> first | (cases ha; done) | (cases ha; rfl)))
    subst he
    refine ⟨1, rfl, ?_⟩
    show V (d + 62) (k - 3) qL_law 353 [mE 2, mR 17 15 0, mR 18 58 112, mR 1 1 137, mI i, u5, u6] [mI 1] M1 lawQ
    have ea : an_count c K M1 (M (-1) (i + 1)) = .inr 1 := by rw [ind_count, hA, ← ind_count]; exact ha
    have Bk := B_L_law_353 (d := d + 60) (k := k - 3) (M := M1) (Q := lawQ) (x4 := i) (u5 := u5) (u6 := u6) (sx0 := 1) lawQn
    rw [hs1.1, hs1.2 (i + 1) (by omega) (by omega)] at Bk
    refine Bk ⟨?_, ?_, ?_⟩ <;> try omega
    refine V_sE (mq_count hS1 (fun M3 b h3' hm hs3 => ?_))
    rw [ea] at hm
    have t0 : M3 112 5 = 1 := hm
    refine B_L_law_365 (x5 := 1) lawQn ?_
    refine B_X10_thrown_0 ?_
    rw [t0]
    exact B_L_law_371 (x5 := 1) (x6 := b) lawQn ⟨fun _ => ⟨fun _ => hn c K N M3 (mI 1) (mI b) (hS1.km h3') (by omega) (hs1.tr hs3), fun h => absurd h (by omega)⟩, fun h => absurd rfl h⟩
theorem ind_sort {K : Nat} {M : mM} {y0 y1 : Int} : an_sort K M y0 y1 = an_sort K (nrm M) y0 y1 := rfl
set_option maxHeartbeats 1000000 in
theorem lc_sort {d k : Nat} {c : Int} {K : Nat} {N : Int} {M : mM} {i : Int} {u5 u6 : mV} (hS : St c K N M) (hi : 0 ≤ i) (hL : i + 5 < M (-1) (-1)) (h3 : M (-1) (-1) ≤ 3072) (hR : ∀ j : Int, 0 ≤ j → j < M (-1) (-1) → r32 (M (-1) j)) (hk : 3 ≤ k)
    (hn : ∀ (c' : Int) (K' : Nat) (N' : Int) (M' : mM) (u5 u6 : mV), St c' K' N' M' → N' ≤ N + 1 → sE M M' → V (d + 62) (k - 3) qL_law 1989 [mE 2, mR 17 15 0, mR 18 58 112, mR 1 1 137, mI i, u5, u6] [] M' lawQ) : V (d + 62) k qL_law 398 [mE 2, mR 17 15 0, mR 18 58 112, mR 1 1 137, mI i, u5, u6] [] M lawQ := by
  refine B_L_law_398 lawQn ⟨?_, ?_, ?_, ?_, ?_, ?_⟩ <;> try omega
  refine V_sE (xq_sort hS (fun M1 h1 hs1 => ?_))
  have hS1 := hS.kx h1
  have hA : nrm M1 = nrm M := nrm_x h1
  generalize ha : an_sort K M (M (-1) (i + 1)) (M (-1) (i + 2)) = a
  rcases a with v | e
  · show V (d + 62) (k - 3) qL_law 415 [mE 2, mR 17 15 0, mR 18 58 112, mR 1 1 137, mI i, u5, u6] [mI 0] (mUp M1 137 0 v) lawQ
    have hS2 : St c K N (mUp M1 137 0 v) := hS1.o
    have hs2 : sE M (mUp M1 137 0 v) := hs1.o
    have hB : nrm (mUp M1 137 0 v) = nrm M := nrm_o.trans hA
    have hv : (mUp M1 137 0 v) 137 0 = v := up_s
    revert hS2 hs2 hB hv
    generalize mUp M1 137 0 v = M2
    intro hS2 hs2 hB hv
    have ea : an_sort K M2 (M (-1) (i + 1)) (M (-1) (i + 2)) = .inl v := by rw [ind_sort, hB, ← ind_sort]; exact ha
    have Bk := B_L_law_415 (d := d + 60) (k := k - 3) (M := M2) (Q := lawQ) (x4 := i) (u5 := u5) (u6 := u6) (sx0 := 0) lawQn
    rw [hs2.1, hs2.2 (i + 1) (by omega) (by omega), hs2.2 (i + 2) (by omega) (by omega)] at Bk
    refine Bk ⟨?_, ?_, ?_, ?_, ?_⟩ <;> try omega
    refine V_sE (mq_sort hS2 (fun M3 b h3' hm hs3 => ?_))
    rw [ea] at hm
    obtain ⟨t0, rfl⟩ := hm
    refine B_L_law_433 (x5 := 0) lawQn ?_
    refine B_X10_thrown_0 ?_
    rw [t0]
    have ho : M3 137 0 = b := by rw [h3'.1 137 (by omega) (by omega)]; exact hv
    refine B_L_law_439 (x5 := 0) (x6 := b) lawQn ⟨fun _ => ⟨fun h => absurd rfl h, fun _ => ⟨fun _ => hn c K N M3 (mI 0) (mI b) (hS2.km h3') (by omega) (hs2.tr hs3), fun h => ?_⟩⟩, fun h => absurd rfl h⟩
    exact absurd (by rw [ho]; simp) h
  · have he : e = 1 := by
      unfold an_sort at ha
      split at ha <;> first | (cases ha; done) | (cases ha; rfl) | (split at ha <;> first | (cases ha; done) | (cases ha; rfl) | (split at ha <;> first | (cases ha; done) | (cases ha; rfl)))
    subst he
    refine ⟨1, rfl, ?_⟩
    show V (d + 62) (k - 3) qL_law 415 [mE 2, mR 17 15 0, mR 18 58 112, mR 1 1 137, mI i, u5, u6] [mI 1] M1 lawQ
    have ea : an_sort K M1 (M (-1) (i + 1)) (M (-1) (i + 2)) = .inr 1 := by rw [ind_sort, hA, ← ind_sort]; exact ha
    have Bk := B_L_law_415 (d := d + 60) (k := k - 3) (M := M1) (Q := lawQ) (x4 := i) (u5 := u5) (u6 := u6) (sx0 := 1) lawQn
    rw [hs1.1, hs1.2 (i + 1) (by omega) (by omega), hs1.2 (i + 2) (by omega) (by omega)] at Bk
    refine Bk ⟨?_, ?_, ?_, ?_, ?_⟩ <;> try omega
    refine V_sE (mq_sort hS1 (fun M3 b h3' hm hs3 => ?_))
    rw [ea] at hm
    have t0 : M3 112 5 = 1 := hm
    refine B_L_law_433 (x5 := 1) lawQn ?_
    refine B_X10_thrown_0 ?_
    rw [t0]
    exact B_L_law_439 (x5 := 1) (x6 := b) lawQn ⟨fun _ => ⟨fun _ => hn c K N M3 (mI 1) (mI b) (hS1.km h3') (by omega) (hs1.tr hs3), fun h => absurd h (by omega)⟩, fun h => absurd rfl h⟩
theorem ind_bin {K : Nat} {M : mM} {y0 y1 : Int} : an_bin K M y0 y1 = an_bin K (nrm M) y0 y1 := rfl
set_option maxHeartbeats 1000000 in
theorem lc_bin {d k : Nat} {c : Int} {K : Nat} {N : Int} {M : mM} {i : Int} {u5 u6 : mV} (hS : St c K N M) (hi : 0 ≤ i) (hL : i + 5 < M (-1) (-1)) (h3 : M (-1) (-1) ≤ 3072) (hR : ∀ j : Int, 0 ≤ j → j < M (-1) (-1) → r32 (M (-1) j)) (hk : 3 ≤ k)
    (hn : ∀ (c' : Int) (K' : Nat) (N' : Int) (M' : mM) (u5 u6 : mV), St c' K' N' M' → N' ≤ N + 1 → sE M M' → V (d + 62) (k - 3) qL_law 1989 [mE 2, mR 17 15 0, mR 18 58 112, mR 1 1 137, mI i, u5, u6] [] M' lawQ) : V (d + 62) k qL_law 466 [mE 2, mR 17 15 0, mR 18 58 112, mR 1 1 137, mI i, u5, u6] [] M lawQ := by
  refine B_L_law_466 lawQn ⟨?_, ?_, ?_, ?_, ?_, ?_⟩ <;> try omega
  refine V_sE (xq_bin hS (fun M1 h1 hs1 => ?_))
  have hS1 := hS.kx h1
  have hA : nrm M1 = nrm M := nrm_x h1
  generalize ha : an_bin K M (M (-1) (i + 1)) (M (-1) (i + 2)) = a
  rcases a with v | e
  · show V (d + 62) (k - 3) qL_law 483 [mE 2, mR 17 15 0, mR 18 58 112, mR 1 1 137, mI i, u5, u6] [mI 0] (mUp M1 137 0 v) lawQ
    have hS2 : St c K N (mUp M1 137 0 v) := hS1.o
    have hs2 : sE M (mUp M1 137 0 v) := hs1.o
    have hB : nrm (mUp M1 137 0 v) = nrm M := nrm_o.trans hA
    have hv : (mUp M1 137 0 v) 137 0 = v := up_s
    revert hS2 hs2 hB hv
    generalize mUp M1 137 0 v = M2
    intro hS2 hs2 hB hv
    have ea : an_bin K M2 (M (-1) (i + 1)) (M (-1) (i + 2)) = .inl v := by rw [ind_bin, hB, ← ind_bin]; exact ha
    have Bk := B_L_law_483 (d := d + 60) (k := k - 3) (M := M2) (Q := lawQ) (x4 := i) (u5 := u5) (u6 := u6) (sx0 := 0) lawQn
    rw [hs2.1, hs2.2 (i + 1) (by omega) (by omega), hs2.2 (i + 2) (by omega) (by omega)] at Bk
    refine Bk ⟨?_, ?_, ?_, ?_, ?_⟩ <;> try omega
    refine V_sE (mq_bin hS2 (fun M3 b h3' hm hs3 => ?_))
    rw [ea] at hm
    obtain ⟨t0, rfl⟩ := hm
    refine B_L_law_501 (x5 := 0) lawQn ?_
    refine B_X10_thrown_0 ?_
    rw [t0]
    have ho : M3 137 0 = b := by rw [h3'.1 137 (by omega) (by omega)]; exact hv
    refine B_L_law_507 (x5 := 0) (x6 := b) lawQn ⟨fun _ => ⟨fun h => absurd rfl h, fun _ => ⟨fun _ => hn c K N M3 (mI 0) (mI b) (hS2.km h3') (by omega) (hs2.tr hs3), fun h => ?_⟩⟩, fun h => absurd rfl h⟩
    exact absurd (by rw [ho]; simp) h
  · have he : e = 1 := by
      unfold an_bin at ha
      split at ha <;> first | (cases ha; done) | (cases ha; rfl) | (split at ha <;> first | (cases ha; done) | (cases ha; rfl) | (split at ha <;> first | (cases ha; done) | (cases ha; rfl)))
    subst he
    refine ⟨1, rfl, ?_⟩
    show V (d + 62) (k - 3) qL_law 483 [mE 2, mR 17 15 0, mR 18 58 112, mR 1 1 137, mI i, u5, u6] [mI 1] M1 lawQ
    have ea : an_bin K M1 (M (-1) (i + 1)) (M (-1) (i + 2)) = .inr 1 := by rw [ind_bin, hA, ← ind_bin]; exact ha
    have Bk := B_L_law_483 (d := d + 60) (k := k - 3) (M := M1) (Q := lawQ) (x4 := i) (u5 := u5) (u6 := u6) (sx0 := 1) lawQn
    rw [hs1.1, hs1.2 (i + 1) (by omega) (by omega), hs1.2 (i + 2) (by omega) (by omega)] at Bk
    refine Bk ⟨?_, ?_, ?_, ?_, ?_⟩ <;> try omega
    refine V_sE (mq_bin hS1 (fun M3 b h3' hm hs3 => ?_))
    rw [ea] at hm
    have t0 : M3 112 5 = 1 := hm
    refine B_L_law_501 (x5 := 1) lawQn ?_
    refine B_X10_thrown_0 ?_
    rw [t0]
    exact B_L_law_507 (x5 := 1) (x6 := b) lawQn ⟨fun _ => ⟨fun _ => hn c K N M3 (mI 1) (mI b) (hS1.km h3') (by omega) (hs1.tr hs3), fun h => absurd h (by omega)⟩, fun h => absurd rfl h⟩
theorem ind_rule {c : Int} {K : Nat} {M : mM} {y0 : Int} : an_rule c K M y0 = an_rule c K (nrm M) y0 := rfl
set_option maxHeartbeats 1000000 in
theorem lc_rule {d k : Nat} {c : Int} {K : Nat} {N : Int} {M : mM} {i : Int} {u5 u6 : mV} (hS : St c K N M) (hi : 0 ≤ i) (hL : i + 5 < M (-1) (-1)) (h3 : M (-1) (-1) ≤ 3072) (hR : ∀ j : Int, 0 ≤ j → j < M (-1) (-1) → r32 (M (-1) j)) (hk : 3 ≤ k)
    (hn : ∀ (c' : Int) (K' : Nat) (N' : Int) (M' : mM) (u5 u6 : mV), St c' K' N' M' → N' ≤ N + 1 → sE M M' → V (d + 62) (k - 3) qL_law 1989 [mE 2, mR 17 15 0, mR 18 58 112, mR 1 1 137, mI i, u5, u6] [] M' lawQ) : V (d + 62) k qL_law 534 [mE 2, mR 17 15 0, mR 18 58 112, mR 1 1 137, mI i, u5, u6] [] M lawQ := by
  refine B_L_law_534 lawQn ⟨?_, ?_, ?_, ?_⟩ <;> try omega
  refine V_sE (xq_rule hS (fun M1 h1 hs1 => ?_))
  have hS1 := hS.kx h1
  have hA : nrm M1 = nrm M := nrm_x h1
  generalize ha : an_rule c K M (M (-1) (i + 1)) = a
  rcases a with v | e
  · show V (d + 62) (k - 3) qL_law 545 [mE 2, mR 17 15 0, mR 18 58 112, mR 1 1 137, mI i, u5, u6] [mI 0] (mUp M1 137 0 v) lawQ
    have hS2 : St c K N (mUp M1 137 0 v) := hS1.o
    have hs2 : sE M (mUp M1 137 0 v) := hs1.o
    have hB : nrm (mUp M1 137 0 v) = nrm M := nrm_o.trans hA
    have hv : (mUp M1 137 0 v) 137 0 = v := up_s
    revert hS2 hs2 hB hv
    generalize mUp M1 137 0 v = M2
    intro hS2 hs2 hB hv
    have ea : an_rule c K M2 (M (-1) (i + 1)) = .inl v := by rw [ind_rule, hB, ← ind_rule]; exact ha
    have Bk := B_L_law_545 (d := d + 60) (k := k - 3) (M := M2) (Q := lawQ) (x4 := i) (u5 := u5) (u6 := u6) (sx0 := 0) lawQn
    rw [hs2.1, hs2.2 (i + 1) (by omega) (by omega)] at Bk
    refine Bk ⟨?_, ?_, ?_⟩ <;> try omega
    refine V_sE (mq_rule hS2 (fun M3 b h3' hm hs3 => ?_))
    rw [ea] at hm
    obtain ⟨t0, rfl⟩ := hm
    refine B_L_law_557 (x5 := 0) lawQn ?_
    refine B_X10_thrown_0 ?_
    rw [t0]
    have ho : M3 137 0 = b := by rw [h3'.1 137 (by omega) (by omega)]; exact hv
    refine B_L_law_563 (x5 := 0) (x6 := b) lawQn ⟨fun _ => ⟨fun h => absurd rfl h, fun _ => ⟨fun _ => hn c K N M3 (mI 0) (mI b) (hS2.km h3') (by omega) (hs2.tr hs3), fun h => ?_⟩⟩, fun h => absurd rfl h⟩
    exact absurd (by rw [ho]; simp) h
  · have he : e = 1 := by
      unfold an_rule at ha
      split at ha <;> first | (cases ha; done) | (cases ha; rfl) | (split at ha <;> first | (cases ha; done) | (cases ha; rfl) | (split at ha <;> first | (cases ha; done) | (cases ha; rfl)))
    subst he
    refine ⟨1, rfl, ?_⟩
    show V (d + 62) (k - 3) qL_law 545 [mE 2, mR 17 15 0, mR 18 58 112, mR 1 1 137, mI i, u5, u6] [mI 1] M1 lawQ
    have ea : an_rule c K M1 (M (-1) (i + 1)) = .inr 1 := by rw [ind_rule, hA, ← ind_rule]; exact ha
    have Bk := B_L_law_545 (d := d + 60) (k := k - 3) (M := M1) (Q := lawQ) (x4 := i) (u5 := u5) (u6 := u6) (sx0 := 1) lawQn
    rw [hs1.1, hs1.2 (i + 1) (by omega) (by omega)] at Bk
    refine Bk ⟨?_, ?_, ?_⟩ <;> try omega
    refine V_sE (mq_rule hS1 (fun M3 b h3' hm hs3 => ?_))
    rw [ea] at hm
    have t0 : M3 112 5 = 1 := hm
    refine B_L_law_557 (x5 := 1) lawQn ?_
    refine B_X10_thrown_0 ?_
    rw [t0]
    exact B_L_law_563 (x5 := 1) (x6 := b) lawQn ⟨fun _ => ⟨fun _ => hn c K N M3 (mI 1) (mI b) (hS1.km h3') (by omega) (hs1.tr hs3), fun h => absurd h (by omega)⟩, fun h => absurd rfl h⟩
theorem ind_into {c : Int} {K : Nat} {M : mM} {y0 y1 : Int} : an_into c K M y0 y1 = an_into c K (nrm M) y0 y1 := rfl
set_option maxHeartbeats 1000000 in
theorem lc_into {d k : Nat} {c : Int} {K : Nat} {N : Int} {M : mM} {i : Int} {u5 u6 : mV} (hS : St c K N M) (hi : 0 ≤ i) (hL : i + 5 < M (-1) (-1)) (h3 : M (-1) (-1) ≤ 3072) (hR : ∀ j : Int, 0 ≤ j → j < M (-1) (-1) → r32 (M (-1) j)) (hk : 3 ≤ k)
    (hn : ∀ (c' : Int) (K' : Nat) (N' : Int) (M' : mM) (u5 u6 : mV), St c' K' N' M' → N' ≤ N + 1 → sE M M' → V (d + 62) (k - 3) qL_law 1989 [mE 2, mR 17 15 0, mR 18 58 112, mR 1 1 137, mI i, u5, u6] [] M' lawQ) : V (d + 62) k qL_law 590 [mE 2, mR 17 15 0, mR 18 58 112, mR 1 1 137, mI i, u5, u6] [] M lawQ := by
  refine B_L_law_590 lawQn ⟨?_, ?_, ?_, ?_, ?_, ?_⟩ <;> try omega
  refine V_sE (xq_into hS (fun M1 h1 hs1 => ?_))
  have hS1 := hS.kx h1
  have hA : nrm M1 = nrm M := nrm_x h1
  generalize ha : an_into c K M (M (-1) (i + 1)) (M (-1) (i + 2)) = a
  rcases a with v | e
  · show V (d + 62) (k - 3) qL_law 607 [mE 2, mR 17 15 0, mR 18 58 112, mR 1 1 137, mI i, u5, u6] [mI 0] (mUp M1 137 0 v) lawQ
    have hS2 : St c K N (mUp M1 137 0 v) := hS1.o
    have hs2 : sE M (mUp M1 137 0 v) := hs1.o
    have hB : nrm (mUp M1 137 0 v) = nrm M := nrm_o.trans hA
    have hv : (mUp M1 137 0 v) 137 0 = v := up_s
    revert hS2 hs2 hB hv
    generalize mUp M1 137 0 v = M2
    intro hS2 hs2 hB hv
    have ea : an_into c K M2 (M (-1) (i + 1)) (M (-1) (i + 2)) = .inl v := by rw [ind_into, hB, ← ind_into]; exact ha
    have Bk := B_L_law_607 (d := d + 60) (k := k - 3) (M := M2) (Q := lawQ) (x4 := i) (u5 := u5) (u6 := u6) (sx0 := 0) lawQn
    rw [hs2.1, hs2.2 (i + 1) (by omega) (by omega), hs2.2 (i + 2) (by omega) (by omega)] at Bk
    refine Bk ⟨?_, ?_, ?_, ?_, ?_⟩ <;> try omega
    refine V_sE (mq_into hS2 (fun M3 b h3' hm hs3 => ?_))
    rw [ea] at hm
    obtain ⟨t0, rfl⟩ := hm
    refine B_L_law_625 (x5 := 0) lawQn ?_
    refine B_X10_thrown_0 ?_
    rw [t0]
    have ho : M3 137 0 = b := by rw [h3'.1 137 (by omega) (by omega)]; exact hv
    refine B_L_law_631 (x5 := 0) (x6 := b) lawQn ⟨fun _ => ⟨fun h => absurd rfl h, fun _ => ⟨fun _ => hn c K N M3 (mI 0) (mI b) (hS2.km h3') (by omega) (hs2.tr hs3), fun h => ?_⟩⟩, fun h => absurd rfl h⟩
    exact absurd (by rw [ho]; simp) h
  · have he : e = 1 := by
      unfold an_into at ha
      split at ha <;> first | (cases ha; done) | (cases ha; rfl) | (split at ha <;> first | (cases ha; done) | (cases ha; rfl) | (split at ha <;> first | (cases ha; done) | (cases ha; rfl)))
    subst he
    refine ⟨1, rfl, ?_⟩
    show V (d + 62) (k - 3) qL_law 607 [mE 2, mR 17 15 0, mR 18 58 112, mR 1 1 137, mI i, u5, u6] [mI 1] M1 lawQ
    have ea : an_into c K M1 (M (-1) (i + 1)) (M (-1) (i + 2)) = .inr 1 := by rw [ind_into, hA, ← ind_into]; exact ha
    have Bk := B_L_law_607 (d := d + 60) (k := k - 3) (M := M1) (Q := lawQ) (x4 := i) (u5 := u5) (u6 := u6) (sx0 := 1) lawQn
    rw [hs1.1, hs1.2 (i + 1) (by omega) (by omega), hs1.2 (i + 2) (by omega) (by omega)] at Bk
    refine Bk ⟨?_, ?_, ?_, ?_, ?_⟩ <;> try omega
    refine V_sE (mq_into hS1 (fun M3 b h3' hm hs3 => ?_))
    rw [ea] at hm
    have t0 : M3 112 5 = 1 := hm
    refine B_L_law_625 (x5 := 1) lawQn ?_
    refine B_X10_thrown_0 ?_
    rw [t0]
    exact B_L_law_631 (x5 := 1) (x6 := b) lawQn ⟨fun _ => ⟨fun _ => hn c K N M3 (mI 1) (mI b) (hS1.km h3') (by omega) (hs1.tr hs3), fun h => absurd h (by omega)⟩, fun h => absurd rfl h⟩
theorem ind_guar {c : Int} {K : Nat} {M : mM} {y0 : Int} : an_guar c K M y0 = an_guar c K (nrm M) y0 := rfl
set_option maxHeartbeats 1000000 in
theorem lc_guaranteed {d k : Nat} {c : Int} {K : Nat} {N : Int} {M : mM} {i : Int} {u5 u6 : mV} (hS : St c K N M) (hi : 0 ≤ i) (hL : i + 5 < M (-1) (-1)) (h3 : M (-1) (-1) ≤ 3072) (hR : ∀ j : Int, 0 ≤ j → j < M (-1) (-1) → r32 (M (-1) j)) (hk : 3 ≤ k)
    (hn : ∀ (c' : Int) (K' : Nat) (N' : Int) (M' : mM) (u5 u6 : mV), St c' K' N' M' → N' ≤ N + 1 → sE M M' → V (d + 62) (k - 3) qL_law 1989 [mE 2, mR 17 15 0, mR 18 58 112, mR 1 1 137, mI i, u5, u6] [] M' lawQ) : V (d + 62) k qL_law 658 [mE 2, mR 17 15 0, mR 18 58 112, mR 1 1 137, mI i, u5, u6] [] M lawQ := by
  refine B_L_law_658 lawQn ⟨?_, ?_, ?_, ?_⟩ <;> try omega
  refine V_sE (xq_guar hS (fun M1 h1 hs1 => ?_))
  have hS1 := hS.kx h1
  have hA : nrm M1 = nrm M := nrm_x h1
  generalize ha : an_guar c K M (M (-1) (i + 1)) = a
  rcases a with v | e
  · show V (d + 62) (k - 3) qL_law 669 [mE 2, mR 17 15 0, mR 18 58 112, mR 1 1 137, mI i, u5, u6] [mI 0] (mUp M1 137 0 v) lawQ
    have hS2 : St c K N (mUp M1 137 0 v) := hS1.o
    have hs2 : sE M (mUp M1 137 0 v) := hs1.o
    have hB : nrm (mUp M1 137 0 v) = nrm M := nrm_o.trans hA
    have hv : (mUp M1 137 0 v) 137 0 = v := up_s
    revert hS2 hs2 hB hv
    generalize mUp M1 137 0 v = M2
    intro hS2 hs2 hB hv
    have ea : an_guar c K M2 (M (-1) (i + 1)) = .inl v := by rw [ind_guar, hB, ← ind_guar]; exact ha
    have Bk := B_L_law_669 (d := d + 60) (k := k - 3) (M := M2) (Q := lawQ) (x4 := i) (u5 := u5) (u6 := u6) (sx0 := 0) lawQn
    rw [hs2.1, hs2.2 (i + 1) (by omega) (by omega)] at Bk
    refine Bk ⟨?_, ?_, ?_⟩ <;> try omega
    refine V_sE (mq_guar hS2 (fun M3 b h3' hm hs3 => ?_))
    rw [ea] at hm
    obtain ⟨t0, rfl⟩ := hm
    refine B_L_law_681 (x5 := 0) lawQn ?_
    refine B_X10_thrown_0 ?_
    rw [t0]
    have ho : M3 137 0 = b := by rw [h3'.1 137 (by omega) (by omega)]; exact hv
    refine B_L_law_687 (x5 := 0) (x6 := b) lawQn ⟨fun _ => ⟨fun h => absurd rfl h, fun _ => ⟨fun _ => hn c K N M3 (mI 0) (mI b) (hS2.km h3') (by omega) (hs2.tr hs3), fun h => ?_⟩⟩, fun h => absurd rfl h⟩
    exact absurd (by rw [ho]; simp) h
  · have he : e = 1 := by
      unfold an_guar at ha
      split at ha <;> first | (cases ha; done) | (cases ha; rfl) | (split at ha <;> first | (cases ha; done) | (cases ha; rfl) | (split at ha <;> first | (cases ha; done) | (cases ha; rfl)))
    subst he
    refine ⟨1, rfl, ?_⟩
    show V (d + 62) (k - 3) qL_law 669 [mE 2, mR 17 15 0, mR 18 58 112, mR 1 1 137, mI i, u5, u6] [mI 1] M1 lawQ
    have ea : an_guar c K M1 (M (-1) (i + 1)) = .inr 1 := by rw [ind_guar, hA, ← ind_guar]; exact ha
    have Bk := B_L_law_669 (d := d + 60) (k := k - 3) (M := M1) (Q := lawQ) (x4 := i) (u5 := u5) (u6 := u6) (sx0 := 1) lawQn
    rw [hs1.1, hs1.2 (i + 1) (by omega) (by omega)] at Bk
    refine Bk ⟨?_, ?_, ?_⟩ <;> try omega
    refine V_sE (mq_guar hS1 (fun M3 b h3' hm hs3 => ?_))
    rw [ea] at hm
    have t0 : M3 112 5 = 1 := hm
    refine B_L_law_681 (x5 := 1) lawQn ?_
    refine B_X10_thrown_0 ?_
    rw [t0]
    exact B_L_law_687 (x5 := 1) (x6 := b) lawQn ⟨fun _ => ⟨fun _ => hn c K N M3 (mI 1) (mI b) (hS1.km h3') (by omega) (hs1.tr hs3), fun h => absurd h (by omega)⟩, fun h => absurd rfl h⟩
theorem ind_bound {c : Int} {K : Nat} {M : mM} {y0 : Int} : an_bound c K M y0 = an_bound c K (nrm M) y0 := rfl
set_option maxHeartbeats 1000000 in
theorem lc_bound {d k : Nat} {c : Int} {K : Nat} {N : Int} {M : mM} {i : Int} {u5 u6 : mV} (hS : St c K N M) (hi : 0 ≤ i) (hL : i + 5 < M (-1) (-1)) (h3 : M (-1) (-1) ≤ 3072) (hR : ∀ j : Int, 0 ≤ j → j < M (-1) (-1) → r32 (M (-1) j)) (hk : 3 ≤ k)
    (hn : ∀ (c' : Int) (K' : Nat) (N' : Int) (M' : mM) (u5 u6 : mV), St c' K' N' M' → N' ≤ N + 1 → sE M M' → V (d + 62) (k - 3) qL_law 1989 [mE 2, mR 17 15 0, mR 18 58 112, mR 1 1 137, mI i, u5, u6] [] M' lawQ) : V (d + 62) k qL_law 714 [mE 2, mR 17 15 0, mR 18 58 112, mR 1 1 137, mI i, u5, u6] [] M lawQ := by
  refine B_L_law_714 lawQn ⟨?_, ?_, ?_, ?_⟩ <;> try omega
  refine V_sE (xq_bound hS (fun M1 h1 hs1 => ?_))
  have hS1 := hS.kx h1
  have hA : nrm M1 = nrm M := nrm_x h1
  generalize ha : an_bound c K M (M (-1) (i + 1)) = a
  rcases a with v | e
  · show V (d + 62) (k - 3) qL_law 725 [mE 2, mR 17 15 0, mR 18 58 112, mR 1 1 137, mI i, u5, u6] [mI 0] (mUp M1 137 0 v) lawQ
    have hS2 : St c K N (mUp M1 137 0 v) := hS1.o
    have hs2 : sE M (mUp M1 137 0 v) := hs1.o
    have hB : nrm (mUp M1 137 0 v) = nrm M := nrm_o.trans hA
    have hv : (mUp M1 137 0 v) 137 0 = v := up_s
    revert hS2 hs2 hB hv
    generalize mUp M1 137 0 v = M2
    intro hS2 hs2 hB hv
    have ea : an_bound c K M2 (M (-1) (i + 1)) = .inl v := by rw [ind_bound, hB, ← ind_bound]; exact ha
    have Bk := B_L_law_725 (d := d + 60) (k := k - 3) (M := M2) (Q := lawQ) (x4 := i) (u5 := u5) (u6 := u6) (sx0 := 0) lawQn
    rw [hs2.1, hs2.2 (i + 1) (by omega) (by omega)] at Bk
    refine Bk ⟨?_, ?_, ?_⟩ <;> try omega
    refine V_sE (mq_bound hS2 (fun M3 b h3' hm hs3 => ?_))
    rw [ea] at hm
    obtain ⟨t0, rfl⟩ := hm
    refine B_L_law_737 (x5 := 0) lawQn ?_
    refine B_X10_thrown_0 ?_
    rw [t0]
    have ho : M3 137 0 = b := by rw [h3'.1 137 (by omega) (by omega)]; exact hv
    refine B_L_law_743 (x5 := 0) (x6 := b) lawQn ⟨fun _ => ⟨fun h => absurd rfl h, fun _ => ⟨fun _ => hn c K N M3 (mI 0) (mI b) (hS2.km h3') (by omega) (hs2.tr hs3), fun h => ?_⟩⟩, fun h => absurd rfl h⟩
    exact absurd (by rw [ho]; simp) h
  · have he : e = 1 := by
      unfold an_bound at ha
      split at ha <;> first | (cases ha; done) | (cases ha; rfl) | (split at ha <;> first | (cases ha; done) | (cases ha; rfl) | (split at ha <;> first | (cases ha; done) | (cases ha; rfl)))
    subst he
    refine ⟨1, rfl, ?_⟩
    show V (d + 62) (k - 3) qL_law 725 [mE 2, mR 17 15 0, mR 18 58 112, mR 1 1 137, mI i, u5, u6] [mI 1] M1 lawQ
    have ea : an_bound c K M1 (M (-1) (i + 1)) = .inr 1 := by rw [ind_bound, hA, ← ind_bound]; exact ha
    have Bk := B_L_law_725 (d := d + 60) (k := k - 3) (M := M1) (Q := lawQ) (x4 := i) (u5 := u5) (u6 := u6) (sx0 := 1) lawQn
    rw [hs1.1, hs1.2 (i + 1) (by omega) (by omega)] at Bk
    refine Bk ⟨?_, ?_, ?_⟩ <;> try omega
    refine V_sE (mq_bound hS1 (fun M3 b h3' hm hs3 => ?_))
    rw [ea] at hm
    have t0 : M3 112 5 = 1 := hm
    refine B_L_law_737 (x5 := 1) lawQn ?_
    refine B_X10_thrown_0 ?_
    rw [t0]
    exact B_L_law_743 (x5 := 1) (x6 := b) lawQn ⟨fun _ => ⟨fun _ => hn c K N M3 (mI 1) (mI b) (hS1.km h3') (by omega) (hs1.tr hs3), fun h => absurd h (by omega)⟩, fun h => absurd rfl h⟩
theorem ind_split {c : Int} {K : Nat} {M : mM} {y0 : Int} : an_split c K M y0 = an_split c K (nrm M) y0 := rfl
set_option maxHeartbeats 1000000 in
theorem lc_split {d k : Nat} {c : Int} {K : Nat} {N : Int} {M : mM} {i : Int} {u5 u6 : mV} (hS : St c K N M) (hi : 0 ≤ i) (hL : i + 5 < M (-1) (-1)) (h3 : M (-1) (-1) ≤ 3072) (hR : ∀ j : Int, 0 ≤ j → j < M (-1) (-1) → r32 (M (-1) j)) (hk : 3 ≤ k)
    (hn : ∀ (c' : Int) (K' : Nat) (N' : Int) (M' : mM) (u5 u6 : mV), St c' K' N' M' → N' ≤ N + 1 → sE M M' → V (d + 62) (k - 3) qL_law 1989 [mE 2, mR 17 15 0, mR 18 58 112, mR 1 1 137, mI i, u5, u6] [] M' lawQ) : V (d + 62) k qL_law 770 [mE 2, mR 17 15 0, mR 18 58 112, mR 1 1 137, mI i, u5, u6] [] M lawQ := by
  refine B_L_law_770 lawQn ⟨?_, ?_, ?_, ?_⟩ <;> try omega
  refine V_sE (xq_split hS (fun M1 h1 hs1 => ?_))
  have hS1 := hS.kx h1
  have hA : nrm M1 = nrm M := nrm_x h1
  generalize ha : an_split c K M (M (-1) (i + 1)) = a
  rcases a with v | e
  · show V (d + 62) (k - 3) qL_law 781 [mE 2, mR 17 15 0, mR 18 58 112, mR 1 1 137, mI i, u5, u6] [mI 0] (mUp M1 137 0 v) lawQ
    have hS2 : St c K N (mUp M1 137 0 v) := hS1.o
    have hs2 : sE M (mUp M1 137 0 v) := hs1.o
    have hB : nrm (mUp M1 137 0 v) = nrm M := nrm_o.trans hA
    have hv : (mUp M1 137 0 v) 137 0 = v := up_s
    revert hS2 hs2 hB hv
    generalize mUp M1 137 0 v = M2
    intro hS2 hs2 hB hv
    have ea : an_split c K M2 (M (-1) (i + 1)) = .inl v := by rw [ind_split, hB, ← ind_split]; exact ha
    have Bk := B_L_law_781 (d := d + 60) (k := k - 3) (M := M2) (Q := lawQ) (x4 := i) (u5 := u5) (u6 := u6) (sx0 := 0) lawQn
    rw [hs2.1, hs2.2 (i + 1) (by omega) (by omega)] at Bk
    refine Bk ⟨?_, ?_, ?_⟩ <;> try omega
    refine V_sE (mq_split hS2 (fun M3 b h3' hm hs3 => ?_))
    rw [ea] at hm
    obtain ⟨t0, rfl⟩ := hm
    refine B_L_law_793 (x5 := 0) lawQn ?_
    refine B_X10_thrown_0 ?_
    rw [t0]
    have ho : M3 137 0 = b := by rw [h3'.1 137 (by omega) (by omega)]; exact hv
    refine B_L_law_799 (x5 := 0) (x6 := b) lawQn ⟨fun _ => ⟨fun h => absurd rfl h, fun _ => ⟨fun _ => hn c K N M3 (mI 0) (mI b) (hS2.km h3') (by omega) (hs2.tr hs3), fun h => ?_⟩⟩, fun h => absurd rfl h⟩
    exact absurd (by rw [ho]; simp) h
  · have he : e = 2 := by
      unfold an_split at ha
      split at ha <;> first | (cases ha; done) | (cases ha; rfl) | (split at ha <;> first | (cases ha; done) | (cases ha; rfl) | (split at ha <;> first | (cases ha; done) | (cases ha; rfl)))
    subst he
    refine ⟨1, rfl, ?_⟩
    show V (d + 62) (k - 3) qL_law 781 [mE 2, mR 17 15 0, mR 18 58 112, mR 1 1 137, mI i, u5, u6] [mI 1] M1 lawQ
    have ea : an_split c K M1 (M (-1) (i + 1)) = .inr 2 := by rw [ind_split, hA, ← ind_split]; exact ha
    have Bk := B_L_law_781 (d := d + 60) (k := k - 3) (M := M1) (Q := lawQ) (x4 := i) (u5 := u5) (u6 := u6) (sx0 := 1) lawQn
    rw [hs1.1, hs1.2 (i + 1) (by omega) (by omega)] at Bk
    refine Bk ⟨?_, ?_, ?_⟩ <;> try omega
    refine V_sE (mq_split hS1 (fun M3 b h3' hm hs3 => ?_))
    rw [ea] at hm
    have t0 : M3 112 5 = 1 := hm
    refine B_L_law_793 (x5 := 1) lawQn ?_
    refine B_X10_thrown_0 ?_
    rw [t0]
    exact B_L_law_799 (x5 := 1) (x6 := b) lawQn ⟨fun _ => ⟨fun _ => hn c K N M3 (mI 1) (mI b) (hS1.km h3') (by omega) (hs1.tr hs3), fun h => absurd h (by omega)⟩, fun h => absurd rfl h⟩
theorem ind_step {c : Int} {K : Nat} {M : mM} {y0 : Int} : an_step c K M y0 = an_step c K (nrm M) y0 := rfl
set_option maxHeartbeats 1000000 in
theorem lc_step {d k : Nat} {c : Int} {K : Nat} {N : Int} {M : mM} {i : Int} {u5 u6 : mV} (hS : St c K N M) (hi : 0 ≤ i) (hL : i + 5 < M (-1) (-1)) (h3 : M (-1) (-1) ≤ 3072) (hR : ∀ j : Int, 0 ≤ j → j < M (-1) (-1) → r32 (M (-1) j)) (hk : 3 ≤ k)
    (hn : ∀ (c' : Int) (K' : Nat) (N' : Int) (M' : mM) (u5 u6 : mV), St c' K' N' M' → N' ≤ N + 1 → sE M M' → V (d + 62) (k - 3) qL_law 1989 [mE 2, mR 17 15 0, mR 18 58 112, mR 1 1 137, mI i, u5, u6] [] M' lawQ) : V (d + 62) k qL_law 826 [mE 2, mR 17 15 0, mR 18 58 112, mR 1 1 137, mI i, u5, u6] [] M lawQ := by
  refine B_L_law_826 lawQn ⟨?_, ?_, ?_, ?_⟩ <;> try omega
  refine V_sE (xq_step hS (fun M1 h1 hs1 => ?_))
  have hS1 := hS.kx h1
  have hA : nrm M1 = nrm M := nrm_x h1
  generalize ha : an_step c K M (M (-1) (i + 1)) = a
  rcases a with v | e
  · show V (d + 62) (k - 3) qL_law 837 [mE 2, mR 17 15 0, mR 18 58 112, mR 1 1 137, mI i, u5, u6] [mI 0] (mUp M1 137 0 v) lawQ
    have hS2 : St c K N (mUp M1 137 0 v) := hS1.o
    have hs2 : sE M (mUp M1 137 0 v) := hs1.o
    have hB : nrm (mUp M1 137 0 v) = nrm M := nrm_o.trans hA
    have hv : (mUp M1 137 0 v) 137 0 = v := up_s
    revert hS2 hs2 hB hv
    generalize mUp M1 137 0 v = M2
    intro hS2 hs2 hB hv
    have ea : an_step c K M2 (M (-1) (i + 1)) = .inl v := by rw [ind_step, hB, ← ind_step]; exact ha
    have Bk := B_L_law_837 (d := d + 60) (k := k - 3) (M := M2) (Q := lawQ) (x4 := i) (u5 := u5) (u6 := u6) (sx0 := 0) lawQn
    rw [hs2.1, hs2.2 (i + 1) (by omega) (by omega)] at Bk
    refine Bk ⟨?_, ?_, ?_⟩ <;> try omega
    refine V_sE (mq_step hS2 (fun M3 b h3' hm hs3 => ?_))
    rw [ea] at hm
    obtain ⟨t0, rfl⟩ := hm
    refine B_L_law_849 (x5 := 0) lawQn ?_
    refine B_X10_thrown_0 ?_
    rw [t0]
    have ho : M3 137 0 = b := by rw [h3'.1 137 (by omega) (by omega)]; exact hv
    refine B_L_law_855 (x5 := 0) (x6 := b) lawQn ⟨fun _ => ⟨fun h => absurd rfl h, fun _ => ⟨fun _ => hn c K N M3 (mI 0) (mI b) (hS2.km h3') (by omega) (hs2.tr hs3), fun h => ?_⟩⟩, fun h => absurd rfl h⟩
    exact absurd (by rw [ho]; simp) h
  · have he : e = 2 := by
      unfold an_step at ha
      split at ha <;> first | (cases ha; done) | (cases ha; rfl) | (split at ha <;> first | (cases ha; done) | (cases ha; rfl) | (split at ha <;> first | (cases ha; done) | (cases ha; rfl)))
    subst he
    refine ⟨1, rfl, ?_⟩
    show V (d + 62) (k - 3) qL_law 837 [mE 2, mR 17 15 0, mR 18 58 112, mR 1 1 137, mI i, u5, u6] [mI 1] M1 lawQ
    have ea : an_step c K M1 (M (-1) (i + 1)) = .inr 2 := by rw [ind_step, hA, ← ind_step]; exact ha
    have Bk := B_L_law_837 (d := d + 60) (k := k - 3) (M := M1) (Q := lawQ) (x4 := i) (u5 := u5) (u6 := u6) (sx0 := 1) lawQn
    rw [hs1.1, hs1.2 (i + 1) (by omega) (by omega)] at Bk
    refine Bk ⟨?_, ?_, ?_⟩ <;> try omega
    refine V_sE (mq_step hS1 (fun M3 b h3' hm hs3 => ?_))
    rw [ea] at hm
    have t0 : M3 112 5 = 1 := hm
    refine B_L_law_849 (x5 := 1) lawQn ?_
    refine B_X10_thrown_0 ?_
    rw [t0]
    exact B_L_law_855 (x5 := 1) (x6 := b) lawQn ⟨fun _ => ⟨fun _ => hn c K N M3 (mI 1) (mI b) (hS1.km h3') (by omega) (hs1.tr hs3), fun h => absurd h (by omega)⟩, fun h => absurd rfl h⟩
theorem ind_pats {c : Int} {K : Nat} {M : mM} {y0 : Int} : an_pats c K M y0 = an_pats c K (nrm M) y0 := rfl
set_option maxHeartbeats 1000000 in
theorem lc_patterns {d k : Nat} {c : Int} {K : Nat} {N : Int} {M : mM} {i : Int} {u5 u6 : mV} (hS : St c K N M) (hi : 0 ≤ i) (hL : i + 5 < M (-1) (-1)) (h3 : M (-1) (-1) ≤ 3072) (hR : ∀ j : Int, 0 ≤ j → j < M (-1) (-1) → r32 (M (-1) j)) (hk : 3 ≤ k)
    (hn : ∀ (c' : Int) (K' : Nat) (N' : Int) (M' : mM) (u5 u6 : mV), St c' K' N' M' → N' ≤ N + 1 → sE M M' → V (d + 62) (k - 3) qL_law 1989 [mE 2, mR 17 15 0, mR 18 58 112, mR 1 1 137, mI i, u5, u6] [] M' lawQ) : V (d + 62) k qL_law 882 [mE 2, mR 17 15 0, mR 18 58 112, mR 1 1 137, mI i, u5, u6] [] M lawQ := by
  refine B_L_law_882 lawQn ⟨?_, ?_, ?_, ?_⟩ <;> try omega
  refine V_sE (xq_pats hS (fun M1 h1 hs1 => ?_))
  have hS1 := hS.kx h1
  have hA : nrm M1 = nrm M := nrm_x h1
  generalize ha : an_pats c K M (M (-1) (i + 1)) = a
  rcases a with v | e
  · show V (d + 62) (k - 3) qL_law 893 [mE 2, mR 17 15 0, mR 18 58 112, mR 1 1 137, mI i, u5, u6] [mI 0] (mUp M1 137 0 v) lawQ
    have hS2 : St c K N (mUp M1 137 0 v) := hS1.o
    have hs2 : sE M (mUp M1 137 0 v) := hs1.o
    have hB : nrm (mUp M1 137 0 v) = nrm M := nrm_o.trans hA
    have hv : (mUp M1 137 0 v) 137 0 = v := up_s
    revert hS2 hs2 hB hv
    generalize mUp M1 137 0 v = M2
    intro hS2 hs2 hB hv
    have ea : an_pats c K M2 (M (-1) (i + 1)) = .inl v := by rw [ind_pats, hB, ← ind_pats]; exact ha
    have Bk := B_L_law_893 (d := d + 60) (k := k - 3) (M := M2) (Q := lawQ) (x4 := i) (u5 := u5) (u6 := u6) (sx0 := 0) lawQn
    rw [hs2.1, hs2.2 (i + 1) (by omega) (by omega)] at Bk
    refine Bk ⟨?_, ?_, ?_⟩ <;> try omega
    refine V_sE (mq_pats hS2 (fun M3 b h3' hm hs3 => ?_))
    rw [ea] at hm
    obtain ⟨t0, rfl⟩ := hm
    refine B_L_law_905 (x5 := 0) lawQn ?_
    refine B_X10_thrown_0 ?_
    rw [t0]
    have ho : M3 137 0 = b := by rw [h3'.1 137 (by omega) (by omega)]; exact hv
    refine B_L_law_911 (x5 := 0) (x6 := b) lawQn ⟨fun _ => ⟨fun h => absurd rfl h, fun _ => ⟨fun _ => hn c K N M3 (mI 0) (mI b) (hS2.km h3') (by omega) (hs2.tr hs3), fun h => ?_⟩⟩, fun h => absurd rfl h⟩
    exact absurd (by rw [ho]; simp) h
  · have he : e = 1 := by
      unfold an_pats at ha
      split at ha <;> first | (cases ha; done) | (cases ha; rfl) | (split at ha <;> first | (cases ha; done) | (cases ha; rfl) | (split at ha <;> first | (cases ha; done) | (cases ha; rfl)))
    subst he
    refine ⟨1, rfl, ?_⟩
    show V (d + 62) (k - 3) qL_law 893 [mE 2, mR 17 15 0, mR 18 58 112, mR 1 1 137, mI i, u5, u6] [mI 1] M1 lawQ
    have ea : an_pats c K M1 (M (-1) (i + 1)) = .inr 1 := by rw [ind_pats, hA, ← ind_pats]; exact ha
    have Bk := B_L_law_893 (d := d + 60) (k := k - 3) (M := M1) (Q := lawQ) (x4 := i) (u5 := u5) (u6 := u6) (sx0 := 1) lawQn
    rw [hs1.1, hs1.2 (i + 1) (by omega) (by omega)] at Bk
    refine Bk ⟨?_, ?_, ?_⟩ <;> try omega
    refine V_sE (mq_pats hS1 (fun M3 b h3' hm hs3 => ?_))
    rw [ea] at hm
    have t0 : M3 112 5 = 1 := hm
    refine B_L_law_905 (x5 := 1) lawQn ?_
    refine B_X10_thrown_0 ?_
    rw [t0]
    exact B_L_law_911 (x5 := 1) (x6 := b) lawQn ⟨fun _ => ⟨fun _ => hn c K N M3 (mI 1) (mI b) (hS1.km h3') (by omega) (hs1.tr hs3), fun h => absurd h (by omega)⟩, fun h => absurd rfl h⟩
theorem ind_pat {c : Int} {K : Nat} {M : mM} {y0 y1 : Int} : an_pat c K M y0 y1 = an_pat c K (nrm M) y0 y1 := rfl
set_option maxHeartbeats 1000000 in
theorem lc_pattern {d k : Nat} {c : Int} {K : Nat} {N : Int} {M : mM} {i : Int} {u5 u6 : mV} (hS : St c K N M) (hi : 0 ≤ i) (hL : i + 5 < M (-1) (-1)) (h3 : M (-1) (-1) ≤ 3072) (hR : ∀ j : Int, 0 ≤ j → j < M (-1) (-1) → r32 (M (-1) j)) (hk : 3 ≤ k)
    (hn : ∀ (c' : Int) (K' : Nat) (N' : Int) (M' : mM) (u5 u6 : mV), St c' K' N' M' → N' ≤ N + 1 → sE M M' → V (d + 62) (k - 3) qL_law 1989 [mE 2, mR 17 15 0, mR 18 58 112, mR 1 1 137, mI i, u5, u6] [] M' lawQ) : V (d + 62) k qL_law 938 [mE 2, mR 17 15 0, mR 18 58 112, mR 1 1 137, mI i, u5, u6] [] M lawQ := by
  refine B_L_law_938 lawQn ⟨?_, ?_, ?_, ?_, ?_, ?_⟩ <;> try omega
  refine V_sE (xq_pat (hR (i + 1) (by omega) (by omega)).2 hS (fun M1 h1 hs1 => ?_))
  have hS1 := hS.kx h1
  have hA : nrm M1 = nrm M := nrm_x h1
  generalize ha : an_pat c K M (M (-1) (i + 1)) (M (-1) (i + 2)) = a
  rcases a with v | e
  · show V (d + 62) (k - 3) qL_law 955 [mE 2, mR 17 15 0, mR 18 58 112, mR 1 1 137, mI i, u5, u6] [mI 0] (mUp M1 137 0 v) lawQ
    have hS2 : St c K N (mUp M1 137 0 v) := hS1.o
    have hs2 : sE M (mUp M1 137 0 v) := hs1.o
    have hB : nrm (mUp M1 137 0 v) = nrm M := nrm_o.trans hA
    have hv : (mUp M1 137 0 v) 137 0 = v := up_s
    revert hS2 hs2 hB hv
    generalize mUp M1 137 0 v = M2
    intro hS2 hs2 hB hv
    have ea : an_pat c K M2 (M (-1) (i + 1)) (M (-1) (i + 2)) = .inl v := by rw [ind_pat, hB, ← ind_pat]; exact ha
    have Bk := B_L_law_955 (d := d + 60) (k := k - 3) (M := M2) (Q := lawQ) (x4 := i) (u5 := u5) (u6 := u6) (sx0 := 0) lawQn
    rw [hs2.1, hs2.2 (i + 1) (by omega) (by omega), hs2.2 (i + 2) (by omega) (by omega)] at Bk
    refine Bk ⟨?_, ?_, ?_, ?_, ?_⟩ <;> try omega
    refine V_sE (mq_pat hS2 (fun M3 b h3' hm hs3 => ?_))
    rw [ea] at hm
    obtain ⟨t0, rfl⟩ := hm
    refine B_L_law_973 (x5 := 0) lawQn ?_
    refine B_X10_thrown_0 ?_
    rw [t0]
    have ho : M3 137 0 = b := by rw [h3'.1 137 (by omega) (by omega)]; exact hv
    refine B_L_law_979 (x5 := 0) (x6 := b) lawQn ⟨fun _ => ⟨fun h => absurd rfl h, fun _ => ⟨fun _ => hn c K N M3 (mI 0) (mI b) (hS2.km h3') (by omega) (hs2.tr hs3), fun h => ?_⟩⟩, fun h => absurd rfl h⟩
    exact absurd (by rw [ho]; simp) h
  · have he : e = 1 := by
      unfold an_pat at ha
      split at ha <;> first | (cases ha; done) | (cases ha; rfl) | (split at ha <;> first | (cases ha; done) | (cases ha; rfl) | (split at ha <;> first | (cases ha; done) | (cases ha; rfl)))
    subst he
    refine ⟨1, rfl, ?_⟩
    show V (d + 62) (k - 3) qL_law 955 [mE 2, mR 17 15 0, mR 18 58 112, mR 1 1 137, mI i, u5, u6] [mI 1] M1 lawQ
    have ea : an_pat c K M1 (M (-1) (i + 1)) (M (-1) (i + 2)) = .inr 1 := by rw [ind_pat, hA, ← ind_pat]; exact ha
    have Bk := B_L_law_955 (d := d + 60) (k := k - 3) (M := M1) (Q := lawQ) (x4 := i) (u5 := u5) (u6 := u6) (sx0 := 1) lawQn
    rw [hs1.1, hs1.2 (i + 1) (by omega) (by omega), hs1.2 (i + 2) (by omega) (by omega)] at Bk
    refine Bk ⟨?_, ?_, ?_, ?_, ?_⟩ <;> try omega
    refine V_sE (mq_pat hS1 (fun M3 b h3' hm hs3 => ?_))
    rw [ea] at hm
    have t0 : M3 112 5 = 1 := hm
    refine B_L_law_973 (x5 := 1) lawQn ?_
    refine B_X10_thrown_0 ?_
    rw [t0]
    exact B_L_law_979 (x5 := 1) (x6 := b) lawQn ⟨fun _ => ⟨fun _ => hn c K N M3 (mI 1) (mI b) (hS1.km h3') (by omega) (hs1.tr hs3), fun h => absurd h (by omega)⟩, fun h => absurd rfl h⟩
theorem ind_tree {c : Int} {K : Nat} {M : mM} {y0 : Int} : an_tree c K M y0 = an_tree c K (nrm M) y0 := rfl
set_option maxHeartbeats 1000000 in
theorem lc_tree {d k : Nat} {c : Int} {K : Nat} {N : Int} {M : mM} {i : Int} {u5 u6 : mV} (hS : St c K N M) (hi : 0 ≤ i) (hL : i + 5 < M (-1) (-1)) (h3 : M (-1) (-1) ≤ 3072) (hR : ∀ j : Int, 0 ≤ j → j < M (-1) (-1) → r32 (M (-1) j)) (hk : 3 ≤ k)
    (hn : ∀ (c' : Int) (K' : Nat) (N' : Int) (M' : mM) (u5 u6 : mV), St c' K' N' M' → N' ≤ N + 1 → sE M M' → V (d + 62) (k - 3) qL_law 1989 [mE 2, mR 17 15 0, mR 18 58 112, mR 1 1 137, mI i, u5, u6] [] M' lawQ) : V (d + 62) k qL_law 1006 [mE 2, mR 17 15 0, mR 18 58 112, mR 1 1 137, mI i, u5, u6] [] M lawQ := by
  refine B_L_law_1006 lawQn ⟨?_, ?_, ?_, ?_⟩ <;> try omega
  refine V_sE (xq_tree hS (fun M1 h1 hs1 => ?_))
  have hS1 := hS.kx h1
  have hA : nrm M1 = nrm M := nrm_x h1
  generalize ha : an_tree c K M (M (-1) (i + 1)) = a
  rcases a with v | e
  · show V (d + 62) (k - 3) qL_law 1017 [mE 2, mR 17 15 0, mR 18 58 112, mR 1 1 137, mI i, u5, u6] [mI 0] (mUp M1 137 0 v) lawQ
    have hS2 : St c K N (mUp M1 137 0 v) := hS1.o
    have hs2 : sE M (mUp M1 137 0 v) := hs1.o
    have hB : nrm (mUp M1 137 0 v) = nrm M := nrm_o.trans hA
    have hv : (mUp M1 137 0 v) 137 0 = v := up_s
    revert hS2 hs2 hB hv
    generalize mUp M1 137 0 v = M2
    intro hS2 hs2 hB hv
    have ea : an_tree c K M2 (M (-1) (i + 1)) = .inl v := by rw [ind_tree, hB, ← ind_tree]; exact ha
    have Bk := B_L_law_1017 (d := d + 60) (k := k - 3) (M := M2) (Q := lawQ) (x4 := i) (u5 := u5) (u6 := u6) (sx0 := 0) lawQn
    rw [hs2.1, hs2.2 (i + 1) (by omega) (by omega)] at Bk
    refine Bk ⟨?_, ?_, ?_⟩ <;> try omega
    refine V_sE (mq_tree hS2 (fun M3 b h3' hm hs3 => ?_))
    rw [ea] at hm
    obtain ⟨t0, rfl⟩ := hm
    refine B_L_law_1029 (x5 := 0) lawQn ?_
    refine B_X10_thrown_0 ?_
    rw [t0]
    have ho : M3 137 0 = b := by rw [h3'.1 137 (by omega) (by omega)]; exact hv
    refine B_L_law_1035 (x5 := 0) (x6 := b) lawQn ⟨fun _ => ⟨fun h => absurd rfl h, fun _ => ⟨fun _ => hn c K N M3 (mI 0) (mI b) (hS2.km h3') (by omega) (hs2.tr hs3), fun h => ?_⟩⟩, fun h => absurd rfl h⟩
    exact absurd (by rw [ho]; simp) h
  · have he : e = 1 := by
      unfold an_tree at ha
      split at ha <;> first | (cases ha; done) | (cases ha; rfl) | (split at ha <;> first | (cases ha; done) | (cases ha; rfl) | (split at ha <;> first | (cases ha; done) | (cases ha; rfl)))
    subst he
    refine ⟨1, rfl, ?_⟩
    show V (d + 62) (k - 3) qL_law 1017 [mE 2, mR 17 15 0, mR 18 58 112, mR 1 1 137, mI i, u5, u6] [mI 1] M1 lawQ
    have ea : an_tree c K M1 (M (-1) (i + 1)) = .inr 1 := by rw [ind_tree, hA, ← ind_tree]; exact ha
    have Bk := B_L_law_1017 (d := d + 60) (k := k - 3) (M := M1) (Q := lawQ) (x4 := i) (u5 := u5) (u6 := u6) (sx0 := 1) lawQn
    rw [hs1.1, hs1.2 (i + 1) (by omega) (by omega)] at Bk
    refine Bk ⟨?_, ?_, ?_⟩ <;> try omega
    refine V_sE (mq_tree hS1 (fun M3 b h3' hm hs3 => ?_))
    rw [ea] at hm
    have t0 : M3 112 5 = 1 := hm
    refine B_L_law_1029 (x5 := 1) lawQn ?_
    refine B_X10_thrown_0 ?_
    rw [t0]
    exact B_L_law_1035 (x5 := 1) (x6 := b) lawQn ⟨fun _ => ⟨fun _ => hn c K N M3 (mI 1) (mI b) (hS1.km h3') (by omega) (hs1.tr hs3), fun h => absurd h (by omega)⟩, fun h => absurd rfl h⟩
theorem ind_best {c : Int} {K : Nat} {M : mM} {y0 y1 : Int} : an_best c K M y0 y1 = an_best c K (nrm M) y0 y1 := rfl
set_option maxHeartbeats 1000000 in
theorem lc_best {d k : Nat} {c : Int} {K : Nat} {N : Int} {M : mM} {i : Int} {u5 u6 : mV} (hS : St c K N M) (hi : 0 ≤ i) (hL : i + 5 < M (-1) (-1)) (h3 : M (-1) (-1) ≤ 3072) (hR : ∀ j : Int, 0 ≤ j → j < M (-1) (-1) → r32 (M (-1) j)) (hk : 3 ≤ k)
    (hn : ∀ (c' : Int) (K' : Nat) (N' : Int) (M' : mM) (u5 u6 : mV), St c' K' N' M' → N' ≤ N + 1 → sE M M' → V (d + 62) (k - 3) qL_law 1989 [mE 2, mR 17 15 0, mR 18 58 112, mR 1 1 137, mI i, u5, u6] [] M' lawQ) : V (d + 62) k qL_law 1062 [mE 2, mR 17 15 0, mR 18 58 112, mR 1 1 137, mI i, u5, u6] [] M lawQ := by
  refine B_L_law_1062 lawQn ⟨?_, ?_, ?_, ?_, ?_, ?_⟩ <;> try omega
  refine V_sE (xq_best hS (fun M1 h1 hs1 => ?_))
  have hS1 := hS.kx h1
  have hA : nrm M1 = nrm M := nrm_x h1
  generalize ha : an_best c K M (M (-1) (i + 1)) (M (-1) (i + 2)) = a
  rcases a with v | e
  · show V (d + 62) (k - 3) qL_law 1079 [mE 2, mR 17 15 0, mR 18 58 112, mR 1 1 137, mI i, u5, u6] [mI 0] (mUp M1 137 0 v) lawQ
    have hS2 : St c K N (mUp M1 137 0 v) := hS1.o
    have hs2 : sE M (mUp M1 137 0 v) := hs1.o
    have hB : nrm (mUp M1 137 0 v) = nrm M := nrm_o.trans hA
    have hv : (mUp M1 137 0 v) 137 0 = v := up_s
    revert hS2 hs2 hB hv
    generalize mUp M1 137 0 v = M2
    intro hS2 hs2 hB hv
    have ea : an_best c K M2 (M (-1) (i + 1)) (M (-1) (i + 2)) = .inl v := by rw [ind_best, hB, ← ind_best]; exact ha
    have Bk := B_L_law_1079 (d := d + 60) (k := k - 3) (M := M2) (Q := lawQ) (x4 := i) (u5 := u5) (u6 := u6) (sx0 := 0) lawQn
    rw [hs2.1, hs2.2 (i + 1) (by omega) (by omega), hs2.2 (i + 2) (by omega) (by omega)] at Bk
    refine Bk ⟨?_, ?_, ?_, ?_, ?_⟩ <;> try omega
    refine V_sE (mq_best hS2 (fun M3 b h3' hm hs3 => ?_))
    rw [ea] at hm
    obtain ⟨t0, rfl⟩ := hm
    refine B_L_law_1097 (x5 := 0) lawQn ?_
    refine B_X10_thrown_0 ?_
    rw [t0]
    have ho : M3 137 0 = b := by rw [h3'.1 137 (by omega) (by omega)]; exact hv
    refine B_L_law_1103 (x5 := 0) (x6 := b) lawQn ⟨fun _ => ⟨fun h => absurd rfl h, fun _ => ⟨fun _ => hn c K N M3 (mI 0) (mI b) (hS2.km h3') (by omega) (hs2.tr hs3), fun h => ?_⟩⟩, fun h => absurd rfl h⟩
    exact absurd (by rw [ho]; simp) h
  · have he : e = 1 := by
      unfold an_best at ha
      split at ha <;> first | (cases ha; done) | (cases ha; rfl) | (split at ha <;> first | (cases ha; done) | (cases ha; rfl) | (split at ha <;> first | (cases ha; done) | (cases ha; rfl)))
    subst he
    refine ⟨1, rfl, ?_⟩
    show V (d + 62) (k - 3) qL_law 1079 [mE 2, mR 17 15 0, mR 18 58 112, mR 1 1 137, mI i, u5, u6] [mI 1] M1 lawQ
    have ea : an_best c K M1 (M (-1) (i + 1)) (M (-1) (i + 2)) = .inr 1 := by rw [ind_best, hA, ← ind_best]; exact ha
    have Bk := B_L_law_1079 (d := d + 60) (k := k - 3) (M := M1) (Q := lawQ) (x4 := i) (u5 := u5) (u6 := u6) (sx0 := 1) lawQn
    rw [hs1.1, hs1.2 (i + 1) (by omega) (by omega), hs1.2 (i + 2) (by omega) (by omega)] at Bk
    refine Bk ⟨?_, ?_, ?_, ?_, ?_⟩ <;> try omega
    refine V_sE (mq_best hS1 (fun M3 b h3' hm hs3 => ?_))
    rw [ea] at hm
    have t0 : M3 112 5 = 1 := hm
    refine B_L_law_1097 (x5 := 1) lawQn ?_
    refine B_X10_thrown_0 ?_
    rw [t0]
    exact B_L_law_1103 (x5 := 1) (x6 := b) lawQn ⟨fun _ => ⟨fun _ => hn c K N M3 (mI 1) (mI b) (hS1.km h3') (by omega) (hs1.tr hs3), fun h => absurd h (by omega)⟩, fun h => absurd rfl h⟩
theorem ind_net {c : Int} {K : Nat} {M : mM} {y0 : Int} : an_net c K M y0 = an_net c K (nrm M) y0 := rfl
set_option maxHeartbeats 1000000 in
theorem lc_net {d k : Nat} {c : Int} {K : Nat} {N : Int} {M : mM} {i : Int} {u5 u6 : mV} (hS : St c K N M) (hi : 0 ≤ i) (hL : i + 5 < M (-1) (-1)) (h3 : M (-1) (-1) ≤ 3072) (hR : ∀ j : Int, 0 ≤ j → j < M (-1) (-1) → r32 (M (-1) j)) (hk : 3 ≤ k)
    (hn : ∀ (c' : Int) (K' : Nat) (N' : Int) (M' : mM) (u5 u6 : mV), St c' K' N' M' → N' ≤ N + 1 → sE M M' → V (d + 62) (k - 3) qL_law 1989 [mE 2, mR 17 15 0, mR 18 58 112, mR 1 1 137, mI i, u5, u6] [] M' lawQ) : V (d + 62) k qL_law 1130 [mE 2, mR 17 15 0, mR 18 58 112, mR 1 1 137, mI i, u5, u6] [] M lawQ := by
  refine B_L_law_1130 lawQn ⟨?_, ?_, ?_, ?_⟩ <;> try omega
  refine V_sE (xq_net hS (fun M1 h1 hs1 => ?_))
  have hS1 := hS.kx h1
  have hA : nrm M1 = nrm M := nrm_x h1
  generalize ha : an_net c K M (M (-1) (i + 1)) = a
  rcases a with v | e
  · show V (d + 62) (k - 3) qL_law 1141 [mE 2, mR 17 15 0, mR 18 58 112, mR 1 1 137, mI i, u5, u6] [mI 0] (mUp M1 137 0 v) lawQ
    have hS2 : St c K N (mUp M1 137 0 v) := hS1.o
    have hs2 : sE M (mUp M1 137 0 v) := hs1.o
    have hB : nrm (mUp M1 137 0 v) = nrm M := nrm_o.trans hA
    have hv : (mUp M1 137 0 v) 137 0 = v := up_s
    revert hS2 hs2 hB hv
    generalize mUp M1 137 0 v = M2
    intro hS2 hs2 hB hv
    have ea : an_net c K M2 (M (-1) (i + 1)) = .inl v := by rw [ind_net, hB, ← ind_net]; exact ha
    have Bk := B_L_law_1141 (d := d + 60) (k := k - 3) (M := M2) (Q := lawQ) (x4 := i) (u5 := u5) (u6 := u6) (sx0 := 0) lawQn
    rw [hs2.1, hs2.2 (i + 1) (by omega) (by omega)] at Bk
    refine Bk ⟨?_, ?_, ?_⟩ <;> try omega
    refine V_sE (mq_net hS2 (fun M3 b h3' hm hs3 => ?_))
    rw [ea] at hm
    obtain ⟨t0, rfl⟩ := hm
    refine B_L_law_1153 (x5 := 0) lawQn ?_
    refine B_X10_thrown_0 ?_
    rw [t0]
    have ho : M3 137 0 = b := by rw [h3'.1 137 (by omega) (by omega)]; exact hv
    refine B_L_law_1159 (x5 := 0) (x6 := b) lawQn ⟨fun _ => ⟨fun h => absurd rfl h, fun _ => ⟨fun _ => hn c K N M3 (mI 0) (mI b) (hS2.km h3') (by omega) (hs2.tr hs3), fun h => ?_⟩⟩, fun h => absurd rfl h⟩
    exact absurd (by rw [ho]; simp) h
  · have he : e = 1 := by
      unfold an_net at ha
      split at ha <;> first | (cases ha; done) | (cases ha; rfl) | (split at ha <;> first | (cases ha; done) | (cases ha; rfl) | (split at ha <;> first | (cases ha; done) | (cases ha; rfl)))
    subst he
    refine ⟨1, rfl, ?_⟩
    show V (d + 62) (k - 3) qL_law 1141 [mE 2, mR 17 15 0, mR 18 58 112, mR 1 1 137, mI i, u5, u6] [mI 1] M1 lawQ
    have ea : an_net c K M1 (M (-1) (i + 1)) = .inr 1 := by rw [ind_net, hA, ← ind_net]; exact ha
    have Bk := B_L_law_1141 (d := d + 60) (k := k - 3) (M := M1) (Q := lawQ) (x4 := i) (u5 := u5) (u6 := u6) (sx0 := 1) lawQn
    rw [hs1.1, hs1.2 (i + 1) (by omega) (by omega)] at Bk
    refine Bk ⟨?_, ?_, ?_⟩ <;> try omega
    refine V_sE (mq_net hS1 (fun M3 b h3' hm hs3 => ?_))
    rw [ea] at hm
    have t0 : M3 112 5 = 1 := hm
    refine B_L_law_1153 (x5 := 1) lawQn ?_
    refine B_X10_thrown_0 ?_
    rw [t0]
    exact B_L_law_1159 (x5 := 1) (x6 := b) lawQn ⟨fun _ => ⟨fun _ => hn c K N M3 (mI 1) (mI b) (hS1.km h3') (by omega) (hs1.tr hs3), fun h => absurd h (by omega)⟩, fun h => absurd rfl h⟩
theorem ind_high {c : Int} {K : Nat} {M : mM} {y0 y1 : Int} : an_high c K M y0 y1 = an_high c K (nrm M) y0 y1 := rfl
set_option maxHeartbeats 1000000 in
theorem lc_high {d k : Nat} {c : Int} {K : Nat} {N : Int} {M : mM} {i : Int} {u5 u6 : mV} (hS : St c K N M) (hi : 0 ≤ i) (hL : i + 5 < M (-1) (-1)) (h3 : M (-1) (-1) ≤ 3072) (hR : ∀ j : Int, 0 ≤ j → j < M (-1) (-1) → r32 (M (-1) j)) (hk : 3 ≤ k)
    (hn : ∀ (c' : Int) (K' : Nat) (N' : Int) (M' : mM) (u5 u6 : mV), St c' K' N' M' → N' ≤ N + 1 → sE M M' → V (d + 62) (k - 3) qL_law 1989 [mE 2, mR 17 15 0, mR 18 58 112, mR 1 1 137, mI i, u5, u6] [] M' lawQ) : V (d + 62) k qL_law 1186 [mE 2, mR 17 15 0, mR 18 58 112, mR 1 1 137, mI i, u5, u6] [] M lawQ := by
  refine B_L_law_1186 lawQn ⟨?_, ?_, ?_, ?_, ?_, ?_⟩ <;> try omega
  refine V_sE (xq_high hS (fun M1 h1 hs1 => ?_))
  have hS1 := hS.kx h1
  have hA : nrm M1 = nrm M := nrm_x h1
  generalize ha : an_high c K M (M (-1) (i + 1)) (M (-1) (i + 2)) = a
  rcases a with v | e
  · show V (d + 62) (k - 3) qL_law 1203 [mE 2, mR 17 15 0, mR 18 58 112, mR 1 1 137, mI i, u5, u6] [mI 0] (mUp M1 137 0 v) lawQ
    have hS2 : St c K N (mUp M1 137 0 v) := hS1.o
    have hs2 : sE M (mUp M1 137 0 v) := hs1.o
    have hB : nrm (mUp M1 137 0 v) = nrm M := nrm_o.trans hA
    have hv : (mUp M1 137 0 v) 137 0 = v := up_s
    revert hS2 hs2 hB hv
    generalize mUp M1 137 0 v = M2
    intro hS2 hs2 hB hv
    have ea : an_high c K M2 (M (-1) (i + 1)) (M (-1) (i + 2)) = .inl v := by rw [ind_high, hB, ← ind_high]; exact ha
    have Bk := B_L_law_1203 (d := d + 60) (k := k - 3) (M := M2) (Q := lawQ) (x4 := i) (u5 := u5) (u6 := u6) (sx0 := 0) lawQn
    rw [hs2.1, hs2.2 (i + 1) (by omega) (by omega), hs2.2 (i + 2) (by omega) (by omega)] at Bk
    refine Bk ⟨?_, ?_, ?_, ?_, ?_⟩ <;> try omega
    refine V_sE (mq_high hS2 (fun M3 b h3' hm hs3 => ?_))
    rw [ea] at hm
    obtain ⟨t0, rfl⟩ := hm
    refine B_L_law_1221 (x5 := 0) lawQn ?_
    refine B_X10_thrown_0 ?_
    rw [t0]
    have ho : M3 137 0 = b := by rw [h3'.1 137 (by omega) (by omega)]; exact hv
    refine B_L_law_1227 (x5 := 0) (x6 := b) lawQn ⟨fun _ => ⟨fun h => absurd rfl h, fun _ => ⟨fun _ => hn c K N M3 (mI 0) (mI b) (hS2.km h3') (by omega) (hs2.tr hs3), fun h => ?_⟩⟩, fun h => absurd rfl h⟩
    exact absurd (by rw [ho]; simp) h
  · have he : e = 1 := by
      unfold an_high at ha
      split at ha <;> first | (cases ha; done) | (cases ha; rfl) | (split at ha <;> first | (cases ha; done) | (cases ha; rfl) | (split at ha <;> first | (cases ha; done) | (cases ha; rfl)))
    subst he
    refine ⟨1, rfl, ?_⟩
    show V (d + 62) (k - 3) qL_law 1203 [mE 2, mR 17 15 0, mR 18 58 112, mR 1 1 137, mI i, u5, u6] [mI 1] M1 lawQ
    have ea : an_high c K M1 (M (-1) (i + 1)) (M (-1) (i + 2)) = .inr 1 := by rw [ind_high, hA, ← ind_high]; exact ha
    have Bk := B_L_law_1203 (d := d + 60) (k := k - 3) (M := M1) (Q := lawQ) (x4 := i) (u5 := u5) (u6 := u6) (sx0 := 1) lawQn
    rw [hs1.1, hs1.2 (i + 1) (by omega) (by omega), hs1.2 (i + 2) (by omega) (by omega)] at Bk
    refine Bk ⟨?_, ?_, ?_, ?_, ?_⟩ <;> try omega
    refine V_sE (mq_high hS1 (fun M3 b h3' hm hs3 => ?_))
    rw [ea] at hm
    have t0 : M3 112 5 = 1 := hm
    refine B_L_law_1221 (x5 := 1) lawQn ?_
    refine B_X10_thrown_0 ?_
    rw [t0]
    exact B_L_law_1227 (x5 := 1) (x6 := b) lawQn ⟨fun _ => ⟨fun _ => hn c K N M3 (mI 1) (mI b) (hS1.km h3') (by omega) (hs1.tr hs3), fun h => absurd h (by omega)⟩, fun h => absurd rfl h⟩
theorem ind_top {c : Int} {K : Nat} {M : mM} {y0 y1 : Int} : an_top c K M y0 y1 = an_top c K (nrm M) y0 y1 := rfl
set_option maxHeartbeats 1000000 in
theorem lc_topUp {d k : Nat} {c : Int} {K : Nat} {N : Int} {M : mM} {i : Int} {u5 u6 : mV} (hS : St c K N M) (hi : 0 ≤ i) (hL : i + 5 < M (-1) (-1)) (h3 : M (-1) (-1) ≤ 3072) (hR : ∀ j : Int, 0 ≤ j → j < M (-1) (-1) → r32 (M (-1) j)) (hk : 3 ≤ k)
    (hn : ∀ (c' : Int) (K' : Nat) (N' : Int) (M' : mM) (u5 u6 : mV), St c' K' N' M' → N' ≤ N + 1 → sE M M' → V (d + 62) (k - 3) qL_law 1989 [mE 2, mR 17 15 0, mR 18 58 112, mR 1 1 137, mI i, u5, u6] [] M' lawQ) : V (d + 62) k qL_law 1465 [mE 2, mR 17 15 0, mR 18 58 112, mR 1 1 137, mI i, u5, u6] [] M lawQ := by
  refine B_L_law_1465 lawQn ⟨?_, ?_, ?_, ?_, ?_, ?_⟩ <;> try omega
  refine V_sE (xq_top hS (fun M1 h1 hs1 => ?_))
  have hS1 := hS.kx h1
  have hA : nrm M1 = nrm M := nrm_x h1
  generalize ha : an_top c K M (M (-1) (i + 1)) (M (-1) (i + 2)) = a
  rcases a with v | e
  · show V (d + 62) (k - 3) qL_law 1482 [mE 2, mR 17 15 0, mR 18 58 112, mR 1 1 137, mI i, u5, u6] [mI 0] (mUp M1 137 0 v) lawQ
    have hS2 : St c K N (mUp M1 137 0 v) := hS1.o
    have hs2 : sE M (mUp M1 137 0 v) := hs1.o
    have hB : nrm (mUp M1 137 0 v) = nrm M := nrm_o.trans hA
    have hv : (mUp M1 137 0 v) 137 0 = v := up_s
    revert hS2 hs2 hB hv
    generalize mUp M1 137 0 v = M2
    intro hS2 hs2 hB hv
    have ea : an_top c K M2 (M (-1) (i + 1)) (M (-1) (i + 2)) = .inl v := by rw [ind_top, hB, ← ind_top]; exact ha
    have Bk := B_L_law_1482 (d := d + 60) (k := k - 3) (M := M2) (Q := lawQ) (x4 := i) (u5 := u5) (u6 := u6) (sx0 := 0) lawQn
    rw [hs2.1, hs2.2 (i + 1) (by omega) (by omega), hs2.2 (i + 2) (by omega) (by omega)] at Bk
    refine Bk ⟨?_, ?_, ?_, ?_, ?_⟩ <;> try omega
    refine V_sE (mq_top hS2 (fun M3 b h3' hm hs3 => ?_))
    rw [ea] at hm
    obtain ⟨t0, rfl⟩ := hm
    refine B_L_law_1500 (x5 := 0) lawQn ?_
    refine B_X10_thrown_0 ?_
    rw [t0]
    have ho : M3 137 0 = b := by rw [h3'.1 137 (by omega) (by omega)]; exact hv
    refine B_L_law_1506 (x5 := 0) (x6 := b) lawQn ⟨fun _ => ⟨fun h => absurd rfl h, fun _ => ⟨fun _ => hn c K N M3 (mI 0) (mI b) (hS2.km h3') (by omega) (hs2.tr hs3), fun h => ?_⟩⟩, fun h => absurd rfl h⟩
    exact absurd (by rw [ho]; simp) h
  · have he : e = 1 := by
      unfold an_top at ha
      split at ha <;> first | (cases ha; done) | (cases ha; rfl) | (split at ha <;> first | (cases ha; done) | (cases ha; rfl) | (split at ha <;> first | (cases ha; done) | (cases ha; rfl)))
    subst he
    refine ⟨1, rfl, ?_⟩
    show V (d + 62) (k - 3) qL_law 1482 [mE 2, mR 17 15 0, mR 18 58 112, mR 1 1 137, mI i, u5, u6] [mI 1] M1 lawQ
    have ea : an_top c K M1 (M (-1) (i + 1)) (M (-1) (i + 2)) = .inr 1 := by rw [ind_top, hA, ← ind_top]; exact ha
    have Bk := B_L_law_1482 (d := d + 60) (k := k - 3) (M := M1) (Q := lawQ) (x4 := i) (u5 := u5) (u6 := u6) (sx0 := 1) lawQn
    rw [hs1.1, hs1.2 (i + 1) (by omega) (by omega), hs1.2 (i + 2) (by omega) (by omega)] at Bk
    refine Bk ⟨?_, ?_, ?_, ?_, ?_⟩ <;> try omega
    refine V_sE (mq_top hS1 (fun M3 b h3' hm hs3 => ?_))
    rw [ea] at hm
    have t0 : M3 112 5 = 1 := hm
    refine B_L_law_1500 (x5 := 1) lawQn ?_
    refine B_X10_thrown_0 ?_
    rw [t0]
    exact B_L_law_1506 (x5 := 1) (x6 := b) lawQn ⟨fun _ => ⟨fun _ => hn c K N M3 (mI 1) (mI b) (hS1.km h3') (by omega) (hs1.tr hs3), fun h => absurd h (by omega)⟩, fun h => absurd rfl h⟩
theorem ind_hold {K : Nat} {M : mM} {y0 : Int} : an_hold K M y0 = an_hold K (nrm M) y0 := rfl
set_option maxHeartbeats 1000000 in
theorem lc_toHold {d k : Nat} {c : Int} {K : Nat} {N : Int} {M : mM} {i : Int} {u5 u6 : mV} (hS : St c K N M) (hi : 0 ≤ i) (hL : i + 5 < M (-1) (-1)) (h3 : M (-1) (-1) ≤ 3072) (hR : ∀ j : Int, 0 ≤ j → j < M (-1) (-1) → r32 (M (-1) j)) (hk : 3 ≤ k)
    (hn : ∀ (c' : Int) (K' : Nat) (N' : Int) (M' : mM) (u5 u6 : mV), St c' K' N' M' → N' ≤ N + 1 → sE M M' → V (d + 62) (k - 3) qL_law 1989 [mE 2, mR 17 15 0, mR 18 58 112, mR 1 1 137, mI i, u5, u6] [] M' lawQ) : V (d + 62) k qL_law 1533 [mE 2, mR 17 15 0, mR 18 58 112, mR 1 1 137, mI i, u5, u6] [] M lawQ := by
  refine B_L_law_1533 lawQn ⟨?_, ?_, ?_, ?_⟩ <;> try omega
  refine V_sE (xq_hold hS (fun M1 h1 hs1 => ?_))
  have hS1 := hS.kx h1
  have hA : nrm M1 = nrm M := nrm_x h1
  generalize ha : an_hold K M (M (-1) (i + 1)) = a
  rcases a with v | e
  · show V (d + 62) (k - 3) qL_law 1544 [mE 2, mR 17 15 0, mR 18 58 112, mR 1 1 137, mI i, u5, u6] [mI 0] (mUp M1 137 0 v) lawQ
    have hS2 : St c K N (mUp M1 137 0 v) := hS1.o
    have hs2 : sE M (mUp M1 137 0 v) := hs1.o
    have hB : nrm (mUp M1 137 0 v) = nrm M := nrm_o.trans hA
    have hv : (mUp M1 137 0 v) 137 0 = v := up_s
    revert hS2 hs2 hB hv
    generalize mUp M1 137 0 v = M2
    intro hS2 hs2 hB hv
    have ea : an_hold K M2 (M (-1) (i + 1)) = .inl v := by rw [ind_hold, hB, ← ind_hold]; exact ha
    have Bk := B_L_law_1544 (d := d + 60) (k := k - 3) (M := M2) (Q := lawQ) (x4 := i) (u5 := u5) (u6 := u6) (sx0 := 0) lawQn
    rw [hs2.1, hs2.2 (i + 1) (by omega) (by omega)] at Bk
    refine Bk ⟨?_, ?_, ?_⟩ <;> try omega
    refine V_sE (mq_hold hS2 (fun M3 b h3' hm hs3 => ?_))
    rw [ea] at hm
    obtain ⟨t0, rfl⟩ := hm
    refine B_L_law_1556 (x5 := 0) lawQn ?_
    refine B_X10_thrown_0 ?_
    rw [t0]
    have ho : M3 137 0 = b := by rw [h3'.1 137 (by omega) (by omega)]; exact hv
    refine B_L_law_1562 (x5 := 0) (x6 := b) lawQn ⟨fun _ => ⟨fun h => absurd rfl h, fun _ => ⟨fun _ => hn c K N M3 (mI 0) (mI b) (hS2.km h3') (by omega) (hs2.tr hs3), fun h => ?_⟩⟩, fun h => absurd rfl h⟩
    exact absurd (by rw [ho]; simp) h
  · have he : e = 2 := by
      unfold an_hold at ha
      split at ha <;> first | (cases ha; done) | (cases ha; rfl) | (split at ha <;> first | (cases ha; done) | (cases ha; rfl) | (split at ha <;> first | (cases ha; done) | (cases ha; rfl)))
    subst he
    refine ⟨1, rfl, ?_⟩
    show V (d + 62) (k - 3) qL_law 1544 [mE 2, mR 17 15 0, mR 18 58 112, mR 1 1 137, mI i, u5, u6] [mI 1] M1 lawQ
    have ea : an_hold K M1 (M (-1) (i + 1)) = .inr 2 := by rw [ind_hold, hA, ← ind_hold]; exact ha
    have Bk := B_L_law_1544 (d := d + 60) (k := k - 3) (M := M1) (Q := lawQ) (x4 := i) (u5 := u5) (u6 := u6) (sx0 := 1) lawQn
    rw [hs1.1, hs1.2 (i + 1) (by omega) (by omega)] at Bk
    refine Bk ⟨?_, ?_, ?_⟩ <;> try omega
    refine V_sE (mq_hold hS1 (fun M3 b h3' hm hs3 => ?_))
    rw [ea] at hm
    have t0 : M3 112 5 = 1 := hm
    refine B_L_law_1556 (x5 := 1) lawQn ?_
    refine B_X10_thrown_0 ?_
    rw [t0]
    exact B_L_law_1562 (x5 := 1) (x6 := b) lawQn ⟨fun _ => ⟨fun _ => hn c K N M3 (mI 1) (mI b) (hS1.km h3') (by omega) (hs1.tr hs3), fun h => absurd h (by omega)⟩, fun h => absurd rfl h⟩
theorem ind_spare {c : Int} {K : Nat} {M : mM} {y0 : Int} : an_spare c K M y0 = an_spare c K (nrm M) y0 := rfl
set_option maxHeartbeats 1000000 in
theorem lc_spare {d k : Nat} {c : Int} {K : Nat} {N : Int} {M : mM} {i : Int} {u5 u6 : mV} (hS : St c K N M) (hi : 0 ≤ i) (hL : i + 5 < M (-1) (-1)) (h3 : M (-1) (-1) ≤ 3072) (hR : ∀ j : Int, 0 ≤ j → j < M (-1) (-1) → r32 (M (-1) j)) (hk : 3 ≤ k)
    (hn : ∀ (c' : Int) (K' : Nat) (N' : Int) (M' : mM) (u5 u6 : mV), St c' K' N' M' → N' ≤ N + 1 → sE M M' → V (d + 62) (k - 3) qL_law 1989 [mE 2, mR 17 15 0, mR 18 58 112, mR 1 1 137, mI i, u5, u6] [] M' lawQ) : V (d + 62) k qL_law 1589 [mE 2, mR 17 15 0, mR 18 58 112, mR 1 1 137, mI i, u5, u6] [] M lawQ := by
  refine B_L_law_1589 lawQn ⟨?_, ?_, ?_, ?_⟩ <;> try omega
  refine V_sE (xq_spare hS (fun M1 h1 hs1 => ?_))
  have hS1 := hS.kx h1
  have hA : nrm M1 = nrm M := nrm_x h1
  generalize ha : an_spare c K M (M (-1) (i + 1)) = a
  rcases a with v | e
  · show V (d + 62) (k - 3) qL_law 1600 [mE 2, mR 17 15 0, mR 18 58 112, mR 1 1 137, mI i, u5, u6] [mI 0] (mUp M1 137 0 v) lawQ
    have hS2 : St c K N (mUp M1 137 0 v) := hS1.o
    have hs2 : sE M (mUp M1 137 0 v) := hs1.o
    have hB : nrm (mUp M1 137 0 v) = nrm M := nrm_o.trans hA
    have hv : (mUp M1 137 0 v) 137 0 = v := up_s
    revert hS2 hs2 hB hv
    generalize mUp M1 137 0 v = M2
    intro hS2 hs2 hB hv
    have ea : an_spare c K M2 (M (-1) (i + 1)) = .inl v := by rw [ind_spare, hB, ← ind_spare]; exact ha
    have Bk := B_L_law_1600 (d := d + 60) (k := k - 3) (M := M2) (Q := lawQ) (x4 := i) (u5 := u5) (u6 := u6) (sx0 := 0) lawQn
    rw [hs2.1, hs2.2 (i + 1) (by omega) (by omega)] at Bk
    refine Bk ⟨?_, ?_, ?_⟩ <;> try omega
    refine V_sE (mq_spare hS2 (fun M3 b h3' hm hs3 => ?_))
    rw [ea] at hm
    obtain ⟨t0, rfl⟩ := hm
    refine B_L_law_1612 (x5 := 0) lawQn ?_
    refine B_X10_thrown_0 ?_
    rw [t0]
    have ho : M3 137 0 = b := by rw [h3'.1 137 (by omega) (by omega)]; exact hv
    refine B_L_law_1618 (x5 := 0) (x6 := b) lawQn ⟨fun _ => ⟨fun h => absurd rfl h, fun _ => ⟨fun _ => hn c K N M3 (mI 0) (mI b) (hS2.km h3') (by omega) (hs2.tr hs3), fun h => ?_⟩⟩, fun h => absurd rfl h⟩
    exact absurd (by rw [ho]; simp) h
  · have he : e = 1 := by
      unfold an_spare at ha
      split at ha <;> first | (cases ha; done) | (cases ha; rfl) | (split at ha <;> first | (cases ha; done) | (cases ha; rfl) | (split at ha <;> first | (cases ha; done) | (cases ha; rfl)))
    subst he
    refine ⟨1, rfl, ?_⟩
    show V (d + 62) (k - 3) qL_law 1600 [mE 2, mR 17 15 0, mR 18 58 112, mR 1 1 137, mI i, u5, u6] [mI 1] M1 lawQ
    have ea : an_spare c K M1 (M (-1) (i + 1)) = .inr 1 := by rw [ind_spare, hA, ← ind_spare]; exact ha
    have Bk := B_L_law_1600 (d := d + 60) (k := k - 3) (M := M1) (Q := lawQ) (x4 := i) (u5 := u5) (u6 := u6) (sx0 := 1) lawQn
    rw [hs1.1, hs1.2 (i + 1) (by omega) (by omega)] at Bk
    refine Bk ⟨?_, ?_, ?_⟩ <;> try omega
    refine V_sE (mq_spare hS1 (fun M3 b h3' hm hs3 => ?_))
    rw [ea] at hm
    have t0 : M3 112 5 = 1 := hm
    refine B_L_law_1612 (x5 := 1) lawQn ?_
    refine B_X10_thrown_0 ?_
    rw [t0]
    exact B_L_law_1618 (x5 := 1) (x6 := b) lawQn ⟨fun _ => ⟨fun _ => hn c K N M3 (mI 1) (mI b) (hS1.km h3') (by omega) (hs1.tr hs3), fun h => absurd h (by omega)⟩, fun h => absurd rfl h⟩
theorem ind_other {c : Int} {K : Nat} {M : mM} {y0 : Int} : an_other c K M y0 = an_other c K (nrm M) y0 := by
  unfold an_other
  rw [show agF c K M (M 9) (M 112 10).toNat = agF c K (nrm M) (M 9) (M 112 10).toNat from agF_n _, show gsS c K M (M 112 10).toNat K = gsS c K (nrm M) (M 112 10).toNat K from gsS_n K]
  rfl
set_option maxHeartbeats 1000000 in
theorem lc_other {d k : Nat} {c : Int} {K : Nat} {N : Int} {M : mM} {i : Int} {u5 u6 : mV} (hS : St c K N M) (hi : 0 ≤ i) (hL : i + 5 < M (-1) (-1)) (h3 : M (-1) (-1) ≤ 3072) (hR : ∀ j : Int, 0 ≤ j → j < M (-1) (-1) → r32 (M (-1) j)) (hk : 3 ≤ k)
    (hn : ∀ (c' : Int) (K' : Nat) (N' : Int) (M' : mM) (u5 u6 : mV), St c' K' N' M' → N' ≤ N + 1 → sE M M' → V (d + 62) (k - 3) qL_law 1989 [mE 2, mR 17 15 0, mR 18 58 112, mR 1 1 137, mI i, u5, u6] [] M' lawQ) : V (d + 62) k qL_law 1682 [mE 2, mR 17 15 0, mR 18 58 112, mR 1 1 137, mI i, u5, u6] [] M lawQ := by
  refine B_L_law_1682 lawQn ⟨?_, ?_, ?_, ?_⟩ <;> try omega
  refine V_sE (xq_other hS (fun M1 h1 hs1 => ?_))
  have hS1 := hS.kx h1
  have hA : nrm M1 = nrm M := nrm_x h1
  generalize ha : an_other c K M (M (-1) (i + 1)) = a
  rcases a with v | e
  · show V (d + 62) (k - 3) qL_law 1693 [mE 2, mR 17 15 0, mR 18 58 112, mR 1 1 137, mI i, u5, u6] [mI 0] (mUp M1 137 0 v) lawQ
    have hS2 : St c K N (mUp M1 137 0 v) := hS1.o
    have hs2 : sE M (mUp M1 137 0 v) := hs1.o
    have hB : nrm (mUp M1 137 0 v) = nrm M := nrm_o.trans hA
    have hv : (mUp M1 137 0 v) 137 0 = v := up_s
    revert hS2 hs2 hB hv
    generalize mUp M1 137 0 v = M2
    intro hS2 hs2 hB hv
    have ea : an_other c K M2 (M (-1) (i + 1)) = .inl v := by rw [ind_other, hB, ← ind_other]; exact ha
    have Bk := B_L_law_1693 (d := d + 60) (k := k - 3) (M := M2) (Q := lawQ) (x4 := i) (u5 := u5) (u6 := u6) (sx0 := 0) lawQn
    rw [hs2.1, hs2.2 (i + 1) (by omega) (by omega)] at Bk
    refine Bk ⟨?_, ?_, ?_⟩ <;> try omega
    refine V_sE (mq_other hS2 (fun M3 b h3' hm hs3 => ?_))
    rw [ea] at hm
    obtain ⟨t0, rfl⟩ := hm
    refine B_L_law_1705 (x5 := 0) lawQn ?_
    refine B_X10_thrown_0 ?_
    rw [t0]
    have ho : M3 137 0 = b := by rw [h3'.1 137 (by omega) (by omega)]; exact hv
    refine B_L_law_1711 (x5 := 0) (x6 := b) lawQn ⟨fun _ => ⟨fun h => absurd rfl h, fun _ => ⟨fun _ => hn c K N M3 (mI 0) (mI b) (hS2.km h3') (by omega) (hs2.tr hs3), fun h => ?_⟩⟩, fun h => absurd rfl h⟩
    exact absurd (by rw [ho]; simp) h
  · have he : e = 1 := by
      unfold an_other at ha
      split at ha <;> first | (cases ha; done) | (cases ha; rfl) | (split at ha <;> first | (cases ha; done) | (cases ha; rfl) | (split at ha <;> first | (cases ha; done) | (cases ha; rfl)))
    subst he
    refine ⟨1, rfl, ?_⟩
    show V (d + 62) (k - 3) qL_law 1693 [mE 2, mR 17 15 0, mR 18 58 112, mR 1 1 137, mI i, u5, u6] [mI 1] M1 lawQ
    have ea : an_other c K M1 (M (-1) (i + 1)) = .inr 1 := by rw [ind_other, hA, ← ind_other]; exact ha
    have Bk := B_L_law_1693 (d := d + 60) (k := k - 3) (M := M1) (Q := lawQ) (x4 := i) (u5 := u5) (u6 := u6) (sx0 := 1) lawQn
    rw [hs1.1, hs1.2 (i + 1) (by omega) (by omega)] at Bk
    refine Bk ⟨?_, ?_, ?_⟩ <;> try omega
    refine V_sE (mq_other hS1 (fun M3 b h3' hm hs3 => ?_))
    rw [ea] at hm
    have t0 : M3 112 5 = 1 := hm
    refine B_L_law_1705 (x5 := 1) lawQn ?_
    refine B_X10_thrown_0 ?_
    rw [t0]
    exact B_L_law_1711 (x5 := 1) (x6 := b) lawQn ⟨fun _ => ⟨fun _ => hn c K N M3 (mI 1) (mI b) (hS1.km h3') (by omega) (hs1.tr hs3), fun h => absurd h (by omega)⟩, fun h => absurd rfl h⟩
theorem ind_look {c : Int} {K : Nat} {M : mM} {y0 : Int} : an_look c K M y0 = an_look c K (nrm M) y0 := by
  unfold an_look
  rw [lkU_n]
set_option maxHeartbeats 1000000 in
theorem lc_look {d k : Nat} {c : Int} {K : Nat} {N : Int} {M : mM} {i : Int} {u5 u6 : mV} (hS : St c K N M) (hi : 0 ≤ i) (hL : i + 5 < M (-1) (-1)) (h3 : M (-1) (-1) ≤ 3072) (hR : ∀ j : Int, 0 ≤ j → j < M (-1) (-1) → r32 (M (-1) j)) (hk : 3 ≤ k)
    (hn : ∀ (c' : Int) (K' : Nat) (N' : Int) (M' : mM) (u5 u6 : mV), St c' K' N' M' → N' ≤ N + 1 → sE M M' → V (d + 62) (k - 3) qL_law 1989 [mE 2, mR 17 15 0, mR 18 58 112, mR 1 1 137, mI i, u5, u6] [] M' lawQ) : V (d + 62) k qL_law 1738 [mE 2, mR 17 15 0, mR 18 58 112, mR 1 1 137, mI i, u5, u6] [] M lawQ := by
  refine B_L_law_1738 lawQn ⟨?_, ?_, ?_, ?_⟩ <;> try omega
  refine V_sE (xq_look hS (fun M1 h1 hs1 => ?_))
  have hS1 := hS.kx h1
  have hA : nrm M1 = nrm M := nrm_x h1
  generalize ha : an_look c K M (M (-1) (i + 1)) = a
  rcases a with v | e
  · show V (d + 62) (k - 3) qL_law 1749 [mE 2, mR 17 15 0, mR 18 58 112, mR 1 1 137, mI i, u5, u6] [mI 0] (mUp M1 137 0 v) lawQ
    have hS2 : St c K N (mUp M1 137 0 v) := hS1.o
    have hs2 : sE M (mUp M1 137 0 v) := hs1.o
    have hB : nrm (mUp M1 137 0 v) = nrm M := nrm_o.trans hA
    have hv : (mUp M1 137 0 v) 137 0 = v := up_s
    revert hS2 hs2 hB hv
    generalize mUp M1 137 0 v = M2
    intro hS2 hs2 hB hv
    have ea : an_look c K M2 (M (-1) (i + 1)) = .inl v := by rw [ind_look, hB, ← ind_look]; exact ha
    have Bk := B_L_law_1749 (d := d + 60) (k := k - 3) (M := M2) (Q := lawQ) (x4 := i) (u5 := u5) (u6 := u6) (sx0 := 0) lawQn
    rw [hs2.1, hs2.2 (i + 1) (by omega) (by omega)] at Bk
    refine Bk ⟨?_, ?_, ?_⟩ <;> try omega
    refine V_sE (mq_look hS2 (fun M3 b h3' hm hs3 => ?_))
    rw [ea] at hm
    obtain ⟨t0, rfl⟩ := hm
    refine B_L_law_1761 (x5 := 0) lawQn ?_
    refine B_X10_thrown_0 ?_
    rw [t0]
    have ho : M3 137 0 = b := by rw [h3'.1 137 (by omega) (by omega)]; exact hv
    refine B_L_law_1767 (x5 := 0) (x6 := b) lawQn ⟨fun _ => ⟨fun h => absurd rfl h, fun _ => ⟨fun _ => hn c K N M3 (mI 0) (mI b) (hS2.km h3') (by omega) (hs2.tr hs3), fun h => ?_⟩⟩, fun h => absurd rfl h⟩
    exact absurd (by rw [ho]; simp) h
  · have he : e = 1 := by
      unfold an_look at ha
      split at ha <;> first | (cases ha; done) | (cases ha; rfl) | (split at ha <;> first | (cases ha; done) | (cases ha; rfl) | (split at ha <;> first | (cases ha; done) | (cases ha; rfl)))
    subst he
    refine ⟨1, rfl, ?_⟩
    show V (d + 62) (k - 3) qL_law 1749 [mE 2, mR 17 15 0, mR 18 58 112, mR 1 1 137, mI i, u5, u6] [mI 1] M1 lawQ
    have ea : an_look c K M1 (M (-1) (i + 1)) = .inr 1 := by rw [ind_look, hA, ← ind_look]; exact ha
    have Bk := B_L_law_1749 (d := d + 60) (k := k - 3) (M := M1) (Q := lawQ) (x4 := i) (u5 := u5) (u6 := u6) (sx0 := 1) lawQn
    rw [hs1.1, hs1.2 (i + 1) (by omega) (by omega)] at Bk
    refine Bk ⟨?_, ?_, ?_⟩ <;> try omega
    refine V_sE (mq_look hS1 (fun M3 b h3' hm hs3 => ?_))
    rw [ea] at hm
    have t0 : M3 112 5 = 1 := hm
    refine B_L_law_1761 (x5 := 1) lawQn ?_
    refine B_X10_thrown_0 ?_
    rw [t0]
    exact B_L_law_1767 (x5 := 1) (x6 := b) lawQn ⟨fun _ => ⟨fun _ => hn c K N M3 (mI 1) (mI b) (hS1.km h3') (by omega) (hs1.tr hs3), fun h => absurd h (by omega)⟩, fun h => absurd rfl h⟩
theorem ind_odds {c : Int} {K : Nat} {M : mM} {y0 y1 : Int} : an_odds c K M y0 y1 = an_odds c K (nrm M) y0 y1 := rfl
set_option maxHeartbeats 1000000 in
theorem lc_odds {d k : Nat} {c : Int} {K : Nat} {N : Int} {M : mM} {i : Int} {u5 u6 : mV} (hS : St c K N M) (hi : 0 ≤ i) (hL : i + 5 < M (-1) (-1)) (h3 : M (-1) (-1) ≤ 3072) (hR : ∀ j : Int, 0 ≤ j → j < M (-1) (-1) → r32 (M (-1) j)) (hk : 3 ≤ k)
    (hn : ∀ (c' : Int) (K' : Nat) (N' : Int) (M' : mM) (u5 u6 : mV), St c' K' N' M' → N' ≤ N + 1 → sE M M' → V (d + 62) (k - 3) qL_law 1989 [mE 2, mR 17 15 0, mR 18 58 112, mR 1 1 137, mI i, u5, u6] [] M' lawQ) : V (d + 62) k qL_law 1805 [mE 2, mR 17 15 0, mR 18 58 112, mR 1 1 137, mI i, u5, u6] [] M lawQ := by
  refine B_L_law_1805 lawQn ⟨?_, ?_, ?_, ?_, ?_, ?_⟩ <;> try omega
  refine V_sE (xq_odds hS (fun M1 h1 hs1 => ?_))
  have hS1 := hS.kx h1
  have hA : nrm M1 = nrm M := nrm_x h1
  generalize ha : an_odds c K M (M (-1) (i + 1)) (M (-1) (i + 2)) = a
  rcases a with v | e
  · show V (d + 62) (k - 3) qL_law 1822 [mE 2, mR 17 15 0, mR 18 58 112, mR 1 1 137, mI i, u5, u6] [mI 0] (mUp M1 137 0 v) lawQ
    have hS2 : St c K N (mUp M1 137 0 v) := hS1.o
    have hs2 : sE M (mUp M1 137 0 v) := hs1.o
    have hB : nrm (mUp M1 137 0 v) = nrm M := nrm_o.trans hA
    have hv : (mUp M1 137 0 v) 137 0 = v := up_s
    revert hS2 hs2 hB hv
    generalize mUp M1 137 0 v = M2
    intro hS2 hs2 hB hv
    have ea : an_odds c K M2 (M (-1) (i + 1)) (M (-1) (i + 2)) = .inl v := by rw [ind_odds, hB, ← ind_odds]; exact ha
    have Bk := B_L_law_1822 (d := d + 60) (k := k - 3) (M := M2) (Q := lawQ) (x4 := i) (u5 := u5) (u6 := u6) (sx0 := 0) lawQn
    rw [hs2.1, hs2.2 (i + 1) (by omega) (by omega), hs2.2 (i + 2) (by omega) (by omega)] at Bk
    refine Bk ⟨?_, ?_, ?_, ?_, ?_⟩ <;> try omega
    refine V_sE (mq_odds hS2 (fun M3 b h3' hm hs3 => ?_))
    rw [ea] at hm
    obtain ⟨t0, rfl⟩ := hm
    refine B_L_law_1840 (x5 := 0) lawQn ?_
    refine B_X10_thrown_0 ?_
    rw [t0]
    have ho : M3 137 0 = b := by rw [h3'.1 137 (by omega) (by omega)]; exact hv
    refine B_L_law_1846 (x5 := 0) (x6 := b) lawQn ⟨fun _ => ⟨fun h => absurd rfl h, fun _ => ⟨fun _ => hn c K N M3 (mI 0) (mI b) (hS2.km h3') (by omega) (hs2.tr hs3), fun h => ?_⟩⟩, fun h => absurd rfl h⟩
    exact absurd (by rw [ho]; simp) h
  · have he : e = 1 ∨ e = 2 := by
      unfold an_odds at ha
      split at ha <;> first | (cases ha; done) | (cases ha; first | exact Or.inl rfl | exact Or.inr rfl) | (split at ha <;> first | (cases ha; done) | (cases ha; first | exact Or.inl rfl | exact Or.inr rfl) | (split at ha <;> first | (cases ha; done) | (cases ha; first | exact Or.inl rfl | exact Or.inr rfl)))
    refine ⟨(e : Int), by rcases he with rfl | rfl <;> rfl, ?_⟩
    show V (d + 62) (k - 3) qL_law 1822 [mE 2, mR 17 15 0, mR 18 58 112, mR 1 1 137, mI i, u5, u6] [mI (e : Int)] M1 lawQ
    have ea : an_odds c K M1 (M (-1) (i + 1)) (M (-1) (i + 2)) = .inr e := by rw [ind_odds, hA, ← ind_odds]; exact ha
    have Bk := B_L_law_1822 (d := d + 60) (k := k - 3) (M := M1) (Q := lawQ) (x4 := i) (u5 := u5) (u6 := u6) (sx0 := (e : Int)) lawQn
    rw [hs1.1, hs1.2 (i + 1) (by omega) (by omega), hs1.2 (i + 2) (by omega) (by omega)] at Bk
    refine Bk ⟨?_, ?_, ?_, ?_, ?_⟩ <;> try omega
    refine V_sE (mq_odds hS1 (fun M3 b h3' hm hs3 => ?_))
    rw [ea] at hm
    have t0 : M3 112 5 = (e : Int) := hm
    refine B_L_law_1840 (x5 := (e : Int)) lawQn ?_
    refine B_X10_thrown_0 ?_
    rw [t0]
    exact B_L_law_1846 (x5 := (e : Int)) (x6 := b) lawQn ⟨fun _ => ⟨fun _ => hn c K N M3 (mI (e : Int)) (mI b) (hS1.km h3') (by omega) (hs1.tr hs3), fun h => absurd h (by omega)⟩, fun h => absurd rfl h⟩
theorem ind_years {c : Int} {K : Nat} {M : mM} {y0 y1 y2 y3 : Int} : an_years c K M y0 y1 y2 y3 = an_years c K (nrm M) y0 y1 y2 y3 := rfl
set_option maxHeartbeats 1000000 in
theorem lc_years {d k : Nat} {c : Int} {K : Nat} {N : Int} {M : mM} {i : Int} {u5 u6 : mV} (hS : St c K N M) (hi : 0 ≤ i) (hL : i + 5 < M (-1) (-1)) (h3 : M (-1) (-1) ≤ 3072) (hR : ∀ j : Int, 0 ≤ j → j < M (-1) (-1) → r32 (M (-1) j)) (hk : 3 ≤ k)
    (hn : ∀ (c' : Int) (K' : Nat) (N' : Int) (M' : mM) (u5 u6 : mV), St c' K' N' M' → N' ≤ N + 1 → sE M M' → V (d + 62) (k - 3) qL_law 1989 [mE 2, mR 17 15 0, mR 18 58 112, mR 1 1 137, mI i, u5, u6] [] M' lawQ) : V (d + 62) k qL_law 1873 [mE 2, mR 17 15 0, mR 18 58 112, mR 1 1 137, mI i, u5, u6] [] M lawQ := by
  refine B_L_law_1873 lawQn ⟨?_, ?_, ?_, ?_, ?_, ?_, ?_, ?_, ?_, ?_⟩ <;> try omega
  refine V_sE (xq_years hS (fun M1 h1 hs1 => ?_))
  have hS1 := hS.kx h1
  have hA : nrm M1 = nrm M := nrm_x h1
  generalize ha : an_years c K M (M (-1) (i + 1)) (M (-1) (i + 2)) (M (-1) (i + 3)) (M (-1) (i + 4)) = a
  rcases a with v | e
  · show V (d + 62) (k - 3) qL_law 1902 [mE 2, mR 17 15 0, mR 18 58 112, mR 1 1 137, mI i, u5, u6] [mI 0] (mUp M1 137 0 v) lawQ
    have hS2 : St c K N (mUp M1 137 0 v) := hS1.o
    have hs2 : sE M (mUp M1 137 0 v) := hs1.o
    have hB : nrm (mUp M1 137 0 v) = nrm M := nrm_o.trans hA
    have hv : (mUp M1 137 0 v) 137 0 = v := up_s
    revert hS2 hs2 hB hv
    generalize mUp M1 137 0 v = M2
    intro hS2 hs2 hB hv
    have ea : an_years c K M2 (M (-1) (i + 1)) (M (-1) (i + 2)) (M (-1) (i + 3)) (M (-1) (i + 4)) = .inl v := by rw [ind_years, hB, ← ind_years]; exact ha
    have Bk := B_L_law_1902 (d := d + 60) (k := k - 3) (M := M2) (Q := lawQ) (x4 := i) (u5 := u5) (u6 := u6) (sx0 := 0) lawQn
    rw [hs2.1, hs2.2 (i + 1) (by omega) (by omega), hs2.2 (i + 2) (by omega) (by omega), hs2.2 (i + 3) (by omega) (by omega), hs2.2 (i + 4) (by omega) (by omega)] at Bk
    refine Bk ⟨?_, ?_, ?_, ?_, ?_, ?_, ?_, ?_, ?_⟩ <;> try omega
    refine V_sE (mq_years hS2 (fun M3 b h3' hm hs3 => ?_))
    rw [ea] at hm
    obtain ⟨t0, rfl⟩ := hm
    refine B_L_law_1932 (x5 := 0) lawQn ?_
    refine B_X10_thrown_0 ?_
    rw [t0]
    have ho : M3 137 0 = b := by rw [h3'.1 137 (by omega) (by omega)]; exact hv
    refine B_L_law_1938 (x5 := 0) (x6 := b) lawQn ⟨fun _ => ⟨fun h => absurd rfl h, fun _ => ⟨fun _ => hn c K N M3 (mI 0) (mI b) (hS2.km h3') (by omega) (hs2.tr hs3), fun h => ?_⟩⟩, fun h => absurd rfl h⟩
    exact absurd (by rw [ho]; simp) h
  · have he : e = 1 ∨ e = 2 := by
      unfold an_years at ha
      split at ha <;> first | (cases ha; done) | (cases ha; first | exact Or.inl rfl | exact Or.inr rfl) | (split at ha <;> first | (cases ha; done) | (cases ha; first | exact Or.inl rfl | exact Or.inr rfl) | (split at ha <;> first | (cases ha; done) | (cases ha; first | exact Or.inl rfl | exact Or.inr rfl)))
    refine ⟨(e : Int), by rcases he with rfl | rfl <;> rfl, ?_⟩
    show V (d + 62) (k - 3) qL_law 1902 [mE 2, mR 17 15 0, mR 18 58 112, mR 1 1 137, mI i, u5, u6] [mI (e : Int)] M1 lawQ
    have ea : an_years c K M1 (M (-1) (i + 1)) (M (-1) (i + 2)) (M (-1) (i + 3)) (M (-1) (i + 4)) = .inr e := by rw [ind_years, hA, ← ind_years]; exact ha
    have Bk := B_L_law_1902 (d := d + 60) (k := k - 3) (M := M1) (Q := lawQ) (x4 := i) (u5 := u5) (u6 := u6) (sx0 := (e : Int)) lawQn
    rw [hs1.1, hs1.2 (i + 1) (by omega) (by omega), hs1.2 (i + 2) (by omega) (by omega), hs1.2 (i + 3) (by omega) (by omega), hs1.2 (i + 4) (by omega) (by omega)] at Bk
    refine Bk ⟨?_, ?_, ?_, ?_, ?_, ?_, ?_, ?_, ?_⟩ <;> try omega
    refine V_sE (mq_years hS1 (fun M3 b h3' hm hs3 => ?_))
    rw [ea] at hm
    have t0 : M3 112 5 = (e : Int) := hm
    refine B_L_law_1932 (x5 := (e : Int)) lawQn ?_
    refine B_X10_thrown_0 ?_
    rw [t0]
    exact B_L_law_1938 (x5 := (e : Int)) (x6 := b) lawQn ⟨fun _ => ⟨fun _ => hn c K N M3 (mI (e : Int)) (mI b) (hS1.km h3') (by omega) (hs1.tr hs3), fun h => absurd h (by omega)⟩, fun h => absurd rfl h⟩
