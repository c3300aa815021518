set_option maxHeartbeats 1000000 in
theorem lc_put {d k : Nat} {c : Int} {K : Nat} {N : Int} {M : mM} {i : Int} {u5 u6 : mV} (hS : St c K N M) (hN : N ≤ 1000) (hi : 0 ≤ i) (hL : i + 5 < M (-1) (-1)) (h3 : M (-1) (-1) ≤ 3072) (hR : ∀ j : Int, 0 ≤ j → j < M (-1) (-1) → r32 (M (-1) j)) (hk : 3 ≤ k)
    (hn : ∀ (c' : Int) (K' : Nat) (N' : Int) (M' : mM) (u5 u6 : mV), St c' K' N' M' → N' ≤ N + 1 → sE M M' → V (d + 62) (k - 3) qL_law 1989 [mE 2, mR 17 15 0, mR 18 58 112, mR 1 1 137, mI i, u5, u6] [] M' lawQ) : V (d + 62) k qL_law 1291 [mE 2, mR 17 15 0, mR 18 58 112, mR 1 1 137, mI i, u5, u6] [] M lawQ := by
  refine B_L_law_1291 lawQn ⟨?_, ?_, ?_, ?_, ?_⟩ <;> try omega
  refine V_sE (xa_put hS (by omega) (fun ho M1 hX hs1 => ?_) (fun ho hs1 => ?_))
  · show V (d + 62) k qL_law 1307 [mE 2, mR 17 15 0, mR 18 58 112, mR 1 1 137, mI i, u5, u6] [mI (c - wtB K M (M (-1) (i + 2)) - M 9 (M (-1) (i + 1)))] (M1) lawQ
    have Bk := B_L_law_1307 (d := d + 60) (k := k) (M := M1) (Q := lawQ) (x4 := i) (u5 := u5) (u6 := u6) (sx0 := c - wtB K M (M (-1) (i + 2)) - M 9 (M (-1) (i + 1))) lawQn
    rw [hs1.1, hs1.2 (i + 1) (by omega) (by omega), hs1.2 (i + 2) (by omega) (by omega)] at Bk
    refine Bk ⟨?_, ?_, ?_, ?_, ?_⟩ <;> try omega
    exact V_sE (ma_put hS (by omega) (Or.inl ⟨ho, hX⟩) (fun _ M2 hS2 hs2 => B_L_law_1323 lawQn ⟨fun _ => V_mono (Nat.sub_le k 3) (hn c K N M2 u5 u6 hS2 (by omega) (hs1.tr hs2)), fun h => absurd rfl h⟩) (fun hno => absurd ho hno))
  · show V (d + 62) k qL_law 1307 [mE 2, mR 17 15 0, mR 18 58 112, mR 1 1 137, mI i, u5, u6] [mI (-1)] (rfX M) lawQ
    have Bk := B_L_law_1307 (d := d + 60) (k := k) (M := rfX M) (Q := lawQ) (x4 := i) (u5 := u5) (u6 := u6) (sx0 := -1) lawQn
    rw [hs1.1, hs1.2 (i + 1) (by omega) (by omega), hs1.2 (i + 2) (by omega) (by omega)] at Bk
    refine Bk ⟨?_, ?_, ?_, ?_, ?_⟩ <;> try omega
    exact V_sE (ma_put hS (by omega) (Or.inr ⟨ho, rfl⟩) (fun h => absurd h ho) (fun _ M2 hS2 hs2 => B_L_law_1323 lawQn ⟨fun _ => V_mono (Nat.sub_le k 3) (hn c K (N + 1) M2 u5 u6 hS2 (by omega) (hs1.tr hs2)), fun h => absurd rfl h⟩))
set_option maxHeartbeats 1000000 in
theorem lc_take {d k : Nat} {c : Int} {K : Nat} {N : Int} {M : mM} {i : Int} {u5 u6 : mV} (hS : St c K N M) (hN : N ≤ 1000) (hi : 0 ≤ i) (hL : i + 5 < M (-1) (-1)) (h3 : M (-1) (-1) ≤ 3072) (hR : ∀ j : Int, 0 ≤ j → j < M (-1) (-1) → r32 (M (-1) j)) (hk : 3 ≤ k)
    (hn : ∀ (c' : Int) (K' : Nat) (N' : Int) (M' : mM) (u5 u6 : mV), St c' K' N' M' → N' ≤ N + 1 → sE M M' → V (d + 62) (k - 3) qL_law 1989 [mE 2, mR 17 15 0, mR 18 58 112, mR 1 1 137, mI i, u5, u6] [] M' lawQ) : V (d + 62) k qL_law 1328 [mE 2, mR 17 15 0, mR 18 58 112, mR 1 1 137, mI i, u5, u6] [] M lawQ := by
  refine B_L_law_1328 lawQn ⟨?_, ?_, ?_, ?_, ?_⟩ <;> try omega
  refine V_sE (xa_take hS (by omega) (fun ho M1 hX hs1 => ?_) (fun ho hs1 => ?_))
  · show V (d + 62) k qL_law 1344 [mE 2, mR 17 15 0, mR 18 58 112, mR 1 1 137, mI i, u5, u6] [mI (rTk K M (M (-1) (i + 1)) (M (-1) (i + 2)) 6)] (M1) lawQ
    have Bk := B_L_law_1344 (d := d + 60) (k := k) (M := M1) (Q := lawQ) (x4 := i) (u5 := u5) (u6 := u6) (sx0 := rTk K M (M (-1) (i + 1)) (M (-1) (i + 2)) 6) lawQn
    rw [hs1.1, hs1.2 (i + 1) (by omega) (by omega), hs1.2 (i + 2) (by omega) (by omega)] at Bk
    refine Bk ⟨?_, ?_, ?_, ?_, ?_⟩ <;> try omega
    exact V_sE (ma_take hS (by omega) (Or.inl ⟨ho, hX⟩) (fun _ M2 hS2 hs2 => B_L_law_1360 lawQn ⟨fun _ => V_mono (Nat.sub_le k 3) (hn c K N M2 u5 u6 hS2 (by omega) (hs1.tr hs2)), fun h => absurd rfl h⟩) (fun hno => absurd ho hno))
  · show V (d + 62) k qL_law 1344 [mE 2, mR 17 15 0, mR 18 58 112, mR 1 1 137, mI i, u5, u6] [mI (-1)] (rfX M) lawQ
    have Bk := B_L_law_1344 (d := d + 60) (k := k) (M := rfX M) (Q := lawQ) (x4 := i) (u5 := u5) (u6 := u6) (sx0 := -1) lawQn
    rw [hs1.1, hs1.2 (i + 1) (by omega) (by omega), hs1.2 (i + 2) (by omega) (by omega)] at Bk
    refine Bk ⟨?_, ?_, ?_, ?_, ?_⟩ <;> try omega
    exact V_sE (ma_take hS (by omega) (Or.inr ⟨ho, rfl⟩) (fun h => absurd h ho) (fun _ M2 hS2 hs2 => B_L_law_1360 lawQn ⟨fun _ => V_mono (Nat.sub_le k 3) (hn c K (N + 1) M2 u5 u6 hS2 (by omega) (hs1.tr hs2)), fun h => absurd rfl h⟩))
set_option maxHeartbeats 1000000 in
theorem lc_rest {d k : Nat} {c : Int} {K : Nat} {N : Int} {M : mM} {i : Int} {u5 u6 : mV} (hS : St c K N M) (hN : N ≤ 1000) (hi : 0 ≤ i) (hL : i + 5 < M (-1) (-1)) (h3 : M (-1) (-1) ≤ 3072) (hR : ∀ j : Int, 0 ≤ j → j < M (-1) (-1) → r32 (M (-1) j)) (hk : 3 ≤ k)
    (hn : ∀ (c' : Int) (K' : Nat) (N' : Int) (M' : mM) (u5 u6 : mV), St c' K' N' M' → N' ≤ N + 1 → sE M M' → V (d + 62) (k - 3) qL_law 1989 [mE 2, mR 17 15 0, mR 18 58 112, mR 1 1 137, mI i, u5, u6] [] M' lawQ) : V (d + 62) k qL_law 1365 [mE 2, mR 17 15 0, mR 18 58 112, mR 1 1 137, mI i, u5, u6] [] M lawQ := by
  refine B_L_law_1365 lawQn ⟨?_, ?_, ?_, ?_, ?_⟩ <;> try omega
  refine V_sE (xa_rest hS (by omega) (fun ho M1 hX hs1 => ?_) (fun ho hs1 => ?_))
  · show V (d + 62) k qL_law 1381 [mE 2, mR 17 15 0, mR 18 58 112, mR 1 1 137, mI i, u5, u6] [mI (M 113 (M (-1) (i + 1)))] (M1) lawQ
    have Bk := B_L_law_1381 (d := d + 60) (k := k) (M := M1) (Q := lawQ) (x4 := i) (u5 := u5) (u6 := u6) (sx0 := M 113 (M (-1) (i + 1))) lawQn
    rw [hs1.1, hs1.2 (i + 1) (by omega) (by omega), hs1.2 (i + 2) (by omega) (by omega)] at Bk
    refine Bk ⟨?_, ?_, ?_, ?_, ?_⟩ <;> try omega
    exact V_sE (ma_rest hS (by omega) (Or.inl ⟨ho, hX⟩) (fun _ M2 hS2 hs2 => B_L_law_1397 lawQn ⟨fun _ => V_mono (Nat.sub_le k 3) (hn c K N M2 u5 u6 hS2 (by omega) (hs1.tr hs2)), fun h => absurd rfl h⟩) (fun hno => absurd ho hno))
  · show V (d + 62) k qL_law 1381 [mE 2, mR 17 15 0, mR 18 58 112, mR 1 1 137, mI i, u5, u6] [mI (-1)] (rfX M) lawQ
    have Bk := B_L_law_1381 (d := d + 60) (k := k) (M := rfX M) (Q := lawQ) (x4 := i) (u5 := u5) (u6 := u6) (sx0 := -1) lawQn
    rw [hs1.1, hs1.2 (i + 1) (by omega) (by omega), hs1.2 (i + 2) (by omega) (by omega)] at Bk
    refine Bk ⟨?_, ?_, ?_, ?_, ?_⟩ <;> try omega
    exact V_sE (ma_rest hS (by omega) (Or.inr ⟨ho, rfl⟩) (fun h => absurd h ho) (fun _ M2 hS2 hs2 => B_L_law_1397 lawQn ⟨fun _ => V_mono (Nat.sub_le k 3) (hn c K (N + 1) M2 u5 u6 hS2 (by omega) (hs1.tr hs2)), fun h => absurd rfl h⟩))
set_option maxHeartbeats 1000000 in
theorem lc_load {d k : Nat} {c : Int} {K : Nat} {N : Int} {M : mM} {i : Int} {u5 u6 : mV} (hS : St c K N M) (hN : N ≤ 1000) (hi : 0 ≤ i) (hL : i + 5 < M (-1) (-1)) (h3 : M (-1) (-1) ≤ 3072) (hR : ∀ j : Int, 0 ≤ j → j < M (-1) (-1) → r32 (M (-1) j)) (hk : 3 ≤ k)
    (hn : ∀ (c' : Int) (K' : Nat) (N' : Int) (M' : mM) (u5 u6 : mV), St c' K' N' M' → N' ≤ N + 1 → sE M M' → V (d + 62) (k - 3) qL_law 1989 [mE 2, mR 17 15 0, mR 18 58 112, mR 1 1 137, mI i, u5, u6] [] M' lawQ) : V (d + 62) k qL_law 1402 [mE 2, mR 17 15 0, mR 18 58 112, mR 1 1 137, mI i, u5, u6] [] M lawQ := by
  refine B_L_law_1402 lawQn ?_
  refine V_sE (xa_load hS (by omega) (fun ho M1 hX hs1 => ?_) (fun ho hs1 => ?_))
  · show V (d + 62) k qL_law 1406 [mE 2, mR 17 15 0, mR 18 58 112, mR 1 1 137, mI i, u5, u6] [mI (sg (fun s => M 9 s * bsF c K M s) K)] (M1) lawQ
    have Bk := B_L_law_1406 (d := d + 60) (k := k) (M := M1) (Q := lawQ) (x4 := i) (u5 := u5) (u6 := u6) (sx0 := sg (fun s => M 9 s * bsF c K M s) K) lawQn
    refine Bk ?_
    exact V_sE (ma_load hS (by omega) (Or.inl ⟨ho, hX⟩) (fun _ M2 hS2 hs2 => B_L_law_1410 lawQn ⟨fun _ => V_mono (Nat.sub_le k 3) (hn c K N M2 u5 u6 hS2 (by omega) (hs1.tr hs2)), fun h => absurd rfl h⟩) (fun hno => absurd ho hno))
  · show V (d + 62) k qL_law 1406 [mE 2, mR 17 15 0, mR 18 58 112, mR 1 1 137, mI i, u5, u6] [mI (-1)] (rfX M) lawQ
    have Bk := B_L_law_1406 (d := d + 60) (k := k) (M := rfX M) (Q := lawQ) (x4 := i) (u5 := u5) (u6 := u6) (sx0 := -1) lawQn
    refine Bk ?_
    exact V_sE (ma_load hS (by omega) (Or.inr ⟨ho, rfl⟩) (fun h => absurd h ho) (fun _ M2 hS2 hs2 => B_L_law_1410 lawQn ⟨fun _ => V_mono (Nat.sub_le k 3) (hn c K (N + 1) M2 u5 u6 hS2 (by omega) (hs1.tr hs2)), fun h => absurd rfl h⟩))
set_option maxHeartbeats 1000000 in
theorem lc_join {d k : Nat} {c : Int} {K : Nat} {N : Int} {M : mM} {i : Int} {u5 u6 : mV} (hS : St c K N M) (hN : N ≤ 1000) (hi : 0 ≤ i) (hL : i + 5 < M (-1) (-1)) (h3 : M (-1) (-1) ≤ 3072) (hR : ∀ j : Int, 0 ≤ j → j < M (-1) (-1) → r32 (M (-1) j)) (hk : 3 ≤ k)
    (hn : ∀ (c' : Int) (K' : Nat) (N' : Int) (M' : mM) (u5 u6 : mV), St c' K' N' M' → N' ≤ N + 1 → sE M M' → V (d + 62) (k - 3) qL_law 1989 [mE 2, mR 17 15 0, mR 18 58 112, mR 1 1 137, mI i, u5, u6] [] M' lawQ) : V (d + 62) k qL_law 1415 [mE 2, mR 17 15 0, mR 18 58 112, mR 1 1 137, mI i, u5, u6] [] M lawQ := by
  refine B_L_law_1415 lawQn ⟨?_, ?_, ?_, ?_, ?_⟩ <;> try omega
  refine V_sE (xa_join hS (by omega) (fun ho M1 hX hs1 => ?_) (fun ho hs1 => ?_))
  · show V (d + 62) k qL_law 1431 [mE 2, mR 17 15 0, mR 18 58 112, mR 1 1 137, mI i, u5, u6] [mI (c - wtB K M (M (-1) (i + 1)) - wtB K M (M (-1) (i + 2)))] (M1) lawQ
    have Bk := B_L_law_1431 (d := d + 60) (k := k) (M := M1) (Q := lawQ) (x4 := i) (u5 := u5) (u6 := u6) (sx0 := c - wtB K M (M (-1) (i + 1)) - wtB K M (M (-1) (i + 2))) lawQn
    rw [hs1.1, hs1.2 (i + 1) (by omega) (by omega), hs1.2 (i + 2) (by omega) (by omega)] at Bk
    refine Bk ⟨?_, ?_, ?_, ?_, ?_⟩ <;> try omega
    exact V_sE (ma_join hS (by omega) (Or.inl ⟨ho, hX⟩) (fun _ M2 hS2 hs2 => B_L_law_1447 lawQn ⟨fun _ => V_mono (Nat.sub_le k 3) (hn c K N M2 u5 u6 hS2 (by omega) (hs1.tr hs2)), fun h => absurd rfl h⟩) (fun hno => absurd ho hno))
  · show V (d + 62) k qL_law 1431 [mE 2, mR 17 15 0, mR 18 58 112, mR 1 1 137, mI i, u5, u6] [mI (-1)] (rfX M) lawQ
    have Bk := B_L_law_1431 (d := d + 60) (k := k) (M := rfX M) (Q := lawQ) (x4 := i) (u5 := u5) (u6 := u6) (sx0 := -1) lawQn
    rw [hs1.1, hs1.2 (i + 1) (by omega) (by omega), hs1.2 (i + 2) (by omega) (by omega)] at Bk
    refine Bk ⟨?_, ?_, ?_, ?_, ?_⟩ <;> try omega
    exact V_sE (ma_join hS (by omega) (Or.inr ⟨ho, rfl⟩) (fun h => absurd h ho) (fun _ M2 hS2 hs2 => B_L_law_1447 lawQn ⟨fun _ => V_mono (Nat.sub_le k 3) (hn c K (N + 1) M2 u5 u6 hS2 (by omega) (hs1.tr hs2)), fun h => absurd rfl h⟩))
set_option maxHeartbeats 1000000 in
theorem lc_pack {d k : Nat} {c : Int} {K : Nat} {N : Int} {M : mM} {i : Int} {u5 u6 : mV} (hS : St c K N M) (hN : N ≤ 1000) (hi : 0 ≤ i) (hL : i + 5 < M (-1) (-1)) (h3 : M (-1) (-1) ≤ 3072) (hR : ∀ j : Int, 0 ≤ j → j < M (-1) (-1) → r32 (M (-1) j)) (hk : 3 ≤ k)
    (hn : ∀ (c' : Int) (K' : Nat) (N' : Int) (M' : mM) (u5 u6 : mV), St c' K' N' M' → N' ≤ N + 1 → sE M M' → V (d + 62) (k - 3) qL_law 1989 [mE 2, mR 17 15 0, mR 18 58 112, mR 1 1 137, mI i, u5, u6] [] M' lawQ) : V (d + 62) k qL_law 1254 [mE 2, mR 17 15 0, mR 18 58 112, mR 1 1 137, mI i, u5, u6] [] M lawQ := by
  refine B_L_law_1254 lawQn ⟨?_, ?_, ?_, ?_, ?_⟩ <;> try omega
  refine V_sE (xa_pack hS (by omega) (fun ho M1 hX hs1 => ?_) (fun ho Ma hMa hs1 => ?_))
  · show V (d + 62) k qL_law 1270 [mE 2, mR 17 15 0, mR 18 58 112, mR 1 1 137, mI i, u5, u6] [mI (pkBn c K M (M (-1) (i + 1)) (M (-1) (i + 2)))] (M1) lawQ
    have Bk := B_L_law_1270 (d := d + 60) (k := k) (M := M1) (Q := lawQ) (x4 := i) (u5 := u5) (u6 := u6) (sx0 := pkBn c K M (M (-1) (i + 1)) (M (-1) (i + 2))) lawQn
    rw [hs1.1, hs1.2 (i + 1) (by omega) (by omega), hs1.2 (i + 2) (by omega) (by omega)] at Bk
    refine Bk ⟨?_, ?_, ?_, ?_, ?_⟩ <;> try omega
    exact V_sE (ma_pack hS (by omega) (Or.inl ⟨ho, hX⟩) (fun _ M2 hS2 hs2 => B_L_law_1286 lawQn ⟨fun _ => V_mono (Nat.sub_le k 3) (hn c K N M2 u5 u6 hS2 (by omega) (hs1.tr hs2)), fun h => absurd rfl h⟩) (fun hno => absurd ho hno))
  · show V (d + 62) k qL_law 1270 [mE 2, mR 17 15 0, mR 18 58 112, mR 1 1 137, mI i, u5, u6] [mI (-1)] (rfX Ma) lawQ
    have Bk := B_L_law_1270 (d := d + 60) (k := k) (M := rfX Ma) (Q := lawQ) (x4 := i) (u5 := u5) (u6 := u6) (sx0 := -1) lawQn
    rw [hs1.1, hs1.2 (i + 1) (by omega) (by omega), hs1.2 (i + 2) (by omega) (by omega)] at Bk
    refine Bk ⟨?_, ?_, ?_, ?_, ?_⟩ <;> try omega
    exact V_sE (ma_pack hS (by omega) (Or.inr ⟨ho, Ma, hMa, rfl⟩) (fun h => absurd h ho) (fun _ M2 hS2 hs2 => B_L_law_1286 lawQn ⟨fun _ => V_mono (Nat.sub_le k 3) (hn c K (N + 1) M2 u5 u6 hS2 (by omega) (hs1.tr hs2)), fun h => absurd rfl h⟩))
set_option maxHeartbeats 1000000 in
theorem lc_note {d k : Nat} {c : Int} {K : Nat} {N : Int} {M : mM} {i : Int} {u5 u6 : mV} (hS : St c K N M) (hN : N ≤ 1000) (hi : 0 ≤ i) (hL : i + 5 < M (-1) (-1)) (h3 : M (-1) (-1) ≤ 3072) (hR : ∀ j : Int, 0 ≤ j → j < M (-1) (-1) → r32 (M (-1) j)) (hk : 3 ≤ k)
    (hn : ∀ (c' : Int) (K' : Nat) (N' : Int) (M' : mM) (u5 u6 : mV), St c' K' N' M' → N' ≤ N + 1 → sE M M' → V (d + 62) (k - 3) qL_law 1989 [mE 2, mR 17 15 0, mR 18 58 112, mR 1 1 137, mI i, u5, u6] [] M' lawQ) : V (d + 62) k qL_law 1645 [mE 2, mR 17 15 0, mR 18 58 112, mR 1 1 137, mI i, u5, u6] [] M lawQ := by
  refine B_L_law_1645 lawQn ⟨?_, ?_, ?_, ?_, ?_⟩ <;> try omega
  refine V_sE (xa_note hS (by omega) (fun ho hs1 => ?_) (fun ho hs1 => ?_))
  · show V (d + 62) k qL_law 1661 [mE 2, mR 17 15 0, mR 18 58 112, mR 1 1 137, mI i, u5, u6] [mI (M 112 10 + 1)] (ntX M (M (-1) (i + 1)) (M (-1) (i + 2))) lawQ
    have Bk := B_L_law_1661 (d := d + 60) (k := k) (M := ntX M (M (-1) (i + 1)) (M (-1) (i + 2))) (Q := lawQ) (x4 := i) (u5 := u5) (u6 := u6) (sx0 := M 112 10 + 1) lawQn
    rw [hs1.1, hs1.2 (i + 1) (by omega) (by omega), hs1.2 (i + 2) (by omega) (by omega)] at Bk
    refine Bk ⟨?_, ?_, ?_, ?_, ?_⟩ <;> try omega
    exact V_sE (ma_note hS (by omega) (Or.inl ⟨ho, rfl⟩) (fun _ M2 hS2 hs2 => B_L_law_1677 lawQn ⟨fun _ => V_mono (Nat.sub_le k 3) (hn c K N M2 u5 u6 hS2 (by omega) (hs1.tr hs2)), fun h => absurd rfl h⟩) (fun hno => absurd ho hno))
  · show V (d + 62) k qL_law 1661 [mE 2, mR 17 15 0, mR 18 58 112, mR 1 1 137, mI i, u5, u6] [mI (-1)] (rfN M) lawQ
    have Bk := B_L_law_1661 (d := d + 60) (k := k) (M := rfN M) (Q := lawQ) (x4 := i) (u5 := u5) (u6 := u6) (sx0 := -1) lawQn
    rw [hs1.1, hs1.2 (i + 1) (by omega) (by omega), hs1.2 (i + 2) (by omega) (by omega)] at Bk
    refine Bk ⟨?_, ?_, ?_, ?_, ?_⟩ <;> try omega
    exact V_sE (ma_note hS (by omega) (Or.inr ⟨ho, rfl⟩) (fun h => absurd h ho) (fun _ M2 hS2 hs2 => B_L_law_1677 lawQn ⟨fun _ => V_mono (Nat.sub_le k 3) (hn c K (N + 1) M2 u5 u6 hS2 (by omega) (hs1.tr hs2)), fun h => absurd rfl h⟩))
set_option maxHeartbeats 1000000 in
theorem lc_undo {d k : Nat} {c : Int} {K : Nat} {N : Int} {M : mM} {i : Int} {u5 u6 : mV} (hS : St c K N M) (hN : N ≤ 1000) (hi : 0 ≤ i) (hL : i + 5 < M (-1) (-1)) (h3 : M (-1) (-1) ≤ 3072) (hR : ∀ j : Int, 0 ≤ j → j < M (-1) (-1) → r32 (M (-1) j)) (hk : 3 ≤ k)
    (hn : ∀ (c' : Int) (K' : Nat) (N' : Int) (M' : mM) (u5 u6 : mV), St c' K' N' M' → N' ≤ N + 1 → sE M M' → V (d + 62) (k - 3) qL_law 1989 [mE 2, mR 17 15 0, mR 18 58 112, mR 1 1 137, mI i, u5, u6] [] M' lawQ) : V (d + 62) k qL_law 1452 [mE 2, mR 17 15 0, mR 18 58 112, mR 1 1 137, mI i, u5, u6] [] M lawQ := by
  refine B_L_law_1452 lawQn ?_
  refine V_sE (xa_undo hS (fun ho hs1 => ?_) (fun ho hs1 => ?_))
  · show V (d + 62) k qL_law 1456 [mE 2, mR 17 15 0, mR 18 58 112, mR 1 1 137, mI i, u5, u6] [mI (-1)] (M) lawQ
    have Bk := B_L_law_1456 (d := d + 60) (k := k) (M := M) (Q := lawQ) (x4 := i) (u5 := u5) (u6 := u6) (sx0 := -1) lawQn
    refine Bk ?_
    exact V_sE (ma_undo0 hS ho (fun M2 hS2 hs2 => B_L_law_1460 lawQn ⟨fun _ => V_mono (Nat.sub_le k 3) (hn c K N M2 u5 u6 hS2 (by omega) (hs1.tr hs2)), fun h => absurd rfl h⟩))
  · show V (d + 62) k qL_law 1456 [mE 2, mR 17 15 0, mR 18 58 112, mR 1 1 137, mI i, u5, u6] [mI (M 112 8 - 1)] (unX M) lawQ
    have Bk := B_L_law_1456 (d := d + 60) (k := k) (M := unX M) (Q := lawQ) (x4 := i) (u5 := u5) (u6 := u6) (sx0 := M 112 8 - 1) lawQn
    refine Bk ?_
    exact V_sE (ma_undo1 hS ho (fun M2 hS2 hs2 => B_L_law_1460 lawQn ⟨fun _ => V_mono (Nat.sub_le k 3) (hn c K N M2 u5 u6 hS2 (by omega) (hs1.tr hs2)), fun h => absurd rfl h⟩))
set_option maxHeartbeats 1000000 in
theorem lc_feed {d k : Nat} {c : Int} {K : Nat} {N : Int} {M : mM} {i : Int} {u5 u6 : mV} (hS : St c K N M) (hN : N ≤ 1000) (hi : 0 ≤ i) (hL : i + 5 < M (-1) (-1)) (h3 : M (-1) (-1) ≤ 3072) (hR : ∀ j : Int, 0 ≤ j → j < M (-1) (-1) → r32 (M (-1) j)) (hk : 3 ≤ k)
    (hn : ∀ (c' : Int) (K' : Nat) (N' : Int) (M' : mM) (u5 u6 : mV), St c' K' N' M' → N' ≤ N + 1 → sE M M' → V (d + 62) (k - 3) qL_law 1989 [mE 2, mR 17 15 0, mR 18 58 112, mR 1 1 137, mI i, u5, u6] [] M' lawQ) : V (d + 62) k qL_law 200 [mE 2, mR 17 15 0, mR 18 58 112, mR 1 1 137, mI i, u5, u6] [] M lawQ := by
  refine B_L_law_200 lawQn ⟨?_, ?_, ?_, ?_, ?_, ?_, ?_, ?_, ?_, ?_, ?_⟩ <;> try omega
  refine V_sE (xa_feed hS (fun ho M1 hX hs1 => ?_) (fun ho hs1 => ?_))
  · show V (d + 62) k qL_law 234 [mE 2, mR 17 15 0, mR 18 58 112, mR 1 1 137, mI i, u5, u6] [mI (M 112 16 + 20)] (M1) lawQ
    have Bk := B_L_law_234 (d := d + 60) (k := k) (M := M1) (Q := lawQ) (x4 := i) (u5 := u5) (u6 := u6) (sx0 := M 112 16 + 20) lawQn
    rw [hs1.1, hs1.2 (i + 1) (by omega) (by omega), hs1.2 (i + 2) (by omega) (by omega), hs1.2 (i + 3) (by omega) (by omega), hs1.2 (i + 4) (by omega) (by omega), hs1.2 (i + 5) (by omega) (by omega)] at Bk
    refine Bk ⟨?_, ?_, ?_, ?_, ?_, ?_, ?_, ?_, ?_, ?_, ?_⟩ <;> try omega
    exact V_sE (ma_feed1 hS ho hX (fun M2 hS2 hs2 => B_L_law_268 lawQn ⟨fun _ => V_mono (Nat.sub_le k 3) (hn c K N M2 u5 u6 hS2 (by omega) (hs1.tr hs2)), fun h => absurd rfl h⟩))
  · show V (d + 62) k qL_law 234 [mE 2, mR 17 15 0, mR 18 58 112, mR 1 1 137, mI i, u5, u6] [mI (-1)] (M) lawQ
    have Bk := B_L_law_234 (d := d + 60) (k := k) (M := M) (Q := lawQ) (x4 := i) (u5 := u5) (u6 := u6) (sx0 := -1) lawQn
    rw [hs1.1, hs1.2 (i + 1) (by omega) (by omega), hs1.2 (i + 2) (by omega) (by omega), hs1.2 (i + 3) (by omega) (by omega), hs1.2 (i + 4) (by omega) (by omega), hs1.2 (i + 5) (by omega) (by omega)] at Bk
    refine Bk ⟨?_, ?_, ?_, ?_, ?_, ?_, ?_, ?_, ?_, ?_, ?_⟩ <;> try omega
    exact V_sE (ma_feed0 hS ho (fun M2 hS2 hs2 => B_L_law_268 lawQn ⟨fun _ => V_mono (Nat.sub_le k 3) (hn c K N M2 u5 u6 hS2 (by omega) (hs1.tr hs2)), fun h => absurd rfl h⟩))
set_option maxHeartbeats 1000000 in
theorem lc_fault {d k : Nat} {c : Int} {K : Nat} {N : Int} {M : mM} {i : Int} {u5 u6 : mV} (hS : St c K N M) (hN : N ≤ 1000) (hi : 0 ≤ i) (hL : i + 5 < M (-1) (-1)) (h3 : M (-1) (-1) ≤ 3072) (hR : ∀ j : Int, 0 ≤ j → j < M (-1) (-1) → r32 (M (-1) j)) (hk : 3 ≤ k)
    (hn : ∀ (c' : Int) (K' : Nat) (N' : Int) (M' : mM) (u5 u6 : mV), St c' K' N' M' → N' ≤ N + 1 → sE M M' → V (d + 62) (k - 3) qL_law 1989 [mE 2, mR 17 15 0, mR 18 58 112, mR 1 1 137, mI i, u5, u6] [] M' lawQ) : V (d + 62) k qL_law 329 [mE 2, mR 17 15 0, mR 18 58 112, mR 1 1 137, mI i, u5, u6] [] M lawQ := by
  refine B_L_law_329 lawQn ?_
  refine V_sE (xq_fault hS (fun hs1 => ?_))
  · show V (d + 62) k qL_law 333 [mE 2, mR 17 15 0, mR 18 58 112, mR 1 1 137, mI i, u5, u6] [mI (M 112 17)] (M) lawQ
    have Bk := B_L_law_333 (d := d + 60) (k := k) (M := M) (Q := lawQ) (x4 := i) (u5 := u5) (u6 := u6) (sx0 := M 112 17) lawQn
    refine Bk ?_
    exact V_sE (mq_fault hS (fun M2 hS2 hs2 => B_L_law_337 lawQn ⟨fun _ => V_mono (Nat.sub_le k 3) (hn c K N M2 u5 u6 hS2 (by omega) (hs1.tr hs2)), fun h => absurd rfl h⟩))
set_option maxHeartbeats 1000000 in
theorem lc_forget {d k : Nat} {c : Int} {K : Nat} {N : Int} {M : mM} {i : Int} {u5 u6 : mV} (hS : St c K N M) (hN : N ≤ 1000) (hi : 0 ≤ i) (hL : i + 5 < M (-1) (-1)) (h3 : M (-1) (-1) ≤ 3072) (hR : ∀ j : Int, 0 ≤ j → j < M (-1) (-1) → r32 (M (-1) j)) (hk : 3 ≤ k)
    (hn : ∀ (c' : Int) (K' : Nat) (N' : Int) (M' : mM) (u5 u6 : mV), St c' K' N' M' → N' ≤ N + 1 → sE M M' → V (d + 62) (k - 3) qL_law 1989 [mE 2, mR 17 15 0, mR 18 58 112, mR 1 1 137, mI i, u5, u6] [] M' lawQ) : V (d + 62) k qL_law 1794 [mE 2, mR 17 15 0, mR 18 58 112, mR 1 1 137, mI i, u5, u6] [] M lawQ := by
  refine B_L_law_1794 lawQn ?_
  refine V_sE (xa_forget (fun hs1 => ?_))
  · show V (d + 62) k qL_law 1798 [mE 2, mR 17 15 0, mR 18 58 112, mR 1 1 137, mI i, u5, u6] [] (mUp M 16 3 0) lawQ
    have Bk := B_L_law_1798 (d := d + 60) (k := k) (M := mUp M 16 3 0) (Q := lawQ) (x4 := i) (u5 := u5) (u6 := u6) lawQn
    refine Bk ?_
    exact V_sE (ma_forget hS (fun M2 hS2 hs2 => B_L_law_1802 lawQn (V_mono (Nat.sub_le k 3) (hn c K N M2 u5 u6 hS2 (by omega) (hs1.tr hs2)))))
set_option maxHeartbeats 1000000 in
theorem lc_image {d k : Nat} {c : Int} {K : Nat} {N : Int} {M : mM} {i : Int} {u5 u6 : mV} (hS : St c K N M) (hN : N ≤ 1000) (hi : 0 ≤ i) (hL : i + 5 < M (-1) (-1)) (h3 : M (-1) (-1) ≤ 3072) (hR : ∀ j : Int, 0 ≤ j → j < M (-1) (-1) → r32 (M (-1) j)) (hk : 3 ≤ k)
    (hn : ∀ (c' : Int) (K' : Nat) (N' : Int) (M' : mM) (u5 u6 : mV), St c' K' N' M' → N' ≤ N + 1 → sE M M' → V (d + 62) (k - 3) qL_law 1989 [mE 2, mR 17 15 0, mR 18 58 112, mR 1 1 137, mI i, u5, u6] [] M' lawQ) : V (d + 62) k qL_law 1965 [mE 2, mR 17 15 0, mR 18 58 112, mR 1 1 137, mI i, u5, u6] [] M lawQ := by
  refine B_L_law_1965 lawQn ?_
  refine V_sE (xa_image (fun M1 y0 y1 y2 y3 y4 y5 y6 y7 y8 hs1 => ?_))
  · show V (d + 62) k qL_law 1969 [mE 2, mR 17 15 0, mR 18 58 112, mR 1 1 137, mI i, u5, u6] [] (M1) lawQ
    have Bk := B_L_law_1969 (d := d + 60) (k := k) (M := M1) (Q := lawQ) (x4 := i) (u5 := u5) (u6 := u6) lawQn
    refine Bk ?_
    exact V_sE (ma_image hS y0 y1 y2 y3 y4 y5 y6 y7 y8 (fun M2 hS2 hs2 => B_L_law_1973 lawQn (V_mono (Nat.sub_le k 3) (hn c K N M2 u5 u6 hS2 (by omega) (hs1.tr hs2)))))
set_option maxHeartbeats 1000000 in
theorem lc_restore {d k : Nat} {c : Int} {K : Nat} {N : Int} {M : mM} {i : Int} {u5 u6 : mV} (hS : St c K N M) (hN : N ≤ 1000) (hi : 0 ≤ i) (hL : i + 5 < M (-1) (-1)) (h3 : M (-1) (-1) ≤ 3072) (hR : ∀ j : Int, 0 ≤ j → j < M (-1) (-1) → r32 (M (-1) j)) (hk : 3 ≤ k)
    (hn : ∀ (c' : Int) (K' : Nat) (N' : Int) (M' : mM) (u5 u6 : mV), St c' K' N' M' → N' ≤ N + 1 → sE M M' → V (d + 62) (k - 3) qL_law 1989 [mE 2, mR 17 15 0, mR 18 58 112, mR 1 1 137, mI i, u5, u6] [] M' lawQ) : V (d + 62) k qL_law 1976 [mE 2, mR 17 15 0, mR 18 58 112, mR 1 1 137, mI i, u5, u6] [] M lawQ := by
  refine B_L_law_1976 lawQn ?_
  refine V_sE (xa_restore (by rcases hS.2.2.1.2 with h | h; exact Or.inl h; exact Or.inr h.1) (fun ho hs1 => ?_) (fun ho M1 y0 y3 y4 y5 y6 y7 y8 hs1 => ?_))
  · show V (d + 62) k qL_law 1980 [mE 2, mR 17 15 0, mR 18 58 112, mR 1 1 137, mI i, u5, u6] [mI (0)] (M) lawQ
    have Bk := B_L_law_1980 (d := d + 60) (k := k) (M := M) (Q := lawQ) (x4 := i) (u5 := u5) (u6 := u6) (sx0 := 0) lawQn
    refine Bk ?_
    exact V_sE (ma_restore0 hS ho (fun M2 hS2 hs2 => B_L_law_1984 lawQn ⟨fun _ => V_mono (Nat.sub_le k 3) (hn c K N M2 u5 u6 hS2 (by omega) (hs1.tr hs2)), fun h => absurd rfl h⟩))
  · show V (d + 62) k qL_law 1980 [mE 2, mR 17 15 0, mR 18 58 112, mR 1 1 137, mI i, u5, u6] [mI (1)] (M1) lawQ
    have Bk := B_L_law_1980 (d := d + 60) (k := k) (M := M1) (Q := lawQ) (x4 := i) (u5 := u5) (u6 := u6) (sx0 := 1) lawQn
    refine Bk ?_
    exact V_sE (ma_restore1 hS ho y0 y3 y4 y5 y6 y7 y8 (fun M2 hS2 hs2 => B_L_law_1984 lawQn ⟨fun _ => V_mono (Nat.sub_le k 3) (hn c K N M2 u5 u6 hS2 (by omega) (hs1.tr hs2)), fun h => absurd rfl h⟩))
