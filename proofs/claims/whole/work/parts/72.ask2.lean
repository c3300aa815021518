/-! questions: sort, bin, guaranteed, bound, split, step -/
def rkF (od : Int → Int) (s : Int) : Nat → Nat → Int
  | 0, _ => -1
  | r + 1, i => if od i = s then (i : Int) else rkF od s r (i + 1)
theorem c_X2_rankOf {d k : Nat} {M : mM} {Q : mRes → mM → Prop} {x : Int} {K : Nat} {od : Int → Int} (hK : M 8 1 = K) (hK6 : K ≤ 6) (ho : ∀ i : Nat, i < K → M 11 i = od i) (hQ : Q (.inl (some (mI (rkF od x K 0)))) M) : V d k qX2_rankOf 0 [mR 11 5 8, mI x, mE 0] [] M Q := by
  have loop : ∀ r i : Nat, i + r = K → rkF od x K 0 = rkF od x r i → V d k qX2_rankOf 2 [mR 11 5 8, mI x, mI i] [] M Q := by
    intro r
    induction r with
    | zero =>
      intro i hi e
      have Bk := B_X2_rankOf_2 (d := d) (k := k) (M := M) (Q := Q) (n0 := 8) (x1 := x) (x2 := i) (by decide)
      rw [hK] at Bk
      exact Bk ⟨fun _ => by rw [e] at hQ; exact hQ, fun z => by omega⟩
    | succ r ih =>
      intro i hi e
      have e2 : rkF od x (r + 1) i = if od i = x then (i : Int) else rkF od x r (i + 1) := rfl
      have Bk := B_X2_rankOf_2 (d := d) (k := k) (M := M) (Q := Q) (n0 := 8) (x1 := x) (x2 := i) (by decide)
      rw [hK] at Bk
      have h11 : M (8 + 3) i = od i := ho i (by omega)
      rw [h11] at Bk
      refine Bk ⟨fun z => by omega, fun _ => ⟨by omega, fun c1 => ⟨by omega, ih (i + 1) (by omega) (by rw [e, e2, if_neg c1])⟩, fun c1 => ?_⟩⟩
      rw [e, e2, if_pos c1] at hQ
      exact hQ
  exact B_X2_rankOf_0 (by decide) (loop K 0 (by omega) rfl)
theorem c_X10_placeInOrder {d k : Nat} {c : Int} {K : Nat} {N : Int} {M : mM} {Q : mRes → mM → Prop} {x : Int} (hS : St c K N M) (hx : 0 ≤ x ∧ x < K) (hQ : ∀ M', askM c K M M' → Q (.inl (some (mI (rkF (orF (M 9) K) x K 0)))) M') : V (d + 2) k qX10_placeInOrder 0 [mR 18 58 112, mI x, mE 0] [] M Q := by
  have hK6 := hS.1.2.1
  refine B_X10_placeInOrder_0 (c_X10_look0 hS (fun M1 q => B_X10_placeInOrder_4 ?_))
  obtain ⟨i0, hi0, e0⟩ := hS.GL.2.2.2.2.2.2.2.1 x.toNat (by omega)
  rw [Int.toNat_of_nonneg hx.1] at e0
  have loop : ∀ r i : Nat, i + r = K → i ≤ i0 → rkF (orF (M 9) K) x K 0 = rkF (orF (M 9) K) x r i → V (d + 2) k qX10_placeInOrder 6 [mR 18 58 112, mI x, mI i] [] M1 Q := by
    intro r
    induction r with
    | zero => intro i hi hle e; omega
    | succ r ih =>
      intro i hi hle e
      have e2 : rkF (orF (M 9) K) x (r + 1) i = if orF (M 9) K i = x then (i : Int) else rkF (orF (M 9) K) x r (i + 1) := rfl
      have Bk := B_X10_placeInOrder_6 (d := d + 1) (k := k) (M := M1) (Q := Q) (x1 := x) (x2 := i)
      rw [(q.2.1.2 i (by omega)).1] at Bk
      refine Bk ⟨by omega, fun c1 => ?_, fun c1 => ⟨by omega, ih (i + 1) (by omega) ?_ (by rw [e, e2, if_neg c1])⟩⟩
      · have := hQ M1 q
        rw [e, e2, if_pos c1] at this
        exact this
      · by_cases ei : i = i0
        · subst ei; exact (c1 e0).elim
        · omega
  exact loop K 0 (by omega) (by omega) rfl
def an_sort (K : Nat) (M : mM) (s w : Int) : An := if (0 ≤ s ∧ s < K) ∧ 0 ≤ w ∧ w ≤ 3 then .inl (if w = 0 then M 9 s else if w = 1 then M 113 s else if w = 2 then rkF (orF (M 9) K) s K 0 else sg (fun b => M 113 (7 + 6 * b + s)) (M 113 6).toNat) else .inr 1
theorem xq_sort {d : Nat} {c : Int} {K : Nat} {N : Int} {M : mM} {Q : mRes → mM → Prop} {s w : Int} (hS : St c K N M) (hQ : ∀ M', kpX M M' → Q (xr (an_sort K M s w)) M') : V (d + 60) 3 qX9_sort 0 [mR 17 15 0, mI s, mI w] [] M Q := by
  have hL := hS.1
  have hK6 := hL.2.1
  have hr := hS.row
  have hQ' := hQ M kpX.rf
  unfold an_sort at hQ'
  refine B_X9_sort_0 ⟨by omega, c_X9_needSort hL.2.2.2.2.1 hK6 (fun h => ?_) (fun h => by rw [if_neg (fun z => h z.1)] at hQ'; exact hQ')⟩
  refine B_X9_sort_5 ⟨fun e => ⟨by omega, ?_⟩, fun e => c_X7_restOf (Or.inl rfl) hr.1.1 hr.2.r7 (by omega) (fun r hr' => B_X9_sort_54 ?_), fun e => c_X2_rankOf hL.2.2.2.2.1 hK6 hL.2.2.2.2.2.2.2 (B_X9_sort_63 ?_), fun e => c_X7_inBins (Or.inl rfl) hr.1 hr.2 (by omega) (fun r hr' => B_X9_sort_72 ?_), fun e => ⟨by omega, by omega, ?_⟩⟩
  · subst e; rw [if_pos ⟨h, by omega⟩] at hQ'; exact hQ'
  · subst e; subst hr'; rw [if_pos ⟨h, by omega⟩] at hQ'; exact hQ'
  · subst e; rw [if_pos ⟨h, by omega⟩] at hQ'; exact hQ'
  · subst e; subst hr'; rw [if_pos ⟨h, by omega⟩] at hQ'; exact hQ'
  · rw [if_neg (by omega)] at hQ'; exact hQ'
theorem mq_sort {d k : Nat} {c : Int} {K : Nat} {N : Int} {M : mM} {Q : mRes → mM → Prop} {s w : Int} (hS : St c K N M) (hQ : ∀ M' v, kpM M M' → mr (fun _ => 1) (an_sort K M s w) M' v → Q (.inl (some (mI v))) M') : V (d + 60) k qX10_sort 0 [mR 18 58 112, mI s, mI w] [] M Q := by
  have hL := hS.1
  have hK6 := hL.2.1
  have hr := hS.row
  unfold an_sort at hQ
  have hS0 := hS.m0 (v := 0)
  have kp0 : kpM M (mUp M 112 5 0) := kpM.rf.fl (by simp)
  have r0 : ∀ n, n ≠ 112 → mUp M 112 5 0 n = M n := fun n hn => up_row hn
  refine B_X10_sort_0 (c_X10_isSort up_s (by rw [up_fld (by decide)]; exact hL.2.2.2.2.2.1) hK6 (fun h => B_X10_sort_10 ⟨fun _ => hQ _ 0 (kp0.fl (by simp)) (by rw [if_neg (fun z => h z.1)]; exact up_s), fun z => (z rfl).elim⟩) (fun h => B_X10_sort_10 ⟨fun z => by omega, fun _ => c_X10_within (fun x hx => B_X10_sort_20 (c_X10_fine up_s (by decide) (fun hz => B_X10_sort_24 ⟨fun z => (z rfl).elim, fun _ => hQ _ 0 (kp0.fl (by simp)) ?_⟩) (fun hz => B_X10_sort_24 ⟨fun _ => ?_, fun z => by omega⟩)))⟩))
  · have hn : ¬ (0 ≤ w ∧ w ≤ 3) := fun z => by rw [if_pos z] at hx; omega
    rw [if_neg (fun z => hn z.2)]; exact up_s
  · have hn : 0 ≤ w ∧ w ≤ 3 := by
      by_cases z : 0 ≤ w ∧ w ≤ 3
      · exact z
      · rw [if_neg z] at hx; omega
    rw [if_pos ⟨h, hn⟩] at hQ
    obtain ⟨sn, hsn⟩ : ∃ n : Nat, s = n := ⟨s.toNat, by omega⟩
    refine ⟨fun e0 => ⟨fun e1 => ⟨fun e2 => ?_, fun e2 => ?_⟩, fun e1 => ⟨by omega, B_X10_sort_74 (hQ _ _ kp0 ⟨up_s, ?_⟩)⟩⟩, fun e0 => ⟨by omega, B_X10_sort_74 (hQ _ _ kp0 ⟨up_s, ?_⟩)⟩⟩
    · refine c_X10_inBins (by rw [r0 113 (by decide)]; exact hr.2.2.2.1) (by omega) (fun b hb => ?_) (fun r hr' => B_X10_sort_74 (hQ _ _ kp0 ⟨up_s, ?_⟩))
      · rw [r0 113 (by decide), hsn]
        have := hr.2.2.2.2.1 b sn hb (by omega)
        omega
      · rw [hr', if_neg e0, if_neg e1, if_neg e2, r0 113 (by decide)]
    · refine c_X10_placeInOrder hS0 h (fun M1 q => B_X10_sort_66 (B_X10_sort_74 (hQ _ _ (kp0.tr q.kp) ⟨by rw [q.2.2.2.2 5 (by simp)]; exact up_s, ?_⟩)))
      rw [if_neg e0, if_neg e1, if_pos e2, r0 9 (by decide)]
    · rw [if_neg e0, if_pos e1, r0 113 (by decide)]
    · rw [if_pos e0, r0 114 (by decide), hsn]; exact (hS.sz (by omega)).1
/-! bin -/
def wtB (K : Nat) (M : mM) (b : Int) : Int := sg (fun s => M 9 s * M 113 (7 + 6 * b + s)) K
def an_bin (K : Nat) (M : mM) (b s : Int) : An := if (0 ≤ b ∧ b < M 113 6) ∧ (s = -1 ∨ (0 ≤ s ∧ s < K)) then .inl (if s = -1 then wtB K M b else M 113 (7 + 6 * b + s)) else .inr 1
theorem St.bin {c : Int} {K : Nat} {N : Int} {M : mM} (h : St c K N M) {b : Int} (hb : 0 ≤ b ∧ b < 12) : M 17 b = pkL (fun s => M 113 (7 + 6 * b + s)) ∧ bnd7 (fun s => M 113 (7 + 6 * b + s)) ∧ (∀ s : Nat, s < 6 → 0 ≤ M 113 (7 + 6 * b + s) ∧ M 113 (7 + 6 * b + s) ≤ 99) ∧ 0 ≤ wtB K M b ∧ wtB K M b ≤ c := by
  have hr := h.row
  obtain ⟨n, hn⟩ : ∃ n : Nat, b = n := ⟨b.toNat, by omega⟩
  subst hn
  have h1 := fun s hs => hr.2.2.2.2.1 n s (by omega) hs
  refine ⟨hr.1.2.2 n (by omega), hr.2.b7 (by omega), fun s hs => by have := h1 s hs; omega, ?_, hr.2.2.2.2.2 n (by omega)⟩
  have hK6 := h.1.2.1
  have : ∀ m : Nat, m ≤ K → 0 ≤ sg (fun s => M 9 s * M 113 (7 + 6 * n + s)) m := fun m => by
    induction m with
    | zero => intro _; exact Int.le_refl _
    | succ m ih =>
      intro hm
      have h2 := ih (by omega)
      have h3 := h.sz (s := m) (by omega)
      have h4 := h1 m (by omega)
      have h5 := Int.mul_nonneg (show 0 ≤ M 9 m by omega) h4.1
      show 0 ≤ sg (fun s => M 9 s * M 113 (7 + 6 * n + s)) m + M 9 m * M 113 (7 + 6 * n + m)
      omega
  exact this K (Nat.le_refl _)
theorem c_X9_wt {d k : Nat} {c : Int} {K : Nat} {N : Int} {M : mM} {Q : mRes → mM → Prop} {b : Int} (hS : St c K N M) (hb : 0 ≤ b ∧ b < 12) (hQ : Q (.inl (some (mI (wtB K M b)))) M) : V (d + 1) k qX2_weightOfBin 0 [mR 11 5 8, mL (M 17 b), mE 0, mE 0, mE 0] [] M Q := by
  have hL := hS.1
  have h := hS.bin hb
  exact c_X2_weightOfBin hL.2.2.2.2.1 hL.2.1 h.1 (fun s hs => by have := h.2.2.1 s hs; omega) (fun s hs => by have := hS.sz hs; have := hL.1; omega) (fun r hr => by rw [hr]; exact hQ)
theorem c_X10_wt {d k : Nat} {c : Int} {K : Nat} {N : Int} {M : mM} {Q : mRes → mM → Prop} {b : Int} (hS : St c K N M) (hb : 0 ≤ b ∧ b < 12) (hQ : Q (.inl (some (mI (wtB K M b)))) M) : V (d + 1) k qX10_fullOf 0 [mR 18 58 112, mI b, mE 0, mE 0] [] M Q := by
  have hL := hS.1
  have h := hS.bin hb
  refine c_X10_fullOf hL.2.2.2.2.2.1 hL.2.1 (by omega) (fun s hs => by have := h.2.2.1 s hs; omega) (fun s hs => by have := hS.sz hs; have := hL.1; omega) (fun r hr => ?_)
  rw [hr, sg_congr (f := fun s => M 114 s * M 113 (7 + 6 * b + s)) (g := fun s => M 9 s * M 113 (7 + 6 * b + s)) (fun j hj => by show M 114 j * _ = M 9 j * _; rw [(hS.sz hj).1])]
  exact hQ
theorem xq_bin {d : Nat} {c : Int} {K : Nat} {N : Int} {M : mM} {Q : mRes → mM → Prop} {b s : Int} (hS : St c K N M) (hQ : ∀ M', kpX M M' → Q (xr (an_bin K M b s)) M') : V (d + 60) 3 qX9_bin 0 [mR 17 15 0, mI b, mI s] [] M Q := by
  have hL := hS.1
  have hK6 := hL.2.1
  have h13 := hS.b13
  have hQ' := hQ M kpX.rf
  unfold an_bin at hQ'
  refine B_X9_bin_0 ⟨by omega, c_X9_needBin (by omega) (fun h => B_X9_bin_5 ⟨fun e => ⟨by omega, c_X9_needSort hL.2.2.2.2.1 hK6 (fun h2 => B_X9_bin_32 ⟨by omega, c_X7_part (hS.bin (by omega)).1 (hS.bin (by omega)).2.1 (by omega) (fun r hr => B_X9_bin_45 ?_)⟩) (fun h2 => ?_)⟩, fun e => ⟨by omega, c_X9_wt hS (by omega) (B_X9_bin_26 ?_)⟩⟩) (fun h => ?_)⟩
  · rw [if_pos ⟨by omega, Or.inr h2⟩, if_neg e] at hQ'
    rw [hr]; exact hQ'
  · rw [if_neg (fun z => z.2.elim e h2)] at hQ'; exact hQ'
  · rw [if_pos ⟨by omega, Or.inl e⟩, if_pos e] at hQ'; exact hQ'
  · rw [if_neg (by omega)] at hQ'; exact hQ'
theorem mq_bin {d k : Nat} {c : Int} {K : Nat} {N : Int} {M : mM} {Q : mRes → mM → Prop} {b s : Int} (hS : St c K N M) (hQ : ∀ M' v, kpM M M' → mr (fun _ => 1) (an_bin K M b s) M' v → Q (.inl (some (mI v))) M') : V (d + 60) k qX10_bin 0 [mR 18 58 112, mI b, mI s] [] M Q := by
  have hL := hS.1
  have hK6 := hL.2.1
  have h13 := hS.b13
  unfold an_bin at hQ
  have hS0 := hS.m0 (v := 0)
  have kp0 : kpM M (mUp M 112 5 0) := kpM.rf.fl (by simp)
  have r0 : ∀ n, n ≠ 112 → mUp M 112 5 0 n = M n := fun n hn => up_row hn
  have e0 : wtB K (mUp M 112 5 0) b = wtB K M b := by unfold wtB; rw [r0 9 (by decide), r0 113 (by decide)]
  have go : (0 ≤ b ∧ b < M 113 6) → (s = -1 ∨ (0 ≤ s ∧ s < K)) → V (d + 60) k qX10_bin 28 [mR 18 58 112, mI b, mI s] [] (mUp M 112 5 0) Q := fun h h2 => by
    rw [if_pos ⟨h, h2⟩] at hQ
    refine B_X10_bin_28 ⟨fun e => c_X10_binAt (by omega) (fun r hr => B_X10_bin_49 ⟨by omega, by omega, hQ _ _ kp0 ⟨up_s, ?_⟩⟩), fun e => c_X10_wt hS0 (by omega) (B_X10_bin_38 (hQ _ _ kp0 ⟨up_s, ?_⟩))⟩
    · rw [if_neg e, r0 113 (by decide), hr]
    · rw [if_pos e, e0]
  refine B_X10_bin_0 (c_X10_isBin up_s (by rw [r0 113 (by decide)]; omega) (fun h => B_X10_bin_10 ⟨fun _ => hQ _ 0 (kp0.fl (by simp)) ?_, fun z => (z rfl).elim⟩) (fun h => B_X10_bin_10 ⟨fun z => by omega, fun _ => ⟨fun e => go (by rw [r0 113 (by decide)] at h; exact h) (Or.inl e), fun e => c_X10_isSort up_s (by rw [up_fld (by decide)]; exact hL.2.2.2.2.2.1) hK6 (fun h2 => B_X10_bin_23 ⟨fun z => (z rfl).elim, fun _ => hQ _ 0 (kp0.fl (by simp)) ?_⟩) (fun h2 => B_X10_bin_23 ⟨fun _ => go (by rw [r0 113 (by decide)] at h; exact h) (Or.inr h2), fun z => by omega⟩)⟩⟩))
  · rw [r0 113 (by decide)] at h
    rw [if_neg (fun z => h z.1)]; exact up_s
  · rw [if_neg (fun z => z.2.elim e h2)]; exact up_s
