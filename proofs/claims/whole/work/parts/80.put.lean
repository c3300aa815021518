/-! refusals; rows changed -/
theorem ref_St {c : Int} {K : Nat} {N : Int} {M M2 : mM} {i : Nat} (hi : i < 3) (hS : St c K N M) (hn : ∀ n, n ≠ 18 → n ≠ 117 → n ≠ 112 → ¬ scr n → M2 n = M n) (hf : ∀ j, j ∉ ([5, 33, 37, 38, 40, 44, 45, 46, 47, 48, 49, 53, 57] : List Int) → M2 112 j = M 112 j) (h18 : ∀ j : Int, M2 18 j = if j = i then M 18 j + 1 else M 18 j) (h117 : ∀ j : Int, M2 117 j = if j = i then M 117 j + 1 else M 117 j) : St c K (N + 1) M2 := by
  obtain ⟨h1, ⟨i1, i6, i7, i8, i9⟩, h3, h4, h5⟩ := hS
  have q := fun n (a : n ≠ 18) (b : n ≠ 117) (e : n ≠ 112) (f : ¬ scr n) => hn n a b e f
  have f9 : M2 9 = M 9 := q 9 (by decide) (by decide) (by decide) (by unfold scr; omega)
  have fA : ∀ n : Int, (n = 0 ∨ n = 1 ∨ (8 ≤ n ∧ n ≤ 11) ∨ (16 ≤ n ∧ n ≤ 27 ∧ n ≠ 18) ∨ (113 ≤ n ∧ n ≤ 118 ∧ n ≠ 117)) → M2 n = M n := fun n h => q n (by omega) (by omega) (by omega) (by unfold scr; omega)
  refine ⟨?_, ?_, ?_, ?_, ?_⟩
  · unfold lotR
    rw [fA 8 (by omega), hf 6 (by simp), hf 7 (by simp), f9, fA 114 (by omega), fA 11 (by omega)]; exact h1
  · rw [f9, hf 8 (by simp), hf 9 (by simp), hf 10 (by simp)]
    refine ⟨by rw [fA 16 (by omega)]; exact i1, ?_, ?_, ?_, fun j hj => ?_⟩
    · unfold stkA at *; rw [fA (16 + 1) (by omega), fA 113 (by omega)]; exact i6
    · unfold stkA at *; rw [fA (16 + 3) (by omega), fA 113 (by omega)]; exact i7
    · rw [fA (16 + 4) (by omega), fA (16 + 5) (by omega), fA 115 (by omega), fA 116 (by omega)]; exact i8
    · have := i9 j hj
      show M2 18 j = M2 117 (0 + j) ∧ 0 ≤ M2 18 j ∧ M2 18 j ≤ N + 1
      have this' : M 18 j = M 117 (0 + j) ∧ 0 ≤ M 18 j ∧ M 18 j ≤ N := this
      rw [h18, h117]
      rw [Int.zero_add] at this' ⊢
      by_cases e : (j : Int) = i
      · rw [if_pos e, if_pos e]; omega
      · rw [if_neg e, if_neg e]; omega
  · rw [fA 0 (by omega), hf 14 (by simp), f9, hf 11 (by simp), hf 12 (by simp), hf 13 (by simp)]
    refine ⟨h3.1, h3.2.imp (fun z => z) (fun z => ⟨z.1, ?_⟩)⟩
    obtain ⟨b1, b6, b7, b8, b9⟩ := z.2
    refine ⟨by rw [fA 22 (by omega)]; exact b1, ?_, ?_, ?_, fun j hj => ?_⟩
    · unfold stkA at *; rw [fA (22 + 1) (by omega), fA 113 (by omega)]; exact b6
    · unfold stkA at *; rw [fA (22 + 3) (by omega), fA 113 (by omega)]; exact b7
    · rw [fA (22 + 4) (by omega), fA (22 + 5) (by omega), fA 115 (by omega), fA 116 (by omega)]; exact b8
    · have := b9 j hj
      rw [fA (22 + 2) (by omega), h117, if_neg (by omega)]
      exact ⟨this.1, this.2.1, by omega⟩
  · rw [fA 0 (by omega), hf 16 (by simp), fA 118 (by omega), fA 1 (by omega)]; exact h4
  · rw [fA 0 (by omega), hf 17 (by simp)]; exact h5
/-- both refuse -/
theorem up_if {M : mM} {n i v j : Int} : mUp M n i v n j = if j = i then v else M n j := by
  by_cases e : j = i
  · rw [e, up_s, if_pos rfl]
  · rw [up_fld e, if_neg e]
theorem ref_2 {c : Int} {K : Nat} {N : Int} {M M1 M2 : mM} {i : Nat} (hi : i < 3) (hS : St c K N M) (h1 : kpX (mUp M 18 i (M 18 i + 1)) M1) (h2 : ∃ M', kpM M1 M' ∧ M2 = mUp M' 117 i (M' 117 i + 1)) : St c K (N + 1) M2 := by
  obtain ⟨M', k1, rfl⟩ := h2
  have e117 : M' 117 = M 117 := by rw [k1.1 117 (by omega) (by omega), h1 117 (by omega), up_row (by decide)]
  refine ref_St hi hS (fun n a b e f => ?_) (fun j hj => ?_) (fun j => ?_) (fun j => ?_)
  · unfold scr at f
    rw [up_row b, k1.1 n e (by omega), h1 n (by omega), up_row a]
  · rw [up_row (by decide), k1.2 j hj, h1 112 (by omega), up_row (by decide)]
  · rw [up_row (by decide), k1.1 18 (by omega) (by omega), h1 18 (by omega), up_if]
    by_cases e : j = i
    · rw [if_pos e, if_pos e, e]
    · rw [if_neg e, if_neg e]
  · rw [up_if, e117]
    by_cases e : j = i
    · rw [if_pos e, if_pos e, e]
    · rw [if_neg e, if_neg e]
/-! the class's part alone -/
def clX (c : Int) (K : Nat) (M : mM) (R : Int → Int) : Prop := (1 ≤ c ∧ c ≤ 99) ∧ K ≤ 6 ∧ M 8 0 = c ∧ M 8 1 = K ∧ (∀ s : Nat, s < K → 1 ≤ M 9 s ∧ M 9 s ≤ c) ∧ stk 17 M R ∧ rowOK c K (M 9) R
theorem St.cl {c : Int} {K : Nat} {N : Int} {M : mM} (h : St c K N M) : clX c K M (M 113) := ⟨h.1.1, h.1.2.1, h.1.2.2.1, h.1.2.2.2.2.1, fun s hs => (h.sz hs).2, h.row.1, h.row.2⟩
def wtR (K : Nat) (sz R : Int → Int) (b : Int) : Int := sg (fun s => sz s * R (7 + 6 * b + s)) K
theorem clX.bin {c : Int} {K : Nat} {M : mM} {R : Int → Int} (h : clX c K M R) {b : Int} (hb : 0 ≤ b ∧ b < 12) : M 17 b = pkL (fun s => R (7 + 6 * b + s)) ∧ (∀ s : Nat, s < 6 → 0 ≤ R (7 + 6 * b + s) ∧ R (7 + 6 * b + s) ≤ 99) ∧ 0 ≤ wtR K (M 9) R b ∧ wtR K (M 9) R b ≤ c := by
  obtain ⟨n, hn⟩ : ∃ n : Nat, b = n := ⟨b.toNat, by omega⟩
  subst hn
  obtain ⟨h1, h2, h3, h4, h5, h6, h7⟩ := h
  have g := fun s hs => h7.2.2.2.1 n s (by omega) hs
  refine ⟨h6.2.2 n (by omega), fun s hs => by have := g s hs; omega, ?_, h7.2.2.2.2 n (by omega)⟩
  have : ∀ m : Nat, m ≤ K → 0 ≤ sg (fun s => M 9 s * R (7 + 6 * n + s)) m := fun m => by
    induction m with
    | zero => intro _; exact Int.le_refl _
    | succ m ih =>
      intro hm
      have a1 := ih (by omega)
      have a2 := h5 m (by omega)
      have a3 := g m (by omega)
      have a4 := Int.mul_nonneg (show 0 ≤ M 9 m by omega) a3.1
      show 0 ≤ sg (fun s => M 9 s * R (7 + 6 * n + s)) m + M 9 m * R (7 + 6 * n + m)
      omega
  exact this K (Nat.le_refl _)
theorem c_X9_wtR {d k : Nat} {c : Int} {K : Nat} {M : mM} {R : Int → Int} {Q : mRes → mM → Prop} {b : Int} (h : clX c K M R) (hb : 0 ≤ b ∧ b < 12) (hQ : Q (.inl (some (mI (wtR K (M 9) R b)))) M) : V (d + 1) k qX2_weightOfBin 0 [mR 11 5 8, mL (M 17 b), mE 0, mE 0, mE 0] [] M Q := by
  have g := h.bin hb
  exact c_X2_weightOfBin h.2.2.2.1 h.2.1 g.1 (fun s hs => by have := g.2.1 s hs; omega) (fun s hs => by have := h.2.2.2.2.1 s hs; have := h.1; omega) (fun r hr => by rw [hr]; exact hQ)
theorem c_X9_freeR {d k : Nat} {c : Int} {K : Nat} {M : mM} {R : Int → Int} {Q : mRes → mM → Prop} {b : Int} (h : clX c K M R) (hb : 0 ≤ b ∧ b < R 6) (hQ : Q (.inl (some (mI (c - wtR K (M 9) R b)))) M) : V (d + 3) k qX9_freeIn 0 [mR 17 15 0, mI b] [] M Q := by
  have h6 := h.2.2.2.2.2.2.2.2.1
  have e13 : M 17 13 = R 6 := h.2.2.2.2.2.1.2.1
  have hw := h.bin (b := b) (by omega)
  have hc := h.1
  refine B_X9_freeIn_0 (c_X7_isBin (Or.inl rfl) (by show 0 ≤ M 17 13 ∧ M 17 13 ≤ 12; omega) (fun r hr => ?_))
  rw [if_pos (by show 0 ≤ b ∧ b < M 17 13; omega)] at hr
  subst hr
  refine B_X9_freeIn_8 ⟨fun z => by omega, fun _ => ⟨by omega, c_X9_wtR h (by omega) ?_⟩⟩
  have Bk := B_X9_freeIn_34 (d := d + 2) (k := k) (M := M) (Q := Q) (x1 := b) (sx0 := wtR K (M 9) R b) (sx1 := M 8 0)
  rw [h.2.2.1] at Bk ⊢
  exact Bk ⟨by omega, hQ⟩
/-- one of a sort more, or less, in a bin; the rest the other way -/
def rMv (R : Int → Int) (s b v : Int) : Int → Int := fset (fset R (7 + 6 * b + s) (R (7 + 6 * b + s) + v)) s (R s - v)
theorem rMv_s {R : Int → Int} {s b v : Int} (hb : 0 ≤ b) (hs : 0 ≤ s) : rMv R s b v s = R s - v ∧ rMv R s b v (7 + 6 * b + s) = R (7 + 6 * b + s) + v := by
  unfold rMv
  exact ⟨fset_s, by rw [fset_n (by omega), fset_s]⟩
theorem rMv_n {R : Int → Int} {s b v j : Int} (h1 : j ≠ s) (h2 : j ≠ 7 + 6 * b + s) : rMv R s b v j = R j := by unfold rMv; rw [fset_n h1, fset_n h2]
theorem p7_bd {s : Nat} (hs : s < 6) : 1 ≤ p7 s ∧ p7 s ≤ 34359738368 := by
  rcases lt6 hs with e | e | e | e | e | e <;> subst e <;> decide
theorem rMv_stk {M M' : mM} {R : Int → Int} {s b : Nat} {v : Int} (hs : s < 6) (hb : b < 12) (h : stk 17 M R) (e1 : M' 17 b = M 17 b + v * p7 s) (e2 : M' 17 12 = M 17 12 - v * p7 s) (e3 : ∀ i : Int, i ≠ b → i ≠ 12 → M' 17 i = M 17 i) : stk 17 M' (rMv R s b v) := by
  refine ⟨?_, ?_, fun b' hb' => ?_⟩
  · rw [e2, h.1]
    have : pkL (rMv R s b v) = pkL (fset R s (R s - v)) := pkL_congr (fun t ht => by
      by_cases e : (t : Int) = s
      · rw [e, (rMv_s (by omega) (by omega)).1, fset_s]
      · rw [rMv_n e (by omega), fset_n e])
    rw [this, pkL_set hs, show R s - v - R s = -v by omega, Int.neg_mul]; omega
  · rw [e3 13 (by omega) (by decide), h.2.1, rMv_n (by omega) (by omega)]
  · by_cases e : b' = b
    · subst e
      rw [e1, h.2.2 b' hb']
      have : pkL (fun t => rMv R s b' v (7 + 6 * b' + t)) = pkL (fset (fun t => R (7 + 6 * b' + t)) s (R (7 + 6 * b' + s) + v)) := pkL_congr (fun t ht => by
        by_cases e : (t : Int) = s
        · rw [e, (rMv_s (by omega) (by omega)).2, fset_s]
        · rw [rMv_n (by omega) (by omega), fset_n e])
      rw [this, pkL_set hs, show R (7 + 6 * b' + s) + v - R (7 + 6 * b' + s) = v by omega]
    · rw [e3 b' (by omega) (by omega), h.2.2 b' hb']
      exact pkL_congr (fun t ht => (rMv_n (by omega) (by omega)).symm)
theorem sg_up1 {f g w : Int → Int} {n i : Nat} {x : Int} (hi : i < n) (h : ∀ j : Nat, j < n → g j = if j = i then f j + x else f j) : sg (fun j => w j * g j) n = sg (fun j => w j * f j) n + w i * x := by
  have := sg_fw (g := f) (w := w) (x := x) (i := i) (n := n)
  rw [if_pos hi] at this
  have e1 : sg (fun j => w j * g j) n = sg (fun q => fset f i (f i + x) q * w q) n := sg_congr (fun j hj => by
    show w j * g j = fset f i (f i + x) j * w j
    rw [h j hj, Int.mul_comm]
    congr 1
    by_cases e : j = i
    · subst e; rw [if_pos rfl, fset_s]
    · rw [if_neg e, fset_n (by omega)])
  rw [e1, this, sg_congr (f := fun q => f q * w q) (g := fun j => w j * f j) (fun j _ => Int.mul_comm _ _), Int.mul_comm]
theorem rMv_wt {K : Nat} {sz R : Int → Int} {s b : Nat} {v : Int} (hK : K ≤ 6) (hs : s < K) (b' : Nat) : wtR K sz (rMv R s b v) b' = wtR K sz R b' + if b' = b then sz s * v else 0 := by
  unfold wtR
  by_cases e : b' = b
  · subst e
    rw [if_pos rfl]
    exact sg_up1 (w := sz) (f := fun t => R (7 + 6 * b' + t)) (g := fun t => rMv R s b' v (7 + 6 * b' + t)) hs (fun j hj => by
      by_cases e : j = s
      · subst e; rw [if_pos rfl]; exact (rMv_s (by omega) (by omega)).2
      · rw [if_neg e]; exact rMv_n (by omega) (by omega))
  · rw [if_neg e, Int.add_zero]
    exact sg_congr (fun j hj => by
      show sz j * rMv R s b v (7 + 6 * b' + j) = sz j * R (7 + 6 * b' + j)
      rw [rMv_n (by omega) (by omega)])
theorem rMv_ok {c : Int} {K : Nat} {sz R : Int → Int} {s b : Nat} {v : Int} (hc : c ≤ 99) (hK : K ≤ 6) (hz : ∀ t : Nat, t < K → 1 ≤ sz t) (h : rowOK c K sz R) (hs : s < K) (hb : (b : Int) < R 6) (h1 : 0 ≤ R s - v ∧ R s - v ≤ 12) (h2 : sg R K - v ≤ 24) (h3 : 0 ≤ R (7 + 6 * b + s) + v) (h4 : wtR K sz R b + sz s * v ≤ c) : rowOK c K sz (rMv R s b v) := by
  obtain ⟨g1, g2, g3, g4, g5⟩ := h
  have es := rMv_s (R := R) (s := s) (b := b) (v := v) (by omega) (by omega)
  have e6 : rMv R s b v 6 = R 6 := rMv_n (by omega) (by omega)
  have hw := fun b' => rMv_wt (sz := sz) (R := R) (v := v) (b := b) hK hs b'
  have hnn : ∀ t : Nat, t < K → 0 ≤ rMv R s b v (7 + 6 * b + t) := fun t ht => by
    by_cases e : t = s
    · subst e; rw [es.2]; exact h3
    · rw [rMv_n (by omega) (by omega)]; exact (g4 b t (by omega) (by omega)).1
  refine ⟨fun t ht => ?_, ?_, by rw [e6]; exact g3, fun b' t hb' ht => ?_, fun b' hb' => ?_⟩
  · by_cases e : t = s
    · subst e; rw [es.1]; exact ⟨h1.1, h1.2, fun z => by omega⟩
    · rw [rMv_n (by omega) (by omega)]; exact g1 t ht
  · have e1 : sg (rMv R s b v) K = sg (fset R s (R s - v)) K := sg_congr (fun j hj => by
      by_cases e : (j : Int) = s
      · rw [e, es.1, fset_s]
      · rw [rMv_n e (by omega), fset_n e])
    rw [e1, sg_fset, if_pos hs]; omega
  · rw [e6]
    by_cases e : b' = b ∧ t = s
    · obtain ⟨rfl, rfl⟩ := e
      rw [es.2]
      refine ⟨h3, ?_, fun z => by omega, fun z => by omega⟩
      have t1 := sg_term (f := fun j => sz j * rMv R t b' v (7 + 6 * b' + j)) (n := K) (fun j hj => Int.mul_nonneg (by have := hz j hj; omega) (hnn j hj)) t hs
      have t2 : sz t * rMv R t b' v (7 + 6 * b' + t) ≤ wtR K sz (rMv R t b' v) b' := t1
      rw [hw b', if_pos rfl, es.2] at t2
      have t3 : 1 * (R (7 + 6 * b' + t) + v) ≤ sz t * (R (7 + 6 * b' + t) + v) := Int.mul_le_mul_of_nonneg_right (hz t hs) h3
      omega
    · rw [rMv_n (by omega) (by omega)]
      exact g4 b' t hb' ht
  · have := hw b'
    show wtR K sz (rMv R s b v) b' ≤ c
    rw [this]
    by_cases e : b' = b
    · subst e; rw [if_pos rfl]; exact h4
    · rw [if_neg e]
      have := g5 b' hb'
      have : wtR K sz R b' ≤ c := this
      omega
theorem c_X7_moveIn {d k : Nat} {M : mM} {R : Int → Int} {Q : mRes → mM → Prop} {s b : Nat} (h : stk 17 M R) (h6 : 0 ≤ R 6 ∧ R 6 ≤ 12) (hs : s < 6) (hb : (b : Int) < R 6) (hv : (0 ≤ M 17 b ∧ M 17 b < 4398046511104) ∧ (0 ≤ M 17 12 ∧ M 17 12 < 4398046511104)) (hQ : ∀ M', (∀ n, n ≠ 17 → M' n = M n) → stk 17 M' (rMv R s b 1) → Q (.inl none) M') : V (d + 2) k qX7_moveIn 0 [mR 15 7 16, mI s, mI b] [] M Q := by
  have e13 : M 17 13 = R 6 := h.2.1
  have hp := p7_bd hs
  refine B_X7_moveIn_0 (Or.inl rfl) (c_X7_isBin (Or.inl rfl) (by show 0 ≤ M 17 13 ∧ M 17 13 ≤ 12; omega) (fun r hr => ?_))
  rw [if_pos (by show 0 ≤ (b : Int) ∧ (b : Int) < M 17 13; omega)] at hr
  subst hr
  refine B_X7_moveIn_5 (Or.inl rfl) ⟨fun z => by omega, fun _ => ⟨by omega, c_X7_one (by omega) (fun r hr => ?_)⟩⟩
  rw [show (s : Int).toNat = s by omega] at hr
  subst hr
  have e17 : M (16 + 1) b = M 17 b := rfl
  rw [e17]
  refine B_X7_moveIn_19 (Or.inl rfl) ⟨by omega, by omega, c_X7_one (by omega) (fun r hr => ?_)⟩
  rw [show (s : Int).toNat = s by omega] at hr
  subst hr
  have e12 : mUp M (16 + 1) b (M 17 b + p7 s) (16 + 1) 12 = M 17 12 := up_fld (by omega)
  rw [e12]
  refine B_X7_moveIn_33 (Or.inl rfl) ⟨by omega, by omega, hQ _ (fun n hn => (up_row hn).trans (up_row hn)) (rMv_stk hs (by omega) h ?_ ?_ (fun i a b => ?_))⟩
  · show mUp (mUp M 17 b (M 17 b + p7 s)) 17 12 _ 17 b = _
    rw [up_fld (by omega), up_s, Int.one_mul]
  · show mUp (mUp M 17 b (M 17 b + p7 s)) 17 12 _ 17 12 = _
    rw [up_s, Int.one_mul]
  · show mUp (mUp M 17 _ (_)) 17 12 _ 17 i = _
    rw [up_fld b, up_fld a]
theorem c_X7_moveOut {d k : Nat} {M : mM} {R : Int → Int} {Q : mRes → mM → Prop} {s b : Nat} (h : stk 17 M R) (h6 : 0 ≤ R 6 ∧ R 6 ≤ 12) (hs : s < 6) (hb : (b : Int) < R 6) (hv : (0 ≤ M 17 b ∧ M 17 b < 4398046511104) ∧ (0 ≤ M 17 12 ∧ M 17 12 < 4398046511104)) (hQ : ∀ M', (∀ n, n ≠ 17 → M' n = M n) → stk 17 M' (rMv R s b (-1)) → Q (.inl none) M') : V (d + 2) k qX7_moveOut 0 [mR 15 7 16, mI s, mI b] [] M Q := by
  have e13 : M 17 13 = R 6 := h.2.1
  have hp := p7_bd hs
  refine B_X7_moveOut_0 (Or.inl rfl) (c_X7_isBin (Or.inl rfl) (by show 0 ≤ M 17 13 ∧ M 17 13 ≤ 12; omega) (fun r hr => ?_))
  rw [if_pos (by show 0 ≤ (b : Int) ∧ (b : Int) < M 17 13; omega)] at hr
  subst hr
  refine B_X7_moveOut_5 (Or.inl rfl) ⟨fun z => by omega, fun _ => ⟨by omega, c_X7_one (by omega) (fun r hr => ?_)⟩⟩
  rw [show (s : Int).toNat = s by omega] at hr
  subst hr
  have e17 : M (16 + 1) b = M 17 b := rfl
  rw [e17]
  refine B_X7_moveOut_19 (Or.inl rfl) ⟨by omega, by omega, c_X7_one (by omega) (fun r hr => ?_)⟩
  rw [show (s : Int).toNat = s by omega] at hr
  subst hr
  have e12 : mUp M (16 + 1) b (M 17 b - p7 s) (16 + 1) 12 = M 17 12 := up_fld (by omega)
  rw [e12]
  refine B_X7_moveOut_33 (Or.inl rfl) ⟨by omega, by omega, hQ _ (fun n hn => (up_row hn).trans (up_row hn)) (rMv_stk hs (by omega) h ?_ ?_ (fun i a b => ?_))⟩
  · show mUp (mUp M 17 b (M 17 b - p7 s)) 17 12 _ 17 b = _
    rw [up_fld (by omega), up_s]; omega
  · show mUp (mUp M 17 b (M 17 b - p7 s)) 17 12 _ 17 12 = _
    rw [up_s]; omega
  · show mUp (mUp M 17 _ (_)) 17 12 _ 17 i = _
    rw [up_fld b, up_fld a]
theorem clX.pk {c : Int} {K : Nat} {M : mM} {R : Int → Int} (h : clX c K M R) : (∀ b : Nat, b < 12 → 0 ≤ M 17 b ∧ M 17 b < 4398046511104) ∧ (0 ≤ M 17 12 ∧ M 17 12 < 4398046511104) := by
  refine ⟨fun b hb => ?_, ?_⟩
  · rw [(h.2.2.2.2.2.1.2.2 b hb)]; exact pkL_bd (h.2.2.2.2.2.2.b7 hb)
  · rw [h.2.2.2.2.2.1.1]; exact pkL_bd h.2.2.2.2.2.2.r7
