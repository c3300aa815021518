/-! acts: what is kept, on both sides -/
theorem St.mono {c : Int} {K : Nat} {N N' : Int} {M : mM} (h : St c K N M) (hN : N ≤ N') : St c K N' M := by
  obtain ⟨h1, ⟨a1, a2, a3, a4, a5⟩, h3, h4, h5⟩ := h
  refine ⟨h1, ⟨a1, a2, a3, a4, fun i hi => by have := a5 i hi; exact ⟨this.1, this.2.1, by omega⟩⟩, ⟨h3.1, h3.2.imp (fun z => z) (fun z => ⟨z.1, ?_⟩)⟩, h4, h5⟩
  obtain ⟨b1, b2, b3, b4, b5⟩ := z.2
  exact ⟨b1, b2, b3, b4, fun i hi => by have := b5 i hi; exact ⟨this.1, this.2.1, by omega⟩⟩
/-- one act more is kept: 40 at most, else the first one goes -/
def shA (A : Int) : Int := if A < 40 then 0 else 1
def nwA (A : Int) : Int := A + 1 - shA A
def XA (M M1 : mM) (R : Int → Int) : Prop := (∀ n, n ≠ 16 → n ≠ 17 → n ≠ 19 → ¬ ((2 ≤ n ∧ n ≤ 7) ∨ (12 ≤ n ∧ n ≤ 15) ∨ (28 ≤ n ∧ n ≤ 111)) → M1 n = M n) ∧ M1 16 3 = M 16 3 ∧ M1 16 2 = nwA (M 16 2) ∧ (∀ k i : Nat, (k : Int) < nwA (M 16 2) → i < 14 → M1 19 (14 * (k : Int) + i) = if (k : Int) = nwA (M 16 2) - 1 then M 17 i else M 19 (14 * ((k : Int) + shA (M 16 2)) + i)) ∧ stk 17 M1 R
def MA (M M2 : mM) (R : Int → Int) : Prop := (∀ n, n ≠ 112 → n ≠ 113 → ¬ (119 ≤ n ∧ n ≤ 136) → M2 n = M n) ∧ (∀ i, i ∉ ([5, 8, 9, 33, 37, 38, 40, 44, 45, 46, 47, 48, 49, 53, 57] : List Int) → M2 112 i = M 112 i) ∧ M2 112 8 = nwA (M 112 8) ∧ M2 112 9 = (M 112 9 + shA (M 112 8)) % 40 ∧ (∀ i : Int, 0 ≤ i → i < 79 → M2 113 i = R i) ∧ (∀ (k : Nat) (i : Int), (k : Int) < nwA (M 112 8) → 0 ≤ i → i < 80 → M2 113 (80 + 80 * (((M 112 9 + shA (M 112 8)) % 40 + k) % 40) + i) = if (k : Int) = nwA (M 112 8) - 1 then M 113 i else M 113 (80 + 80 * ((M 112 9 + (k + shA (M 112 8))) % 40) + i)) ∧ ∀ i : Int, 3280 ≤ i → M2 113 i = M 113 i
theorem c_X7_remember {d k : Nat} {M : mM} {Q : mRes → mM → Prop} (hA : 0 ≤ M 16 2 ∧ M 16 2 ≤ 40) (hQ : ∀ M1, (∀ n, n ≠ 16 → n ≠ 19 → M1 n = M n) → M1 16 3 = M 16 3 → M1 16 2 = nwA (M 16 2) → (∀ k i : Nat, (k : Int) < nwA (M 16 2) → i < 14 → M1 19 (14 * (k : Int) + i) = if (k : Int) = nwA (M 16 2) - 1 then M 17 i else M 19 (14 * ((k : Int) + shA (M 16 2)) + i)) → Q (.inl none) M1) : V (d + 2) k qX7_remember 0 [mR 15 7 16] [] M Q := by
  refine B_X7_remember_0 (Or.inl rfl) ⟨fun h => ?_, fun h => ?_⟩
  · have e1 : shA (M 16 2) = 0 := by unfold shA; rw [if_pos h]
    have e2 : nwA (M 16 2) = M 16 2 + 1 := by unfold nwA; rw [e1]; omega
    rw [e2, e1] at hQ
    refine B_X7_remember_32 (Or.inl rfl) ⟨by omega, by omega, by omega, by omega, by omega, hQ _ (fun n a b => by rw [up_row a, cp_row (by omega)]) (by rw [up_fld (by decide), cp_row (by decide)]) up_s (fun k i hk hi => ?_)⟩
    rw [up_row (by decide)]
    by_cases e : (k : Int) = M 16 2
    · rw [show (19 : Int) = 16 + 3 by decide, cp_in (by omega), if_pos (by omega), show (16 : Int) + 1 = 17 by decide]
      congr 1 <;> omega
    · rw [show (19 : Int) = 16 + 3 by decide, cp_out (by omega), if_neg (by omega)]
      congr 1 <;> omega
  · have e0 : M 16 2 = 40 := by omega
    have e1 : shA (M 16 2) = 1 := by unfold shA; rw [if_neg h]
    have e2 : nwA (M 16 2) = 40 := by unfold nwA; rw [e1]; omega
    rw [e2, e1] at hQ
    have Bk := B_X7_remember_32 (d := d) (k := k) (M := mUp (mCp M (16 + 3) 14 (16 + 3) 0 546) 16 2 39) (Q := Q) (n0 := 16) (Or.inl rfl)
    rw [up_s] at Bk
    refine Bk ⟨by omega, by omega, by omega, by omega, by omega, hQ _ (fun n a b => by rw [up_row a, cp_row (by omega), up_row a, cp_row (by omega)]) (by rw [up_fld (by decide), cp_row (by decide), up_fld (by decide), cp_row (by decide)]) (by rw [up_s]; rfl) (fun k i hk hi => ?_)⟩
    rw [up_row (by decide)]
    by_cases e : (k : Int) = 39
    · rw [show (19 : Int) = 16 + 3 by decide, cp_in (by omega), if_pos (by omega), up_row (by decide), cp_row (by decide), show (16 : Int) + 1 = 17 by decide]
      congr 1; omega
    · rw [show (19 : Int) = 16 + 3 by decide, cp_out (by omega), if_neg (by omega), up_row (by decide), cp_in (by omega)]
      congr 1; omega
theorem c_X10_copies {d k : Nat} {M : mM} {Q : mRes → mM → Prop} {x y : Int} {n : Nat} (hx : 0 ≤ x ∧ x + n ≤ 6800) (hy : 0 ≤ y ∧ y + n ≤ 6800) (hxy : x + n ≤ y ∨ y + n ≤ x) (hQ : ∀ M', frN [113] M M' → (∀ i : Int, M' 113 i = if y ≤ i ∧ i < y + n then M 113 (x + (i - y)) else M 113 i) → Q (.inl none) M') : V d k qX10_copies 0 [mR 18 58 112, mI x, mI y, mI n, mE 0] [] M Q := by
  have loop : ∀ (r j : Nat) (M' : mM), j + r = n → frN [113] M M' → (∀ i : Int, M' 113 i = if y ≤ i ∧ i < y + j then M 113 (x + (i - y)) else M 113 i) → V d k qX10_copies 3 [mR 18 58 112, mI x, mI y, mI n, mI j] [] M' Q := by
    intro r
    induction r with
    | zero =>
      intro j M' hj g1 g2
      refine B_X10_copies_3 ⟨fun _ => hQ M' g1 (fun i => ?_), fun z => by omega⟩
      rw [g2 i, show j = n by omega]
    | succ r ih =>
      intro j M' hj g1 g2
      refine B_X10_copies_3 ⟨fun z => by omega, fun _ => ⟨by omega, by omega, by omega, by omega, by omega, ih (j + 1) _ (by omega) (g1.up (by simp)) (fun i => ?_)⟩⟩
      by_cases e : i = y + j
      · rw [e, up_s, g2 (x + j), if_neg (by omega), if_pos (by omega)]
        congr 1; omega
      · rw [up_fld e, g2 i]
        by_cases h : y ≤ i ∧ i < y + j
        · rw [if_pos h, if_pos (by omega)]
        · rw [if_neg h, if_neg (by omega)]
  exact B_X10_copies_0 (loop n 0 M (by omega) frN.rf (fun i => by rw [if_neg (by omega)]))
theorem c_X10_keeps {d k : Nat} {M : mM} {Q : mRes → mM → Prop} (hA : 0 ≤ M 112 8 ∧ M 112 8 ≤ 40) (hF : 0 ≤ M 112 9 ∧ M 112 9 < 40) (hQ : ∀ M2, MA M M2 (M 113) → M2 112 5 = M 112 5 → (∀ n, n ≠ 112 → n ≠ 113 → M2 n = M n) → (∀ i, i ≠ 8 → i ≠ 9 → M2 112 i = M 112 i) → Q (.inl none) M2) : V (d + 1) k qX10_keeps 0 [mR 18 58 112] [] M Q := by
  -- from the place where what is kept is copied
  have cpy : ∀ (M1 : mM) (sh : Int), sh = shA (M 112 8) → M1 112 8 = M 112 8 - sh → M1 112 9 = (M 112 9 + sh) % 40 → (∀ n, n ≠ 112 → M1 n = M n) → (∀ i, i ≠ 8 → i ≠ 9 → M1 112 i = M 112 i) → V (d + 1) k qX10_keeps 32 [mR 18 58 112] [] M1 Q := by
    intro M1 sh hsh h8 h9 hn hi
    have hs : (sh = 0 ∧ M 112 8 < 40) ∨ (sh = 1 ∧ M 112 8 = 40) := by
      rw [hsh]; unfold shA; split <;> omega
    have en : nwA (M 112 8) = M 112 8 + 1 - sh := by unfold nwA; rw [← hsh]
    refine B_X10_keeps_32 (B_X10_keptAt_0 ⟨by omega, by omega, by omega, by omega, B_X10_keeps_45 ?_⟩)
    refine c_X10_copies (n := 80) (by omega) (by omega) (by omega) (fun M3 p1 p2 => B_X10_keeps_50 ?_)
    have e8 : M3 112 8 = M 112 8 - sh := by rw [p1 112 (by simp)]; exact h8
    rw [e8]
    refine ⟨by omega, hQ _ ⟨fun n a b c => by rw [up_row a, p1 n (by simp; omega)]; exact hn n a, fun i hi' => ?_, by rw [up_s, en]; omega, ?_, fun i a b => ?_, fun k i hk ha hb => ?_, fun i a => ?_⟩ (by rw [up_fld (by decide), p1 112 (by simp)]; exact hi 5 (by decide) (by decide)) (fun n a b => by rw [up_row a, p1 n (by simp; omega)]; exact hn n a) (fun i a b => by rw [up_fld a, p1 112 (by simp)]; exact hi i a b)⟩
    · simp at hi'
      rw [up_fld (by omega), p1 112 (by simp)]; exact hi i (by omega) (by omega)
    · rw [up_fld (by decide), p1 112 (by simp), h9, ← hsh]
    · rw [up_row (by decide), p2 i, if_neg (by omega), hn 113 (by decide)]
    · rw [up_row (by decide), p2, h8, h9, ← hsh, hn 113 (by decide)]
      by_cases e : (k : Int) = nwA (M 112 8) - 1
      · rw [if_pos (by omega), if_pos e]
        congr 1; omega
      · rw [if_neg (by omega), if_neg e]
        congr 1; omega
    · rw [up_row (by decide), p2 i, if_neg (by omega), hn 113 (by decide)]
  refine B_X10_keeps_0 ⟨fun e => cpy M 0 ?_ (by omega) (by omega) (fun _ _ => rfl) (fun _ _ _ => rfl), fun e => ⟨by omega, by omega, by omega, cpy _ 1 ?_ up_s ?_ (fun n a => by rw [up_row a, up_row a]) (fun i a b => by rw [up_fld a, up_fld b])⟩⟩
  · unfold shA; rw [if_pos (by omega)]
  · unfold shA; rw [if_neg (by omega)]
  · rw [up_fld (by decide), up_s]
theorem rEq_stk {n : Int} {M M' : mM} {R R' : Int → Int} (hM : M' n = M n) (h : ∀ i : Int, 0 ≤ i → i < 79 → R' i = R i) (hs : stk n M R) : stkA n 0 M' R' := by
  have e0 : pkL R' = pkL R := pkL_congr (fun s hs => h s (by omega) (by omega))
  refine ⟨by rw [hM, e0]; exact hs.1, by rw [hM, h 6 (by omega) (by omega)]; exact hs.2.1, fun b hb => ?_⟩
  rw [hM, Int.zero_add, hs.2.2 b hb]
  exact pkL_congr (fun s hs => (h (7 + 6 * b + s) (by omega) (by omega)).symm)
theorem rEq_ok {c : Int} {K : Nat} {sz R R' : Int → Int} (hK : K ≤ 6) (h : ∀ i : Int, 0 ≤ i → i < 79 → R' i = R i) (hr : rowOK c K sz R) : rowOK c K sz R' := by
  obtain ⟨h1, h2, h3, h4, h5⟩ := hr
  refine ⟨fun s hs => by rw [h s (by omega) (by omega)]; exact h1 s hs, by rw [sg_congr (g := R) (fun j hj => h j (by omega) (by omega))]; exact h2, by rw [h 6 (by omega) (by omega)]; exact h3, fun b s hb hs => by rw [h (7 + 6 * b + s) (by omega) (by omega), h 6 (by omega) (by omega)]; exact h4 b s hb hs, fun b hb => ?_⟩
  rw [sg_congr (f := fun s => sz s * R' (7 + 6 * b + s)) (g := fun s => sz s * R (7 + 6 * b + s)) (fun j hj => by show sz j * R' _ = sz j * R _; rw [h (7 + 6 * b + j) (by omega) (by omega)])]
  exact h5 b hb
/-- class and model have done the same act -/
theorem act_St {c : Int} {K : Nat} {N : Int} {M M1 M2 : mM} {R : Int → Int} (hS : St c K N M) (hX : XA M M1 R) (hM : MA M1 M2 R) (hR : rowOK c K (M 9) R) : St c K N M2 := by
  obtain ⟨x1, x2, x3, x4, x5⟩ := hX
  obtain ⟨m1, m2, m3, m4, m5, m6, m7⟩ := hM
  obtain ⟨h1, ⟨⟨i1, i2, i3, i4, i5⟩, i6, i7, i8, i9⟩, h3, h4, h5⟩ := hS
  have hK6 := h1.2.1
  have c0 := fun n (a : n ≠ 16) (b : n ≠ 17) (e : n ≠ 19) (f : ¬ ((2 ≤ n ∧ n ≤ 7) ∨ (12 ≤ n ∧ n ≤ 15) ∨ (28 ≤ n ∧ n ≤ 111))) (g : n ≠ 112) (h : n ≠ 113) (i : ¬ (119 ≤ n ∧ n ≤ 136)) => (m1 n g h i).trans (x1 n a b e f)
  have e112 : M1 112 = M 112 := x1 112 (by omega) (by omega) (by omega) (by omega)
  have e113 : M1 113 = M 113 := x1 113 (by omega) (by omega) (by omega) (by omega)
  have f9 : M2 9 = M 9 := c0 9 (by omega) (by omega) (by omega) (by omega) (by omega) (by omega) (by omega)
  have g16 : M2 16 = M1 16 := m1 16 (by omega) (by omega) (by omega)
  have g17 : M2 17 = M1 17 := m1 17 (by omega) (by omega) (by omega)
  have g19 : M2 19 = M1 19 := m1 19 (by omega) (by omega) (by omega)
  rw [e112] at m2 m3 m4 m6
  rw [e113] at m6 m7
  have fl : ∀ i, i ∉ ([5, 8, 9, 33, 37, 38, 40, 44, 45, 46, 47, 48, 49, 53, 57] : List Int) → M2 112 i = M 112 i := m2
  have hsA : (shA (M 112 8) = 0 ∧ M 112 8 < 40) ∨ (shA (M 112 8) = 1 ∧ M 112 8 = 40) := by unfold shA; split <;> omega
  have hnA : nwA (M 112 8) = M 112 8 + 1 - shA (M 112 8) := rfl
  refine ⟨?_, ⟨⟨?_, ?_, by omega, by omega, by rw [fl 10 (by simp)]; exact i5⟩, ⟨?_, ?_⟩, fun k hk => ?_, fun i hi => ?_, fun i hi => ?_⟩, ?_, ?_, ?_⟩
  · unfold lotR
    rw [c0 8 (by omega) (by omega) (by omega) (by omega) (by omega) (by omega) (by omega), fl 6 (by simp), fl 7 (by simp), f9, c0 114 (by omega) (by omega) (by omega) (by omega) (by omega) (by omega) (by omega), c0 11 (by omega) (by omega) (by omega) (by omega) (by omega) (by omega) (by omega)]; exact h1
  · rw [g16, x3, m3, i1]
  · rw [g16, x2, fl 10 (by simp), i2]
  · exact rEq_stk (M := M1) (R := R) g17 (fun i a b => by rw [Int.zero_add]; exact m5 i a b) x5
  · rw [f9]
    exact rEq_ok hK6 (fun i a b => by rw [Int.zero_add]; exact m5 i a b) hR
  · rw [m4]
    rw [m3] at hk
    have em : ∀ i : Int, 0 ≤ i → i < 80 → M2 113 (80 + 80 * (((M 112 9 + shA (M 112 8)) % 40 + k) % 40) + i) = if (k : Int) = nwA (M 112 8) - 1 then M 113 i else M 113 (80 + 80 * ((M 112 9 + (k + shA (M 112 8))) % 40) + i) := fun i a b => m6 k i hk a b
    have ex : ∀ i : Nat, i < 14 → M2 (16 + 3) (14 * (k : Int) + i) = if (k : Int) = nwA (M 112 8) - 1 then M 17 i else M 19 (14 * ((k : Int) + shA (M 112 8)) + i) := fun i hi => by
      have := x4 k i (by rw [i1]; exact hk) hi
      rw [i1] at this
      show M2 19 _ = _
      rw [g19]; exact this
    rw [f9]
    by_cases e : (k : Int) = nwA (M 112 8) - 1
    · have em' := fun i a b => (em i a b).trans (if_pos e)
      have ex' := fun i hi => (ex i hi).trans (if_pos e)
      have hrow : stk 17 M (M 113) ∧ rowOK c K (M 9) (M 113) := by
        have e0 : (fun i => M 113 (0 + i)) = M 113 := funext fun i => by rw [Int.zero_add]
        rw [e0] at i6
        refine ⟨⟨i6.1.1, i6.1.2.1, fun b hb => ?_⟩, i6.2⟩
        have := i6.1.2.2 b hb
        rw [Int.zero_add] at this
        exact this
      refine ⟨⟨?_, ?_, fun b hb => ?_⟩, rEq_ok hK6 (fun i a b => em' i a (by omega)) hrow.2⟩
      · rw [show (14 * (k : Int) + 12) = 14 * (k : Int) + ((12 : Nat) : Int) by omega, ex' 12 (by omega)]
        exact hrow.1.1.trans (pkL_congr (fun s hs => (em' s (by omega) (by omega)).symm))
      · rw [show (14 * (k : Int) + 13) = 14 * (k : Int) + ((13 : Nat) : Int) by omega, ex' 13 (by omega)]
        exact hrow.1.2.1.trans (em' 6 (by omega) (by omega)).symm
      · rw [ex' b (by omega)]
        exact (hrow.1.2.2 b hb).trans (pkL_congr (fun s hs => (em' (7 + 6 * b + s) (by omega) (by omega)).symm))
    · have em' := fun i a b => (em i a b).trans (if_neg e)
      have ex' := fun i hi => (ex i hi).trans (if_neg e)
      obtain ⟨k', hk'⟩ : ∃ k' : Nat, (k : Int) + shA (M 112 8) = k' := ⟨((k : Int) + shA (M 112 8)).toNat, by omega⟩
      rw [hk'] at em' ex'
      obtain ⟨o1, o2⟩ := i7 k' (by omega)
      refine ⟨⟨?_, ?_, fun b hb => ?_⟩, rEq_ok hK6 (fun i a b => em' i a (by omega)) o2⟩
      · rw [show (14 * (k : Int) + 12) = 14 * (k : Int) + ((12 : Nat) : Int) by omega, ex' 12 (by omega)]
        exact Eq.trans o1.1 (pkL_congr (fun s hs => (em' s (by omega) (by omega)).symm))
      · rw [show (14 * (k : Int) + 13) = 14 * (k : Int) + ((13 : Nat) : Int) by omega, ex' 13 (by omega)]
        exact Eq.trans o1.2.1 (em' 6 (by omega) (by omega)).symm
      · rw [ex' b (by omega)]
        exact Eq.trans (o1.2.2 b hb) (pkL_congr (fun s hs => (em' (7 + 6 * b + s) (by omega) (by omega)).symm))
  · rw [fl 10 (by simp)] at hi
    rw [c0 (16 + 4) (by omega) (by omega) (by omega) (by omega) (by omega) (by omega) (by omega), c0 (16 + 5) (by omega) (by omega) (by omega) (by omega) (by omega) (by omega) (by omega), c0 115 (by omega) (by omega) (by omega) (by omega) (by omega) (by omega) (by omega), c0 116 (by omega) (by omega) (by omega) (by omega) (by omega) (by omega) (by omega)]
    exact i8 i hi
  · rw [c0 (16 + 2) (by omega) (by omega) (by omega) (by omega) (by omega) (by omega) (by omega), c0 117 (by omega) (by omega) (by omega) (by omega) (by omega) (by omega) (by omega)]
    exact i9 i hi
  · rw [c0 0 (by omega) (by omega) (by omega) (by omega) (by omega) (by omega) (by omega), fl 14 (by simp), f9, fl 11 (by simp), fl 12 (by simp), fl 13 (by simp)]
    refine ⟨h3.1, h3.2.imp (fun z => z) (fun z => ⟨z.1, ?_⟩)⟩
    obtain ⟨⟨b1, b2, b3, b4, b5⟩, b6, b7, b8, b9⟩ := z.2
    have g := fun n (a : 22 ≤ n ∧ n ≤ 27) => c0 n (by omega) (by omega) (by omega) (by omega) (by omega) (by omega) (by omega)
    have er : (fun i => M2 113 (3280 + i)) = fun i => if 0 ≤ i then M 113 (3280 + i) else M2 113 (3280 + i) := funext fun i => by
      by_cases e : 0 ≤ i
      · rw [if_pos e, m7 _ (by omega)]
      · rw [if_neg e]
    refine ⟨⟨by rw [g 22 (by omega)]; exact b1, by rw [g 22 (by omega)]; exact b2, b3, b4, b5⟩, ⟨?_, ?_⟩, fun k hk => ?_, fun i hi => ?_, fun i hi => ?_⟩
    · refine rEq_stk (M := M) (R := fun i => M 113 (3280 + i)) (g (22 + 1) (by omega)) (fun i a b => m7 _ (by omega)) ⟨?_, ?_, fun b hb => ?_⟩
      · have := b6.1.1; rw [Int.zero_add] at this; exact this
      · have := b6.1.2.1; rw [Int.zero_add] at this; exact this
      · have := b6.1.2.2 b hb; rw [Int.zero_add] at this; exact this
    · exact rEq_ok hK6 (fun i a b => m7 _ (by omega)) b6.2
    · obtain ⟨o1, o2⟩ := b7 k hk
      have em : ∀ i : Int, 0 ≤ i → M2 113 (3360 + 80 * ((M 112 12 + (k : Int)) % 40) + i) = M 113 (3360 + 80 * ((M 112 12 + (k : Int)) % 40) + i) := fun i a => m7 _ (by omega)
      refine ⟨⟨?_, ?_, fun b hb => ?_⟩, rEq_ok hK6 (fun i a b => em i a) o2⟩
      · rw [g (22 + 3) (by omega)]
        exact Eq.trans o1.1 (pkL_congr (fun s hs => (em s (by omega)).symm))
      · rw [g (22 + 3) (by omega)]
        exact Eq.trans o1.2.1 (em 6 (by omega)).symm
      · rw [g (22 + 3) (by omega)]
        exact Eq.trans (o1.2.2 b hb) (pkL_congr (fun s hs => (em (7 + 6 * b + s) (by omega)).symm))
    · rw [g (22 + 4) (by omega), g (22 + 5) (by omega), c0 115 (by omega) (by omega) (by omega) (by omega) (by omega) (by omega) (by omega), c0 116 (by omega) (by omega) (by omega) (by omega) (by omega) (by omega) (by omega)]
      exact b8 i hi
    · rw [g (22 + 2) (by omega), c0 117 (by omega) (by omega) (by omega) (by omega) (by omega) (by omega) (by omega)]
      exact b9 i hi
  · rw [c0 0 (by omega) (by omega) (by omega) (by omega) (by omega) (by omega) (by omega), fl 16 (by simp), c0 118 (by omega) (by omega) (by omega) (by omega) (by omega) (by omega) (by omega), c0 1 (by omega) (by omega) (by omega) (by omega) (by omega) (by omega) (by omega)]; exact h4
  · rw [c0 0 (by omega) (by omega) (by omega) (by omega) (by omega) (by omega) (by omega), fl 17 (by simp)]; exact h5
