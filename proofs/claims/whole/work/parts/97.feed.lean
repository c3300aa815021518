/-! feed -/
theorem and255 (z : Int) : (Int32.ofInt z &&& Int32.ofInt 255).toInt = z % 256 := by
  have h1 : (Int32.ofInt z &&& Int32.ofInt 255).toBitVec = BitVec.ofInt 32 z &&& 255#32 := rfl
  have h2 : (BitVec.ofInt 32 z &&& 255#32).toNat = (z % 256).toNat := by
    rw [BitVec.toNat_and, BitVec.toNat_ofInt]
    show _ &&& 255 = _
    rw [show (255 : Nat) = 2 ^ 8 - 1 from rfl, Nat.and_two_pow_sub_one_eq_mod]
    omega
  show (Int32.ofInt z &&& Int32.ofInt 255).toBitVec.toInt = _
  rw [h1, BitVec.toInt_eq_toNat_of_lt (by rw [h2]; omega), h2]
  omega
theorem b8_v (z : Int) : (Int8.ofInt z).toInt % 256 = z % 256 ∧ -128 ≤ (Int8.ofInt z).toInt ∧ (Int8.ofInt z).toInt ≤ 127 := by
  have e : (Int8.ofInt z).toInt = z.bmod 256 := by
    show (BitVec.ofInt 8 z).toInt = _
    rw [BitVec.toInt_ofInt]
  rw [e, Int.bmod_def]
  split <;> omega
/-- a byte of a number: the first is the highest -/
def btZ (x j : Int) : Int := (Int32.ofInt x >>> (Int32.ofInt (24 - 8 * j) &&& 31)).toInt
theorem c_X9_tapeInt {d k : Nat} {M : mM} {Q : mRes → mM → Prop} {x L : Int} (hL : M 0 1 = L) (hL2 : 0 ≤ L ∧ L + 4 ≤ 700) (hQ : ∀ M', (∀ n, n ≠ 0 → n ≠ 1 → M' n = M n) → M' 0 1 = L + 4 → (∀ j, j ≠ 1 → M' 0 j = M 0 j) → (∀ i : Int, M' 1 i = if L ≤ i ∧ i < L + 4 then (Int8.ofInt (btZ x (i - L))).toInt else M 1 i) → Q (.inl none) M') : V d k qX9_tapeInt 0 [mR 17 15 0, mI x, mE 0] [] M Q := by
  have loop : ∀ (r j : Nat) (M' : mM), j + r = 4 → (∀ n, n ≠ 0 → n ≠ 1 → M' n = M n) → M' 0 1 = L + j → (∀ i, i ≠ 1 → M' 0 i = M 0 i) → (∀ i : Int, M' 1 i = if L ≤ i ∧ i < L + j then (Int8.ofInt (btZ x (i - L))).toInt else M 1 i) → V d k qX9_tapeInt 3 [mR 17 15 0, mI x, mI (24 - 8 * (j : Int))] [] M' Q := by
    intro r
    induction r with
    | zero =>
      intro j M' hj g1 g2 g3 g4
      have e : j = 4 := by omega
      subst e
      exact B_X9_tapeInt_3 ⟨fun _ => hQ M' g1 g2 g3 g4, fun z => by omega⟩
    | succ r ih =>
      intro j M' hj g1 g2 g3 g4
      have Bk := B_X9_tapeInt_3 (d := d) (k := k) (M := M') (Q := Q) (x1 := x) (x2 := 24 - 8 * (j : Int))
      have eb : (Int32.ofInt x >>> (Int32.ofInt (24 - 8 * (j : Int)) &&& 31)).toInt = btZ x j := rfl
      rw [g2, eb] at Bk
      have hb := b8_v (btZ x j)
      refine Bk ⟨fun z => by omega, fun _ => ⟨fun z => by omega, fun _ => ⟨by omega, hb.2, by omega, by omega, ?_⟩⟩⟩
      have nx := ih (j + 1) (mUp (mUp M' 1 (L + j) ((Int8.ofInt (btZ x j)).toInt)) 0 1 (L + j + 1)) (by omega) (fun n a b => by rw [up_row a, up_row b]; exact g1 n a b) (by rw [up_s]; omega) (fun i hi => by rw [up_fld hi, up_row (by decide)]; exact g3 i hi) (fun i => by
        rw [up_row (by decide)]
        by_cases e : i = L + j
        · rw [e, up_s, if_pos (by omega), show L + (j : Int) - L = j by omega]
        · rw [up_fld e, g4 i]
          by_cases h : L ≤ i ∧ i < L + j
          · rw [if_pos h, if_pos (by omega)]
          · rw [if_neg h, if_neg (by omega)])
      rw [show (24 : Int) - 8 * (j : Int) + -8 = 24 - 8 * ((j + 1 : Nat) : Int) by omega]
      exact nx
  exact B_X9_tapeInt_0 (loop 4 0 M (by omega) (fun _ _ _ => rfl) (by rw [hL]; omega) (fun _ _ => rfl) (fun i => by rw [if_neg (by omega)]))
def fdW (x1 x2 x3 x4 x5 k : Int) : Int := if k = 0 then x1 else if k = 1 then x2 else if k = 2 then x3 else if k = 3 then x4 else x5
def fdX (f : Int → Int) (M M' : mM) (k : Int) : Prop := (∀ n, n ≠ 0 → n ≠ 1 → M' n = M n) ∧ M' 0 1 = M 0 1 + 4 * k ∧ (∀ j, j ≠ 1 → M' 0 j = M 0 j) ∧ ∀ i : Int, M' 1 i = if M 0 1 ≤ i ∧ i < M 0 1 + 4 * k then (Int8.ofInt (btZ (f ((i - M 0 1) / 4)) ((i - M 0 1) % 4))).toInt else M 1 i
theorem fdX.st {f : Int → Int} {M M' M'' : mM} {k : Int} (hk : 0 ≤ k) (h : fdX f M M' k) (h1 : ∀ n, n ≠ 0 → n ≠ 1 → M'' n = M' n) (h2 : M'' 0 1 = M 0 1 + 4 * k + 4) (h3 : ∀ j, j ≠ 1 → M'' 0 j = M' 0 j) (h4 : ∀ i : Int, M'' 1 i = if M 0 1 + 4 * k ≤ i ∧ i < M 0 1 + 4 * k + 4 then (Int8.ofInt (btZ (f k) (i - (M 0 1 + 4 * k)))).toInt else M' 1 i) : fdX f M M'' (k + 1) := by
  obtain ⟨g1, g2, g3, g4⟩ := h
  refine ⟨fun n a b => (h1 n a b).trans (g1 n a b), by rw [h2]; omega, fun j hj => (h3 j hj).trans (g3 j hj), fun i => ?_⟩
  rw [h4 i, g4 i]
  by_cases e : M 0 1 + 4 * k ≤ i ∧ i < M 0 1 + 4 * k + 4
  · rw [if_pos e, if_pos (by omega), show (i - M 0 1) / 4 = k by omega, show (i - M 0 1) % 4 = i - (M 0 1 + 4 * k) by omega]
  · rw [if_neg e]
    by_cases h : M 0 1 ≤ i ∧ i < M 0 1 + 4 * k
    · rw [if_pos h, if_pos (by omega)]
    · rw [if_neg h, if_neg (by omega)]
theorem xa_feed {d k : Nat} {c : Int} {K : Nat} {N : Int} {M : mM} {Q : mRes → mM → Prop} {x1 x2 x3 x4 x5 : Int} (hS : St c K N M) (h1 : M 112 16 + 20 ≤ 700 → ∀ M1, fdX (fdW x1 x2 x3 x4 x5) M M1 5 → Q (.inl (some (mI (M 112 16 + 20)))) M1) (h0 : ¬ M 112 16 + 20 ≤ 700 → Q (.inl (some (mI (-1)))) M) : V (d + 1) k qX9_feed 0 [mR 17 15 0, mI x1, mI x2, mI x3, mI x4, mI x5] [] M Q := by
  have hT := hS.2.2.2.1
  have e16 := hT.1
  have hr := hT.2.1
  refine B_X9_feed_0 ⟨by omega, fun z => ?_, fun z => h0 (by omega)⟩
  have f0 : fdX (fdW x1 x2 x3 x4 x5) M M 0 := ⟨fun _ _ _ => rfl, by omega, fun _ _ => rfl, fun i => by rw [if_neg (by omega)]⟩
  refine c_X9_tapeInt (L := M 0 1) rfl (by omega) (fun Ma a1 a2 a3 a4 => B_X9_feed_20 ?_)
  have fa : fdX (fdW x1 x2 x3 x4 x5) M Ma 1 := f0.st (by omega) a1 (by omega) a3 (fun i => by
    have := a4 i
    rw [show M 0 1 + 4 * 0 = M 0 1 by omega]; exact this)
  refine c_X9_tapeInt (L := M 0 1 + 4 * 1) (by rw [fa.2.1]) (by omega) (fun Mb b1 b2 b3 b4 => B_X9_feed_25 ?_)
  have fb : fdX (fdW x1 x2 x3 x4 x5) M Mb 2 := fa.st (by omega) b1 b2 b3 b4
  refine c_X9_tapeInt (L := M 0 1 + 4 * 2) (by rw [fb.2.1]) (by omega) (fun Mc c1 c2 c3 c4 => B_X9_feed_30 ?_)
  have fc : fdX (fdW x1 x2 x3 x4 x5) M Mc 3 := fb.st (by omega) c1 c2 c3 c4
  refine c_X9_tapeInt (L := M 0 1 + 4 * 3) (by rw [fc.2.1]) (by omega) (fun Md d1 d2 d3 d4 => B_X9_feed_36 ?_)
  have fd : fdX (fdW x1 x2 x3 x4 x5) M Md 4 := fc.st (by omega) d1 d2 d3 d4
  refine c_X9_tapeInt (L := M 0 1 + 4 * 4) (by rw [fd.2.1]) (by omega) (fun Me e1 e2 e3 e4 => B_X9_feed_42 ?_)
  have fe : fdX (fdW x1 x2 x3 x4 x5) M Me 5 := fd.st (by omega) e1 e2 e3 e4
  have h := h1 (by omega) Me fe
  rw [fe.2.1, e16, show M 112 16 + 4 * 5 = M 112 16 + 20 by omega]
  exact h
theorem ma_feed0 {d k : Nat} {c : Int} {K : Nat} {N : Int} {M : mM} {Q : mRes → mM → Prop} {x1 x2 x3 x4 x5 : Int} (hS : St c K N M) (h : ¬ M 112 16 + 20 ≤ 700) (hQ : ∀ M2, St c K N M2 → Q (.inl (some (mI (-1)))) M2) : V d k qX10_feed 0 [mR 18 58 112, mI x1, mI x2, mI x3, mI x4, mI x5, mE 0, mE 0] [] M Q := by
  have hT := hS.2.2.2.1
  exact B_X10_feed_0 ⟨by omega, fun z => (h z).elim, fun _ => hQ _ hS.m0⟩
theorem ma_feed1 {d k : Nat} {c : Int} {K : Nat} {N : Int} {M M1 : mM} {Q : mRes → mM → Prop} {x1 x2 x3 x4 x5 : Int} (hS : St c K N M) (h : M 112 16 + 20 ≤ 700) (hX : fdX (fdW x1 x2 x3 x4 x5) M M1 5) (hQ : ∀ M2, St c K N M2 → Q (.inl (some (mI (M 112 16 + 20)))) M2) : V d k qX10_feed 0 [mR 18 58 112, mI x1, mI x2, mI x3, mI x4, mI x5, mE 0, mE 0] [] M1 Q := by
  have hT := hS.2.2.2.1
  have e16 := hT.1
  have hr := hT.2.1
  have e112 : M1 112 = M 112 := hX.1 112 (by decide) (by decide)
  have Bk := B_X10_feed_0 (d := d) (k := k) (M := M1) (Q := Q) (x1 := x1) (x2 := x2) (x3 := x3) (x4 := x4) (x5 := x5)
  rw [e112] at Bk
  refine Bk ⟨by omega, fun _ => ?_, fun z => (z h).elim⟩
  have loop : ∀ (r j : Nat) (M' : mM) (u7 : mV), j + r = 20 → (∀ n, n ≠ 118 → M' n = mUp M1 112 5 0 n) → (∀ i : Int, M' 118 i = if M 112 16 ≤ i ∧ i < M 112 16 + j then btZ (fdW x1 x2 x3 x4 x5 ((i - M 112 16) / 4)) ((i - M 112 16) % 4) % 256 else M 118 i) → V d k qX10_feed 23 [mR 18 58 112, mI x1, mI x2, mI x3, mI x4, mI x5, mI j, u7] [] M' Q := by
    intro r
    induction r with
    | zero =>
      intro j M' u7 hj g1 g2
      have e : j = 20 := by omega
      subst e
      have f16 : M' 112 16 = M 112 16 := by rw [g1 112 (by decide), up_fld (by decide), e112]
      have Bk := B_X10_feed_23 (d := d) (k := k) (M := M') (Q := Q) (x1 := x1) (x2 := x2) (x3 := x3) (x4 := x4) (x5 := x5) (x6 := ((20 : Nat) : Int)) (u7 := u7)
      rw [f16] at Bk
      refine Bk ⟨fun _ => ⟨by omega, hQ _ ?_⟩, fun z => by omega⟩
      have wn : ∀ n : Int, n ≠ 0 → n ≠ 1 → n ≠ 112 → n ≠ 118 → mUp M' 112 16 (M 112 16 + 20) n = M n := fun n a b e f => by rw [up_row e, g1 n f, up_row e]; exact hX.1 n a b
      have w0 : ∀ j : Int, j ≠ 1 → mUp M' 112 16 (M 112 16 + 20) 0 j = M 0 j := fun j hj => by rw [up_row (by decide), g1 0 (by decide), up_row (by decide)]; exact hX.2.2.1 j hj
      have w01 : mUp M' 112 16 (M 112 16 + 20) 0 1 = M 112 16 + 20 := by rw [up_row (by decide), g1 0 (by decide), up_row (by decide), hX.2.1]; omega
      have w1 : ∀ i : Int, mUp M' 112 16 (M 112 16 + 20) 1 i = M1 1 i := fun i => by rw [up_row (by decide), g1 1 (by decide), up_row (by decide)]
      have w118 : ∀ i : Int, mUp M' 112 16 (M 112 16 + 20) 118 i = M' 118 i := fun i => by rw [up_row (by decide)]
      have w112 : ∀ i : Int, i ≠ 5 → i ≠ 16 → mUp M' 112 16 (M 112 16 + 20) 112 i = M 112 i := fun i a b => by rw [up_fld b, g1 112 (by decide), up_fld a, e112]
      have w16 : mUp M' 112 16 (M 112 16 + 20) 112 16 = M 112 16 + 20 := up_s
      generalize mUp M' 112 16 (M 112 16 + 20) = M2 at *
      obtain ⟨s1, s2, s3, s4, s5⟩ := hS
      have q := fun n (a : n ≠ 0 ∧ n ≠ 1 ∧ n ≠ 112 ∧ n ≠ 118) => wn n a.1 a.2.1 a.2.2.1 a.2.2.2
      refine ⟨?_, ?_, ?_, ⟨by rw [w01, w16], by rw [w01]; omega, fun i hi => ?_⟩, ?_⟩
      · unfold lotR
        rw [q 8 (by decide), w112 6 (by decide) (by decide), w112 7 (by decide) (by decide), q 9 (by decide), q 114 (by decide), q 11 (by decide)]; exact s1
      · rw [q 9 (by decide), w112 8 (by decide) (by decide), w112 9 (by decide) (by decide), w112 10 (by decide) (by decide)]
        exact imgR.cg (q 16 (by decide)) (q (16 + 1) (by decide)) (q (16 + 2) (by decide)) (q (16 + 3) (by decide)) (q (16 + 4) (by decide)) (q (16 + 5) (by decide)) (q 113 (by decide)) (q 115 (by decide)) (q 116 (by decide)) (q 117 (by decide)) s2
      · rw [w0 3 (by decide), q 9 (by decide), w112 11 (by decide) (by decide), w112 12 (by decide) (by decide), w112 13 (by decide) (by decide), w112 14 (by decide) (by decide)]
        refine ⟨s3.1, s3.2.imp (fun z => z) (fun z => ⟨z.1, ?_⟩)⟩
        exact imgR.cg (q 22 (by decide)) (q (22 + 1) (by decide)) (q (22 + 2) (by decide)) (q (22 + 3) (by decide)) (q (22 + 4) (by decide)) (q (22 + 5) (by decide)) (q 113 (by decide)) (q 115 (by decide)) (q 116 (by decide)) (q 117 (by decide)) z.2
      · rw [w01] at hi
        rw [w118, w1, g2, hX.2.2.2, e16]
        by_cases y : M 112 16 ≤ (i : Int) ∧ (i : Int) < M 112 16 + ((20 : Nat) : Int)
        · rw [if_pos y, if_pos (by omega), (b8_v _).1]
        · rw [if_neg y, if_neg (by omega)]
          exact s4.2.2 i (by omega)
      · rw [w0 2 (by decide), w112 17 (by decide) (by decide)]; exact s5
    | succ r ih =>
      intro j M' u7 hj g1 g2
      have f16 : M' 112 16 = M 112 16 := by rw [g1 112 (by decide), up_fld (by decide), e112]
      have stp : V d k qX10_feed 76 [mR 18 58 112, mI x1, mI x2, mI x3, mI x4, mI x5, mI j, u7] [mI (fdW x1 x2 x3 x4 x5 ((j : Int) / 4))] M' Q := by
        have Bk := B_X10_feed_76 (d := d) (k := k) (M := M') (Q := Q) (x1 := x1) (x2 := x2) (x3 := x3) (x4 := x4) (x5 := x5) (x6 := j) (u7 := u7) (sx0 := fdW x1 x2 x3 x4 x5 ((j : Int) / 4))
        have eb : (Int32.ofInt (fdW x1 x2 x3 x4 x5 ((j : Int) / 4)) >>> (Int32.ofInt (24 - 8 * ((j : Int) % 4)) &&& 31)).toInt = btZ (fdW x1 x2 x3 x4 x5 ((j : Int) / 4)) ((j : Int) % 4) := rfl
        rw [f16, eb, and255] at Bk
        refine Bk ⟨by omega, by omega, by omega, by omega, by omega, by omega, ih (j + 1) _ _ (by omega) (fun n hn => by rw [up_row hn]; exact g1 n hn) (fun i => ?_)⟩
        by_cases e : i = M 112 16 + j
        · rw [e, up_s, if_pos (by omega), show M 112 16 + (j : Int) - M 112 16 = j by omega]
        · rw [up_fld e, g2 i]
          by_cases y : M 112 16 ≤ i ∧ i < M 112 16 + j
          · rw [if_pos y, if_pos (by omega)]
          · rw [if_neg y, if_neg (by omega)]
      unfold fdW at stp
      refine B_X10_feed_23 ⟨fun z => by omega, fun _ => ⟨fun a => ⟨fun b => ⟨fun e => ⟨fun f => ?_, fun f => ?_⟩, fun e => ?_⟩, fun b => ?_⟩, fun a => ?_⟩⟩
      · rw [if_neg (by omega), if_neg (by omega), if_neg (by omega), if_neg (by omega)] at stp; exact stp
      · rw [if_neg (by omega), if_neg (by omega), if_neg (by omega), if_pos (by omega)] at stp; exact stp
      · rw [if_neg (by omega), if_neg (by omega), if_pos (by omega)] at stp; exact stp
      · rw [if_neg (by omega), if_pos (by omega)] at stp; exact stp
      · rw [if_pos (by omega)] at stp; exact stp
  exact loop 20 0 _ _ (by omega) (fun _ _ => rfl) (fun i => by rw [up_row (by decide), hX.1 118 (by decide) (by decide), if_neg (by omega)])
