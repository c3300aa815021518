/-! look: the guesses one behind the other, the numbers of bins that each rule gives at them -/
def glV (c : Int) (K : Nat) (M : mM) (n s : Nat) (l : List (Int → Int)) : Nat → List (Int → Int)
  | 0 => l
  | v + 1 => if ((v + 1 : Nat) : Int) ≠ M 9 s ∧ agF c K M (fset (M 9) s ((v + 1 : Nat) : Int)) n = 1 then glV c K M n s l v ++ [fset (M 9) s ((v + 1 : Nat) : Int)] else glV c K M n s l v
def glS (c : Int) (K : Nat) (M : mM) (n : Nat) : Nat → List (Int → Int)
  | 0 => []
  | s + 1 => glV c K M n s (glS c K M n s) c.toNat
theorem glV_len {c : Int} {K : Nat} {M : mM} {n s : Nat} {l : List (Int → Int)} {b : Nat} (h : l.length ≤ b) : ∀ v : Nat, (glV c K M n s l v).length ≤ b + v
  | 0 => h
  | v + 1 => by
    have ih := glV_len (c := c) (K := K) (M := M) (n := n) (s := s) h v
    unfold glV
    split
    · rw [List.length_append]
      show _ + 1 ≤ _
      omega
    · omega
theorem glS_len {c : Int} {K : Nat} {M : mM} {n : Nat} (hc : 1 ≤ c ∧ c ≤ 99) : ∀ s : Nat, (glS c K M n s).length ≤ 99 * s
  | 0 => by show 0 ≤ _; omega
  | s + 1 => by
    have := glV_len (c := c) (K := K) (M := M) (n := n) (s := s) (glS_len (K := K) (M := M) (n := n) hc s) c.toNat
    show (glV c K M n s (glS c K M n s) c.toNat).length ≤ _
    omega
def wL (c : Int) (K : Nat) (mn : Int → Int) (l : List (Int → Int)) (r i : Nat) : Nat := if i < l.length then min 24 (pkA c r (l.getD i (fun _ => 0)) mn (orF (l.getD i (fun _ => 0)) K) K).1 else 0
theorem wL_lt {c : Int} {K : Nat} {mn : Int → Int} {l : List (Int → Int)} (r i : Nat) : wL c K mn l r i < 25 := by
  unfold wL
  split <;> omega
theorem wL_app {c : Int} {K : Nat} {mn : Int → Int} {l : List (Int → Int)} {z : Int → Int} {r i : Nat} (hi : i < l.length) : wL c K mn (l ++ [z]) r i = wL c K mn l r i := by
  unfold wL
  have e : (l ++ [z]).getD i (fun _ => 0) = l.getD i (fun _ => 0) := by
    rw [List.getD_eq_getElem?_getD, List.getD_eq_getElem?_getD, List.getElem?_append_left hi]
  rw [e, if_pos hi, if_pos (by rw [List.length_append]; omega)]
theorem wL_new {c : Int} {K : Nat} {mn : Int → Int} {l : List (Int → Int)} {z : Int → Int} {r : Nat} (h : (pkA c r z mn (orF z K) K).1 < 25) : wL c K mn (l ++ [z]) r l.length = (pkA c r z mn (orF z K) K).1 := by
  unfold wL
  have e : (l ++ [z]).getD l.length (fun _ => 0) = z := by
    rw [List.getD_eq_getElem?_getD, List.getElem?_append_right (Nat.le_refl _), Nat.sub_self]
    rfl
  rw [e, if_pos (by rw [List.length_append]; show _ < _ + 1; omega)]
  omega
theorem mkW_cg {W W' : Nat → Nat} : ∀ g : Nat, (∀ i, i < g → W i = W' i) → mkW W g = mkW W' g
  | 0, _ => rfl
  | g + 1, h => by
    show mkW W g ||| 2 ^ W g = mkW W' g ||| 2 ^ W' g
    rw [mkW_cg g (fun i hi => h i (by omega)), h g (by omega)]
theorem mkW_new {c : Int} {K : Nat} {mn : Int → Int} {l : List (Int → Int)} {z : Int → Int} {r : Nat} (h : (pkA c r z mn (orF z K) K).1 < 25) : mkW (wL c K mn (l ++ [z]) r) (l ++ [z]).length = (mkW (wL c K mn l r) l.length ||| 2 ^ (pkA c r z mn (orF z K) K).1) := by
  rw [List.length_append]
  show mkW _ l.length ||| 2 ^ _ = _
  rw [mkW_cg l.length (fun i hi => wL_app hi), wL_new h]
theorem dsW_pos {W : Nat → Nat} : ∀ g : Nat, 1 ≤ dsW W (g + 1)
  | 0 => by show 1 ≤ 0 + 1; omega
  | g + 1 => by
    have := dsW_pos (W := W) g
    show 1 ≤ dsW W (g + 1) + _
    omega
def lkF (u : Nat → Nat) : Nat → Int × Int
  | 0 => (-1, 0)
  | r + 1 => if (lkF u r).2 < u r then ((r : Int), (u r : Int)) else lkF u r
theorem lkF_wd {u : Nat → Nat} (h : ∀ r, 1 ≤ u r) : ∀ r : Nat, lkF u (r + 1) = ((wdF u (r + 1) : Int), (u (wdF u (r + 1)) : Int))
  | 0 => by
    have e : wdF u 1 = 0 := by show (if u 0 < u 0 then 0 else 0) = 0; rw [if_neg (by omega)]
    rw [e]
    show (if (0 : Int) < u 0 then (((0 : Nat) : Int), (u 0 : Int)) else ((-1 : Int), 0)) = _
    rw [if_pos (by have := h 0; omega)]
  | r + 1 => by
    have ih := lkF_wd h r
    show (if (lkF u (r + 1)).2 < u (r + 1) then (((r + 1 : Nat) : Int), (u (r + 1) : Int)) else lkF u (r + 1)) = _
    rw [ih]
    have e : wdF u (r + 1 + 1) = if u (wdF u (r + 1)) < u (r + 1) then r + 1 else wdF u (r + 1) := rfl
    by_cases hh : u (wdF u (r + 1)) < u (r + 1)
    · rw [if_pos hh] at e
      rw [if_pos (by show (u (wdF u (r + 1)) : Int) < _; omega), e]
    · rw [if_neg hh] at e
      rw [if_neg (by show ¬ (u (wdF u (r + 1)) : Int) < _; omega), e]
theorem lkF_0 {u : Nat → Nat} (h : ∀ r, u r = 0) : ∀ r : Nat, lkF u r = (-1, 0)
  | 0 => rfl
  | r + 1 => by
    show (if (lkF u r).2 < u r then ((r : Int), (u r : Int)) else lkF u r) = _
    rw [lkF_0 h r, if_neg (by rw [h r]; show ¬ (0 : Int) < 0; omega)]
theorem lkF_rg {u : Nat → Nat} : ∀ r : Nat, -1 ≤ (lkF u r).1 ∧ (lkF u r).1 ≤ r ∧ 0 ≤ (lkF u r).2
  | 0 => by show (-1 : Int) ≤ -1 ∧ (-1 : Int) ≤ _ ∧ (0 : Int) ≤ 0; omega
  | r + 1 => by
    have ih := lkF_rg (u := u) r
    unfold lkF
    split
    · show (-1 : Int) ≤ (r : Int) ∧ (r : Int) ≤ _ ∧ (0 : Int) ≤ (u r : Int); omega
    · omega
/-- how many unlike numbers each rule gives at the guesses -/
def lkU (c : Int) (K : Nat) (M : mM) (r : Nat) : Nat := dsW (wL c K (M 113) (glS c K M (M 112 10).toNat K) r) (glS c K M (M 112 10).toNat K).length
def an_look (c : Int) (K : Nat) (M : mM) (w : Int) : An := if 0 ≤ w ∧ w ≤ 1 then .inl (if w = 0 then (lkF (lkU c K M) 8).1 else (lkF (lkU c K M) 8).2) else .inr 1
/-- the class while it searches and sees -/
def sxL (c : Int) (K : Nat) (M M' : mM) (s : Nat) (l : List (Int → Int)) : Prop := kpX M M' ∧ M' 12 0 = c ∧ M' 12 1 = K ∧ (∀ t : Nat, t < K → t ≠ s → M' 13 t = M 9 t) ∧ (∀ t : Nat, t < K → M' 14 t = M 113 t) ∧ M' 108 0 = (l.length : Int) ∧ ∀ r : Nat, r < 8 → M' 109 r = ((mkW (wL c K (M 113) l r) l.length : Nat) : Int)
theorem c_X1_search1 {d k : Nat} {c : Int} {K : Nat} {N : Int} {M M1 : mM} {Q : mRes → mM → Prop} {n : Nat} (hS : St c K N M) (hn : M 112 10 = n) (q : askX c K M M1) (hQ : ∀ M2, kpX M M2 → M2 108 0 = ((glS c K M n K).length : Int) → (∀ r : Nat, r < 8 → M2 109 r = ((mkW (wL c K (M 113) (glS c K M n K) r) (glS c K M n K).length : Nat) : Int)) → Q (.inl none) M2) : V (d + 5) k qX1_search 0 [mR 10 3 108, mR 11 5 12, mR 15 7 16, mR 13 5 28, mI 1, mE 0, mE 0, mE 0] [] M1 Q := by
  have hL := hS.1
  have hK6 := hL.2.1
  have hc := hL.1
  obtain ⟨cn, hcn⟩ : ∃ m : Nat, c = m := ⟨c.toNat, by omega⟩
  have inner : ∀ (s : Nat) (l : List (Int → Int)), s < K → l.length ≤ 99 * s → (∀ M', sxL c K M M' K (glV c K M n s l cn) → ∀ u6 u7, V (d + 5) k qX1_search 37 [mR 10 3 108, mR 11 5 12, mR 15 7 16, mR 13 5 28, mI 1, mI ((s : Int) + 1), u6, u7] [] M' Q) → ∀ (r v : Nat) (M' : mM), v + r = cn → sxL c K M M' s (glV c K M n s l v) → V (d + 5) k qX1_search 58 [mR 10 3 108, mR 11 5 12, mR 15 7 16, mR 13 5 28, mI 1, mI s, mI (M 9 s), mI ((v : Int) + 1)] [] M' Q := by
    intro s l hs hst nxt r
    induction r with
    | zero =>
      intro v M' hv g
      obtain ⟨g1, g2, g3, g4, g5, g6, g7⟩ := g
      have Bk := B_X1_search_58 (d := d + 4) (k := k) (M := M') (Q := Q) (x4 := 1) (x5 := s) (x6 := M 9 s) (x7 := (v : Int) + 1)
      rw [g2] at Bk
      have ev : v = cn := by omega
      rw [ev] at g6 g7
      refine Bk ⟨fun _ => ⟨by omega, by omega, nxt _ ⟨g1.tr (fun t ht => up_row (by omega)), by rw [up_row (by decide)]; exact g2, by rw [up_row (by decide)]; exact g3, fun t ht _ => ?_, fun t ht => by rw [up_row (by decide)]; exact g5 t ht, by rw [up_row (by decide)]; exact g6, fun r hr => by rw [up_row (by decide)]; exact g7 r hr⟩ _ _⟩, fun z => by omega⟩
      by_cases e : t = s
      · subst e; rw [up_s]
      · rw [up_fld (by omega)]; exact g4 t ht e
    | succ r ih =>
      intro v M' hv g
      obtain ⟨g1, g2, g3, g4, g5, g6, g7⟩ := g
      have hbd := glV_len (c := c) (K := K) (M := M) (n := n) (s := s) hst v
      have eV : glV c K M n s l (v + 1) = if ((v + 1 : Nat) : Int) ≠ M 9 s ∧ agF c K M (fset (M 9) s ((v + 1 : Nat) : Int)) n = 1 then glV c K M n s l v ++ [fset (M 9) s ((v + 1 : Nat) : Int)] else glV c K M n s l v := rfl
      have ev : (v : Int) + 1 = ((v + 1 : Nat) : Int) := rfl
      have Bk := B_X1_search_58 (d := d + 4) (k := k) (M := M') (Q := Q) (x4 := 1) (x5 := s) (x6 := M 9 s) (x7 := (v : Int) + 1)
      rw [g2] at Bk
      refine Bk ⟨fun z => by omega, fun _ => ⟨by omega, c_X2_arrange (n0 := 12) (K := K) (by omega) (by rw [up_row (by decide)]; exact g3) hK6 (fun M2 p1 p2 => ?_)⟩⟩
      have f13 : ∀ t : Nat, t < K → M2 13 t = fset (M 9) s ((v + 1 : Nat) : Int) t := fun t ht => by
        rw [p1 13 (by simp)]
        by_cases e : t = s
        · subst e; rw [up_s, fset_s]; rfl
        · rw [up_fld (by omega), fset_n (by omega)]; exact g4 t ht e
      have hr : ∀ m, m ≠ 13 → m ≠ 15 → M2 m = M' m := fun m a b => by rw [p1 m (by simp; omega), up_row a]
      have kp2 : kpX M M2 := g1.tr (fun t ht => hr t (by omega) (by omega))
      have g2' : M2 12 0 = c := by rw [hr 12 (by decide) (by decide)]; exact g2
      have g3' : M2 12 1 = K := by rw [hr 12 (by decide) (by decide)]; exact g3
      have hl : lotE K (M2 13) (M2 14) (M2 15) (fset (M 9) s ((v + 1 : Nat) : Int)) (M 113) (orF (fset (M 9) s ((v + 1 : Nat) : Int)) K) := ⟨fun t ht => ⟨f13 t ht, by rw [hr 14 (by decide) (by decide)]; exact g5 t ht⟩, fun i hi => by
        have e : M2 15 i = orF (fset (M 9) s ((v + 1 : Nat) : Int)) K i := by
          show M2 (12 + 3) i = _
          rw [p2 i hi]
          refine congrFun (orF_congr (fun t ht => ?_)) _
          show mUp M' 13 s ((v : Int) + 1) 13 t = _
          have := f13 t ht
          rw [p1 13 (by simp)] at this
          exact this
        have := orF_rg (sz := fset (M 9) s ((v + 1 : Nat) : Int)) K i hi
        rw [e]; exact ⟨rfl, this⟩⟩
      have hz : ∀ t : Nat, t < K → 1 ≤ fset (M 9) s ((v + 1 : Nat) : Int) t ∧ fset (M 9) s ((v + 1 : Nat) : Int) t ≤ c := fun t ht => by
        by_cases e : (t : Int) = s
        · rw [e, fset_s]; omega
        · rw [fset_n e]; exact (hS.sz ht).2
      have go : ∀ M3 : mM, kpX M M3 → M3 12 0 = c → M3 12 1 = K → (∀ t : Nat, t < K → t ≠ s → M3 13 t = M 9 t) → (∀ t : Nat, t < K → M3 14 t = M 113 t) → M3 108 0 = ((glV c K M n s l (v + 1)).length : Int) → (∀ r : Nat, r < 8 → M3 109 r = ((mkW (wL c K (M 113) (glV c K M n s l (v + 1)) r) (glV c K M n s l (v + 1)).length : Nat) : Int)) → V (d + 5) k qX1_search 144 [mR 10 3 108, mR 11 5 12, mR 15 7 16, mR 13 5 28, mI 1, mI s, mI (M 9 s), mI ((v : Int) + 1)] [] M3 Q := fun M3 a1 a2 a3 a4 a5 a6 a7 => B_X1_search_144 ⟨by omega, ih (v + 1) M3 (by omega) ⟨a1, a2, a3, a4, a5, a6, a7⟩⟩
      have m4 : ∀ t : Nat, t < K → t ≠ s → M2 13 t = M 9 t := fun t ht e => by rw [f13 t ht, fset_n (by omega)]
      have m5 : ∀ t : Nat, t < K → M2 14 t = M 113 t := fun t ht => by rw [hr 14 (by decide) (by decide)]; exact g5 t ht
      have m6 : M2 108 0 = ((glV c K M n s l v).length : Int) := by rw [hr 108 (by decide) (by decide)]; exact g6
      have m7 : ∀ r : Nat, r < 8 → M2 109 r = ((mkW (wL c K (M 113) (glV c K M n s l v) r) (glV c K M n s l v).length : Nat) : Int) := fun r hr8 => by rw [hr 109 (by decide) (by decide)]; exact g7 r hr8
      refine B_X1_search_80 ⟨fun z => ?_, fun z => ?_⟩
      · rw [if_neg (fun y => y.1 (by omega))] at eV
        exact go M2 kp2 g2' g3' m4 m5 (by rw [eV]; exact m6) (by rw [eV]; exact m7)
      · refine c_X1_agrees hS hn kp2 g2' g3' hl hz (fun M3 w => ?_)
        have kp3 : kpX M M3 := kp2.tr (fun t ht => w t (by simp; omega))
        have h12 : M3 12 = M2 12 := w 12 (by simp)
        have h13 : M3 13 = M2 13 := w 13 (by simp)
        have h14 : M3 14 = M2 14 := w 14 (by simp)
        have h15 : M3 15 = M2 15 := w 15 (by simp)
        have h108 : M3 108 = M2 108 := w 108 (by simp)
        have h109 : M3 109 = M2 109 := w 109 (by simp)
        have Bk := B_X1_search_94 (d := d + 4) (k := k) (M := M3) (Q := Q) (x4 := 1) (x5 := s) (x6 := M 9 s) (x7 := (v : Int) + 1) (sx0 := agF c K M (fset (M 9) s ((v + 1 : Nat) : Int)) n)
        have last : ∀ x : Int, glV c K M n s l (v + 1) = glV c K M n s l v ++ [fset (M 9) s ((v + 1 : Nat) : Int)] → V (d + 5) k qX1_search 120 [mR 10 3 108, mR 11 5 12, mR 15 7 16, mR 13 5 28, mI 1, mI s, mI (M 9 s), mI ((v : Int) + 1)] [mI x, mR 10 3 108] M3 Q := fun x h1 => by
          have Bk := B_X1_search_120 (d := d + 4) (k := k) (M := M3) (Q := Q) (x4 := 1) (x5 := s) (x6 := M 9 s) (x7 := (v : Int) + 1) (sx0 := x)
          rw [h108, m6] at Bk
          refine Bk ⟨by omega, fun y => by omega, fun _ => ?_⟩
          generalize hMq : mUp (mUp M3 108 1 x) 108 0 (((glV c K M n s l v).length : Int) + 1) = Mq
          have r108 : ∀ t, t ≠ 108 → Mq t = M3 t := fun t ht => by rw [← hMq, up_row ht, up_row ht]
          have q108 : Mq 108 0 = ((glV c K M n s l v).length : Int) + 1 := by rw [← hMq]; exact up_s
          have hPz := hS.anyP hz
          have hb25 : ∀ r : Nat, (pkA c r (fset (M 9) s ((v + 1 : Nat) : Int)) (M 113) (orF (fset (M 9) s ((v + 1 : Nat) : Int)) K) K).1 < 25 := fun r => by
            have ok := pkA_ok hPz (r := r) K (Nat.le_refl _)
            have hsm := hPz.sum (r := r)
            have := ok.1.1; have := ok.2; omega
          refine c_X1_see (c := c) (K := K) (sz := fset (M 9) s ((v + 1 : Nat) : Int)) (mn := M 113) (od := orF (fset (M 9) s ((v + 1 : Nat) : Int)) K) (m := fun r => mkW (wL c K (M 113) (glV c K M n s l v) r) (glV c K M n s l v).length) (by rw [r108 12 (by decide), h12]; exact g2') (by rw [r108 12 (by decide), h12]; exact g3') (by rw [r108 13 (by decide), r108 14 (by decide), r108 15 (by decide), h13, h14, h15]; exact hl) (hS.any hz) hPz (fun r hr8 => ⟨by rw [r108 109 (by decide), h109]; exact m7 r hr8, mkW_lt (fun i => wL_lt r i) _⟩) (fun M4 w4 hm4 => ?_)
          refine go M4 (kp3.tr (fun t ht => by rw [w4 t (by simp; omega), r108 t (by omega)])) (by rw [w4 12 (by simp), r108 12 (by decide), h12]; exact g2') (by rw [w4 12 (by simp), r108 12 (by decide), h12]; exact g3') (fun t a b => by rw [w4 13 (by simp), r108 13 (by decide), h13]; exact m4 t a b) (fun t a => by rw [w4 14 (by simp), r108 14 (by decide), h14]; exact m5 t a) (by rw [w4 108 (by simp), q108, h1, List.length_append]; rfl) (fun r hr8 => ?_)
          rw [hm4 r hr8, h1, mkW_new (hb25 r)]
        refine Bk ⟨fun y => ?_, fun y => ?_⟩
        · rw [if_neg (fun x => by have := x.2; omega)] at eV
          exact go M3 kp3 (by rw [h12]; exact g2') (by rw [h12]; exact g3') (fun t a b => by rw [h13]; exact m4 t a b) (fun t a => by rw [h14]; exact m5 t a) (by rw [eV, h108]; exact m6) (fun r hr8 => by rw [eV, h109]; exact m7 r hr8)
        · have y1 : agF c K M (fset (M 9) s ((v + 1 : Nat) : Int)) n = 1 := by
            rcases agF_01 (c := c) (K := K) (M := M) (sz := fset (M 9) s ((v + 1 : Nat) : Int)) n with y2 | y2
            · exact (y y2).elim
            · exact y2
          rw [if_pos ⟨by omega, y1⟩] at eV
          exact ⟨fun x => last _ eV, fun x => ⟨by omega, by omega, last _ eV⟩⟩
  have outer : ∀ (r s : Nat) (M' : mM) (u6 u7 : mV), s + r = K → sxL c K M M' K (glS c K M n s) → V (d + 5) k qX1_search 37 [mR 10 3 108, mR 11 5 12, mR 15 7 16, mR 13 5 28, mI 1, mI s, u6, u7] [] M' Q := by
    intro r
    induction r with
    | zero =>
      intro s M' u6 u7 hs g
      have e : s = K := by omega
      subst e
      have Bk := B_X1_search_37 (d := d + 4) (k := k) (M := M') (Q := Q) (x4 := 1) (x5 := s) (u6 := u6) (u7 := u7)
      rw [g.2.2.1] at Bk
      exact Bk ⟨fun _ => hQ M' g.1 g.2.2.2.2.2.1 g.2.2.2.2.2.2, fun z => by omega⟩
    | succ r ih =>
      intro s M' u6 u7 hs g
      have Bk := B_X1_search_37 (d := d + 4) (k := k) (M := M') (Q := Q) (x4 := 1) (x5 := s) (u6 := u6) (u7 := u7)
      rw [g.2.2.1, g.2.2.2.1 s (by omega) (by omega)] at Bk
      refine Bk ⟨fun z => by omega, fun _ => ⟨by omega, ?_⟩⟩
      have hb := glS_len (K := K) (M := M) (n := n) hc s
      refine inner s (glS c K M n s) (by omega) hb (fun M'' g' u6 u7 => ?_) cn 0 M' (by omega) ⟨g.1, g.2.1, g.2.2.1, fun t ht _ => g.2.2.2.1 t ht (by omega), g.2.2.2.2⟩
      have := ih (s + 1) M'' u6 u7 (by omega) (by
        have e : glS c K M n (s + 1) = glV c K M n s (glS c K M n s) cn := by show glV c K M n s (glS c K M n s) c.toNat = _; rw [hcn]; rfl
        rw [e]; exact g')
      exact this
  refine B_X1_search_0 ?_
  have wipe : ∀ (r j : Nat) (M' : mM), j + r = 8 → (∀ t, t ≠ 109 → M' t = mUp (mUp M1 108 0 0) 108 1 (-1) t) → (∀ i : Nat, i < j → M' 109 i = 0) → V (d + 5) k qX1_search 13 [mR 10 3 108, mR 11 5 12, mR 15 7 16, mR 13 5 28, mI 1, mI j, mE 0, mE 0] [] M' Q := by
    intro r
    induction r with
    | zero =>
      intro j M' hj g gz
      have g' : ∀ t, t ≠ 109 → t ≠ 108 → M' t = M1 t := fun t a b => by rw [g t a, up_row b, up_row b]
      refine B_X1_search_13 ⟨fun _ => outer K 0 M' _ _ (by omega) ⟨q.kp.tr (fun t ht => g' t (by omega) (by omega)), by rw [g' 12 (by decide) (by decide)]; exact q.1, by rw [g' 12 (by decide) (by decide)]; exact q.2.1, fun t ht _ => by rw [g' 13 (by decide) (by decide)]; exact (q.2.2.1.1 t ht).1, fun t ht => by rw [g' 14 (by decide) (by decide)]; exact (q.2.2.1.1 t ht).2, by rw [g 108 (by decide), up_fld (by decide), up_s]; rfl, fun r hr8 => by rw [gz r (by omega)]; rfl⟩, fun z => by omega⟩
    | succ r ih =>
      intro j M' hj g gz
      exact B_X1_search_13 ⟨fun z => by omega, fun _ => ⟨by omega, by omega, ih (j + 1) _ (by omega) (fun t ht => by rw [up_row ht]; exact g t ht) (fun i hi => by
        by_cases e : i = j
        · subst e; exact up_s
        · rw [up_fld (by omega)]; exact gz i (by omega))⟩⟩
  exact wipe 8 0 _ (by omega) (fun _ _ => rfl) (fun i hi => absurd hi (Nat.not_lt_zero i))
theorem xq_look {d : Nat} {c : Int} {K : Nat} {N : Int} {M : mM} {Q : mRes → mM → Prop} {w : Int} (hS : St c K N M) (hQ : ∀ M', kpX M M' → Q (xr (an_look c K M w)) M') : V (d + 60) 3 qX9_look 0 [mR 17 15 0, mI w, mE 0] [] M Q := by
  unfold an_look at hQ
  have hA := hS.A
  have no : ¬ (0 ≤ w ∧ w ≤ 1) → Q (.inr 1) M := fun h => by have := hQ M kpX.rf; rw [if_neg h] at this; exact this
  obtain ⟨n, hn⟩ : ∃ n : Nat, M 112 10 = n := ⟨(M 112 10).toNat, by omega⟩
  have en : (M 112 10).toNat = n := by omega
  have main : 0 ≤ w ∧ w ≤ 1 → V (d + 60) 3 qX9_look 20 [mR 17 15 0, mI w, mE 0] [] M Q := fun hw => by
    rw [if_pos hw] at hQ
    refine B_X9_look_20 (c_X9_restNow hS (fun M1 q => B_X9_look_28 (c_X1_search1 hS hn q (fun M2 k2 h1 h2 => ?_))))
    have hu : ∀ r : Nat, lkU c K M r = dsW (wL c K (M 113) (glS c K M n K) r) (glS c K M n K).length := fun r => by unfold lkU; rw [en]
    have Bk := B_X9_look_40 (d := d + 59) (k := 3) (M := M2) (Q := Q) (x1 := w) (u2 := mE 0)
    rw [h1] at Bk
    refine Bk ⟨fun z => ?_, fun z => ?_⟩
    · obtain ⟨g0, hg0⟩ : ∃ g0, (glS c K M n K).length = g0 + 1 := ⟨(glS c K M n K).length - 1, by omega⟩
      have hp : ∀ r, 1 ≤ lkU c K M r := fun r => by rw [hu r, hg0]; exact dsW_pos g0
      have hwd : lkF (lkU c K M) 8 = ((wdF (lkU c K M) 8 : Int), (lkU c K M (wdF (lkU c K M) 8) : Int)) := lkF_wd hp 7
      have hfe : (fun r => dsW (wL c K (M 113) (glS c K M n K) r) (glS c K M n K).length) = lkU c K M := funext fun r => (hu r).symm
      refine c_X1_widest (W := fun r => wL c K (M 113) (glS c K M n K) r) (g := (glS c K M n K).length) (fun r i => wL_lt r i) h2 ?_
      rw [hfe]
      have hlt : wdF (lkU c K M) 8 ≤ 7 := wdF_lt (u := lkU c K M) 7
      have h := hQ M2 k2
      refine B_X9_look_67 ⟨fun y => ?_, fun y => ?_⟩
      · refine c_X1_unlike (W := wL c K (M 113) (glS c K M n K) (wdF (lkU c K M) 8)) (g := (glS c K M n K).length) (fun i => wL_lt _ i) (by omega) (h2 _ (by omega)) (B_X9_look_84 ?_)
        rw [if_neg y, hwd] at h
        rw [← hu]
        exact h
      · rw [if_pos y, hwd] at h
        exact B_X9_look_84 h
    · have hl0 : (glS c K M n K).length = 0 := by omega
      have h0 := lkF_0 (u := lkU c K M) (fun r => by rw [hu r, hl0]; rfl) 8
      have h := hQ M2 k2
      rw [h0] at h
      refine ⟨fun y => ?_, fun y => ?_⟩
      · rw [if_neg y] at h; exact h
      · rw [if_pos y] at h; exact h
  exact B_X9_look_0 ⟨fun z => main (by omega), fun z => ⟨fun y => main (by omega), fun y => ⟨by omega, by omega, no (by omega)⟩⟩⟩
theorem mq_look {d k : Nat} {c : Int} {K : Nat} {N : Int} {M : mM} {Q : mRes → mM → Prop} {w : Int} (hS : St c K N M) (hQ : ∀ M' v, kpM M M' → mr (fun _ => 1) (an_look c K M w) M' v → Q (.inl (some (mI v))) M') : V (d + 60) k qX10_look 0 [mR 18 58 112, mI w, mE 0, mE 0, mE 0, mE 0, mE 0] [] M Q := by
  unfold an_look at hQ
  have hL := hS.1
  have hK6 := hL.2.1
  have hc := hL.1
  have hA := hS.A
  obtain ⟨n, hn⟩ : ∃ n : Nat, M 112 10 = n := ⟨(M 112 10).toNat, by omega⟩
  have en : (M 112 10).toNat = n := by omega
  obtain ⟨cn, hcn⟩ : ∃ m : Nat, c = m := ⟨c.toNat, by omega⟩
  have kp0 : kpM M (mUp M 112 5 0) := kpM.rf.fl (by simp)
  have e50 : mUp M 112 5 0 112 5 = 0 := up_s
  refine B_X10_look_0 (c_X10_within (fun x hx => B_X10_look_12 (c_X10_fine e50 (by decide) (fun hz => B_X10_look_16 ⟨fun z => (z rfl).elim, fun _ => hQ _ 0 (kp0.fl (by simp)) ?_⟩) (fun hz => B_X10_look_16 ⟨fun _ => ?_, fun z => by omega⟩))))
  · have hn : ¬ (0 ≤ w ∧ w ≤ 1) := fun z => by rw [if_pos z] at hx; omega
    rw [if_neg hn]; exact up_s
  have hw : 0 ≤ w ∧ w ≤ 1 := by
    by_cases z : 0 ≤ w ∧ w ≤ 1
    · exact z
    · rw [if_neg z] at hx; omega
  rw [if_pos hw] at hQ
  have hu : ∀ r : Nat, lkU c K M r = dsW (wL c K (M 113) (glS c K M n K) r) (glS c K M n K).length := fun r => by unfold lkU; rw [en]
  generalize mUp M 112 5 0 = M0 at *
  have f6 : ∀ M' : mM, kpM M M' → M' 112 6 = c := fun M' k' => by rw [k'.2 6 (by simp)]; exact hL.2.2.2.1
  have f7 : ∀ M' : mM, kpM M M' → M' 112 7 = K := fun M' k' => by rw [k'.2 7 (by simp)]; exact hL.2.2.2.2.2.1
  have hlen6 : ∀ s, s ≤ K → (glS c K M n s).length ≤ 594 := fun s hs => by have := glS_len (K := K) (M := M) (n := n) hc s; omega
  -- the rows of numbers
  have tail : ∀ (r j : Nat) (M' : mM) (u6 : mV), j + r = 8 → kpM M M' → M' 112 5 = 0 → (∀ r i : Nat, r < 8 → i < (glS c K M n K).length → M' 136 (8 * (i : Int) + r) = ((wL c K (M 113) (glS c K M n K) r i : Nat) : Int)) → V (d + 60) k qX10_look 115 [mR 18 58 112, mI w, mI ((glS c K M n K).length : Int), mI (lkF (lkU c K M) j).1, mI (lkF (lkU c K M) j).2, mI j, u6] [] M' Q := by
    intro r
    induction r with
    | zero =>
      intro j M' u6 hj k' e' g
      have ej : j = 8 := by omega
      subst ej
      refine B_X10_look_115 ⟨fun _ => ⟨fun y => hQ M' _ k' ⟨e', by rw [if_neg y]⟩, fun y => hQ M' _ k' ⟨e', by rw [if_pos y]⟩⟩, fun z => by omega⟩
    | succ r ih =>
      intro j M' u6 hj k' e' g
      refine B_X10_look_115 ⟨fun z => by omega, fun _ => c_X10_unlike (W := wL c K (M 113) (glS c K M n K) j) (g := (glS c K M n K).length) (r := j) (by omega) (by have := hlen6 K (Nat.le_refl _); omega) (fun i hi => g j i (by omega) hi) ?_⟩
      have el : lkF (lkU c K M) (j + 1) = if (lkF (lkU c K M) j).2 < lkU c K M j then ((j : Int), (lkU c K M j : Int)) else lkF (lkU c K M) j := rfl
      have nx := ih (j + 1) M'
      rw [← hu j]
      refine B_X10_look_129 ⟨fun y => ⟨by omega, ?_⟩, fun y => ⟨by omega, ?_⟩⟩
      · rw [if_pos y] at el
        have := nx (mI (lkU c K M j : Int)) (by omega) k' e' g
        rw [el] at this
        exact this
      · rw [if_neg y] at el
        have := nx (mI (lkU c K M j : Int)) (by omega) k' e' g
        rw [el] at this
        exact this
  have inner : ∀ (s : Nat) (l : List (Int → Int)), s < K → l.length ≤ 99 * s → (∀ M' u4 u5 u6, kpM M M' → M' 112 5 = 0 → (∀ r i : Nat, r < 8 → i < (glV c K M n s l cn).length → M' 136 (8 * (i : Int) + r) = ((wL c K (M 113) (glV c K M n s l cn) r i : Nat) : Int)) → V (d + 60) k qX10_look 25 [mR 18 58 112, mI w, mI ((glV c K M n s l cn).length : Int), mI ((s : Int) + 1), u4, u5, u6] [] M' Q) → ∀ (r v : Nat) (M' : mM) (u5 u6 : mV), v + r = cn → kpM M M' → M' 112 5 = 0 → (∀ r i : Nat, r < 8 → i < (glV c K M n s l v).length → M' 136 (8 * (i : Int) + r) = ((wL c K (M 113) (glV c K M n s l v) r i : Nat) : Int)) → V (d + 60) k qX10_look 36 [mR 18 58 112, mI w, mI ((glV c K M n s l v).length : Int), mI s, mI ((v : Int) + 1), u5, u6] [] M' Q := by
    intro s l hs hst nxt r
    induction r with
    | zero =>
      intro v M' u5 u6 hv k' e' g
      have e : v = cn := by omega
      subst e
      have Bk := B_X10_look_36 (d := d + 59) (k := k) (M := M') (Q := Q) (x1 := w) (x2 := ((glV c K M n s l v).length : Int)) (x3 := s) (x4 := (v : Int) + 1) (u5 := u5) (u6 := u6)
      rw [f6 M' k'] at Bk
      exact Bk ⟨fun _ => ⟨by omega, nxt M' _ _ _ k' e' g⟩, fun z => by omega⟩
    | succ r ih =>
      intro v M' u5 u6 hv k' e' g
      have hbd := glV_len (c := c) (K := K) (M := M) (n := n) (s := s) hst v
      have eV : glV c K M n s l (v + 1) = if ((v + 1 : Nat) : Int) ≠ M 9 s ∧ agF c K M (fset (M 9) s ((v + 1 : Nat) : Int)) n = 1 then glV c K M n s l v ++ [fset (M 9) s ((v + 1 : Nat) : Int)] else glV c K M n s l v := rfl
      have eg : guF c K M n s ((v : Int) + 1) = if ((v + 1 : Nat) : Int) ≠ M 9 s ∧ agF c K M (fset (M 9) s ((v + 1 : Nat) : Int)) n = 1 then 1 else 0 := rfl
      have Bk := B_X10_look_36 (d := d + 59) (k := k) (M := M') (Q := Q) (x1 := w) (x2 := ((glV c K M n s l v).length : Int)) (x3 := s) (x4 := (v : Int) + 1) (u5 := u5) (u6 := u6)
      rw [f6 M' k'] at Bk
      refine Bk ⟨fun z => by omega, fun _ => c_X10_isGuess hS hn k' e' hs (by omega) (fun M2 k2 e2 e136 hgs => ?_)⟩
      have g2 : ∀ r i : Nat, r < 8 → i < (glV c K M n s l v).length → M2 136 (8 * (i : Int) + r) = ((wL c K (M 113) (glV c K M n s l v) r i : Nat) : Int) := fun r i a b => by rw [e136]; exact g r i a b
      by_cases y : ((v + 1 : Nat) : Int) ≠ M 9 s ∧ agF c K M (fset (M 9) s ((v + 1 : Nat) : Int)) n = 1
      · rw [if_pos y] at eV eg
        obtain ⟨q33, ql⟩ := hgs eg
        have ql : lotE K (M2 122) (M2 121) (M2 123) (fset (M 9) s ((v + 1 : Nat) : Int)) (M 113) (orF (fset (M 9) s ((v + 1 : Nat) : Int)) K) := ql
        rw [eg]
        have hz : ∀ t : Nat, t < K → 1 ≤ fset (M 9) s ((v + 1 : Nat) : Int) t ∧ fset (M 9) s ((v + 1 : Nat) : Int) t ≤ c := fun t ht => by
          by_cases e : (t : Int) = s
          · rw [e, fset_s]; omega
          · rw [fset_n e]; exact (hS.sz ht).2
        have hPz := hS.anyP hz
        have hPl := ql.PL (hS.any hz) hPz
        have hb25 : ∀ r : Nat, (pkA c r (fset (M 9) s ((v + 1 : Nat) : Int)) (M 113) (orF (fset (M 9) s ((v + 1 : Nat) : Int)) K) K).1 < 25 := fun r => by
          have ok := pkA_ok hPz (r := r) K (Nat.le_refl _)
          have hsm := hPz.sum (r := r)
          have := ok.1.1; have := ok.2; omega
        have fill : ∀ (t j : Nat) (M3 : mM), j + t = 8 → kpM M M3 → M3 112 5 = 0 → M3 112 33 = c → (M3 122 = M2 122 ∧ M3 121 = M2 121 ∧ M3 123 = M2 123) → (∀ r i : Nat, r < 8 → i < (glV c K M n s l v).length → M3 136 (8 * (i : Int) + r) = ((wL c K (M 113) (glV c K M n s l v) r i : Nat) : Int)) → (∀ r : Nat, r < j → M3 136 (8 * ((glV c K M n s l v).length : Int) + r) = ((pkA c r (fset (M 9) s ((v + 1 : Nat) : Int)) (M 113) (orF (fset (M 9) s ((v + 1 : Nat) : Int)) K) K).1 : Int)) → V (d + 60) k qX10_look 61 [mR 18 58 112, mI w, mI ((glV c K M n s l v).length : Int), mI s, mI ((v : Int) + 1), mI j, u6] [] M3 Q := by
          intro t
          induction t with
          | zero =>
            intro j M3 hj k3 e3 h33 hrows b1 b2
            refine B_X10_look_61 ⟨fun _ => ⟨by omega, by omega, ?_⟩, fun z => by omega⟩
            have nx := ih (v + 1) M3 (mI j) u6 (by omega) k3 e3 (fun r i hr8 hi => ?_)
            · rw [eV, List.length_append] at nx
              exact nx
            · rw [eV] at hi ⊢
              rw [List.length_append] at hi
              have hi : i < (glV c K M n s l v).length + 1 := hi
              by_cases e : i < (glV c K M n s l v).length
              · rw [wL_app e]; exact b1 r i hr8 e
              · have e : i = (glV c K M n s l v).length := by omega
                subst e
                rw [wL_new (hb25 r)]
                exact b2 r (by omega)
          | succ t iht =>
            intro j M3 hj k3 e3 h33 hrows b1 b2
            refine B_X10_look_61 ⟨fun z => by omega, fun _ => ⟨by omega, by omega, c_X10_packs (c := c) (K := K) h33 (f7 M3 k3) (by rw [hrows.1, hrows.2.1, hrows.2.2]; exact hPl) (by omega) (fun M4 q1 q2 => ?_)⟩⟩
            rw [hrows.1, hrows.2.1, hrows.2.2, ql.pk]
            refine B_X10_look_85 ⟨by omega, by omega, iht (j + 1) _ (by omega) ?_ ?_ ?_ ?_ ?_ ?_⟩
            · have k4 : kpM M M4 := k3.tr (kpM.of q1 (fun n hn => by simp at hn; omega) (fun i hi => by simp at hi ⊢; omega))
              exact ⟨fun t a b => by rw [up_row (by omega)]; exact k4.1 t a b, fun i hi => by rw [up_row (by decide)]; exact k4.2 i hi⟩
            · rw [up_row (by decide), q1.2 5 (by simp)]; exact e3
            · rw [up_row (by decide), q1.2 33 (by simp)]; exact h33
            · exact ⟨by rw [up_row (by decide), q1.1 122 (by simp) (by decide)]; exact hrows.1, by rw [up_row (by decide), q1.1 121 (by simp) (by decide)]; exact hrows.2.1, by rw [up_row (by decide), q1.1 123 (by simp) (by decide)]; exact hrows.2.2⟩
            · intro r i hr8 hi
              rw [up_fld (by omega), q1.1 136 (by simp) (by decide)]
              exact b1 r i hr8 hi
            · intro r hr8
              by_cases e : r = j
              · subst e; exact up_s
              · rw [up_fld (by omega), q1.1 136 (by simp) (by decide)]
                exact b2 r (by omega)
        exact B_X10_look_52 ⟨fun _ => fill 8 0 M2 (by omega) k2 e2 q33 ⟨rfl, rfl, rfl⟩ g2 (fun r hr => absurd hr (Nat.not_lt_zero r)), fun x => by omega⟩
      · rw [if_neg y] at eV eg
        rw [eg]
        have nx := ih (v + 1) M2 u5 u6 (by omega) k2 e2 (by rw [eV]; exact g2)
        rw [eV] at nx
        exact B_X10_look_52 ⟨fun x => (x rfl).elim, fun _ => ⟨by omega, nx⟩⟩
  have outer : ∀ (r s : Nat) (M' : mM) (u4 u5 u6 : mV), s + r = K → kpM M M' → M' 112 5 = 0 → (∀ r i : Nat, r < 8 → i < (glS c K M n s).length → M' 136 (8 * (i : Int) + r) = ((wL c K (M 113) (glS c K M n s) r i : Nat) : Int)) → V (d + 60) k qX10_look 25 [mR 18 58 112, mI w, mI ((glS c K M n s).length : Int), mI s, u4, u5, u6] [] M' Q := by
    intro r
    induction r with
    | zero =>
      intro s M' u4 u5 u6 hs k' e' g
      have e : s = K := by omega
      subst e
      have Bk := B_X10_look_25 (d := d + 59) (k := k) (M := M') (Q := Q) (x1 := w) (x2 := ((glS c s M n s).length : Int)) (x3 := s) (u4 := u4) (u5 := u5) (u6 := u6)
      rw [f7 M' k'] at Bk
      exact Bk ⟨fun _ => tail 8 0 M' u6 (by omega) k' e' g, fun z => by omega⟩
    | succ r ih =>
      intro s M' u4 u5 u6 hs k' e' g
      have Bk := B_X10_look_25 (d := d + 59) (k := k) (M := M') (Q := Q) (x1 := w) (x2 := ((glS c K M n s).length : Int)) (x3 := s) (u4 := u4) (u5 := u5) (u6 := u6)
      rw [f7 M' k'] at Bk
      have hb := glS_len (K := K) (M := M) (n := n) hc s
      have e : glS c K M n (s + 1) = glV c K M n s (glS c K M n s) cn := by show glV c K M n s (glS c K M n s) c.toNat = _; rw [hcn]; rfl
      refine Bk ⟨fun z => by omega, fun _ => inner s (glS c K M n s) (by omega) hb (fun M'' u4 u5 u6 k'' e'' g'' => ?_) cn 0 M' u5 u6 (by omega) k' e' g⟩
      have := ih (s + 1) M'' u4 u5 u6 (by omega) k'' e'' (by rw [e]; exact g'')
      rw [e] at this
      exact this
  exact outer K 0 M0 _ _ _ (by omega) kp0 e50 (fun r i _ hi => absurd hi (Nat.not_lt_zero i))
