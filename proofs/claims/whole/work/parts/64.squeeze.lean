/-! the squeezed net, pure: its paths are the net's -/
theorem hiF_mono {c : Int} {NZ : zL} (hz : zOK NZ) {l : Nat} {p q : Int} (h : p ≤ q) (hq : q ≤ c) : hiF c NZ l p ≤ hiF c NZ l q := by
  have := rc_mono (l := NZ.drop l) (f := c - q) (f' := c - p) hz.d (by omega) (by omega)
  unfold hiF; omega
theorem hiF_bd {c : Int} {NZ : zL} (hz : zOK NZ) {l : Nat} {p : Int} (h : 0 ≤ p) (hp : p ≤ c) : p ≤ hiF c NZ l p ∧ hiF c NZ l p ≤ c := by
  have := rc_bd (l := NZ.drop l) (f := c - p) hz.d (by omega)
  unfold hiF; omega
theorem cn_hi {c : Int} {NZ : zL} (hz : zOK NZ) {l : Nat} {p : Int} (hp : p ≤ c) : cn (NZ.drop l) (c - hiF c NZ l p) = cn (NZ.drop l) (c - p) := by
  unfold hiF
  rw [show c - (c - rc (NZ.drop l) (c - p)) = rc (NZ.drop l) (c - p) by omega]
  exact cn_rc hz.d (by omega)
theorem bf_ex {w h : Int → Int} : ∀ {p : Nat}, bfF w h p = -1 ∨ ∃ q : Nat, q < p ∧ 0 < w q ∧ h q = bfF w h p
  | 0 => Or.inl rfl
  | p + 1 => by
    rw [bf_s]
    split
    · rename_i hw; exact Or.inr ⟨p, by omega, hw, rfl⟩
    · rcases bf_ex (w := w) (h := h) (p := p) with e | ⟨q, h1, h2, h3⟩
      · exact Or.inl e
      · exact Or.inr ⟨q, by omega, h2, h3⟩
theorem bf_ge {w h : Int → Int} : ∀ {p q : Nat}, q < p → 0 < w q → (∀ i j : Nat, i ≤ j → j < p → h i ≤ h j) → h q ≤ bfF w h p
  | 0, q, hq, _, _ => by omega
  | p + 1, q, hq, hw, hm => by
    rw [bf_s]
    split
    · exact hm q p (by omega) (by omega)
    · rename_i hn
      have : q ≠ p := fun e => hn (by rw [← e]; exact hw)
      exact bf_ge (by omega) hw (fun i j h1 h2 => hm i j h1 (by omega))
theorem bf_iff {w h : Int → Int} {p : Nat} (hm : ∀ i j : Nat, i ≤ j → j ≤ p → h i ≤ h j) (h0 : 0 ≤ h p) : (h p = bfF w h p) ↔ ∃ q : Nat, q < p ∧ 0 < w q ∧ h q = h p := by
  constructor
  · intro e
    rcases bf_ex (w := w) (h := h) (p := p) with e2 | ⟨q, h1, h2, h3⟩
    · omega
    · exact ⟨q, h1, h2, by rw [h3, e]⟩
  · rintro ⟨q, h1, h2, h3⟩
    have h4 := bf_ge (h := h) h1 h2 (fun i j a b => hm i j a (by omega))
    rcases bf_ex (w := w) (h := h) (p := p) with e2 | ⟨q', h5, h6, h7⟩
    · omega
    · have := hm q' p (by omega) (Nat.le_refl _)
      omega
def sqN (x z p : Int) (H g : Int → Int) : Nat → Int → Int
  | 0 => g
  | n + 1 => fset (sqN x z p H g n) (H (p + n * z)) (sqN x z p H g n (H (p + n * z)) + x)
def sqP (f w h H : Int → Int) (z m c : Int) : Nat → Int → Int
  | 0 => fun _ => 0
  | p + 1 => if 0 < w p ∧ ¬ h p = bfF w h p then sqN (f (h p)) z p H (sqP f w h H z m c p) (arN z m (c - p)) else sqP f w h H z m c p
def sqL (c : Int) (NZ : zL) : Nat → Int → Int
  | 0 => fset (fun _ => 0) (hiF c NZ 0 0) 1
  | l + 1 => sqP (sqL c NZ l) (wyF c NZ l) (hiF c NZ l) (hiF c NZ (l + 1)) (NZ.getD l (1, 0)).1 (NZ.getD l (1, 0)).2 c (c.toNat + 1)
theorem sqN_le {x z p : Int} {H g : Int → Int} (hx : 0 ≤ x) : ∀ {n m : Nat}, n ≤ m → ∀ q : Int, sqN x z p H g n q ≤ sqN x z p H g m q := by
  intro n m h q
  induction m with
  | zero => rw [show n = 0 by omega]; exact Int.le_refl _
  | succ m ih =>
    by_cases e : n = m + 1
    · rw [e]; exact Int.le_refl _
    · refine Int.le_trans (ih (by omega)) ?_
      show _ ≤ fset (sqN x z p H g m) _ _ q
      unfold fset
      split
      · rename_i e; rw [← e]; omega
      · exact Int.le_refl _
theorem sqN_nn {x z p : Int} {H g : Int → Int} (hx : 0 ≤ x) (hg : ∀ q, 0 ≤ g q) (n : Nat) (q : Int) : 0 ≤ sqN x z p H g n q := Int.le_trans (hg q) (sqN_le hx (Nat.zero_le n) q)
theorem sqP_nn {f w h H : Int → Int} {z m c : Int} (hf : ∀ q, 0 ≤ f q) : ∀ (p : Nat) (q : Int), 0 ≤ sqP f w h H z m c p q
  | 0, _ => Int.le_refl _
  | p + 1, q => by
    unfold sqP
    split
    · exact sqN_nn (hf _) (sqP_nn hf p) _ q
    · exact sqP_nn hf p q
theorem sqL_nn {c : Int} {NZ : zL} : ∀ (l : Nat) (q : Int), 0 ≤ sqL c NZ l q
  | 0, q => by
    show 0 ≤ fset (fun _ => 0) (hiF c NZ 0 0) 1 q
    unfold fset
    split
    · decide
    · exact Int.le_refl _
  | l + 1, q => sqP_nn (sqL_nn l) _ q
theorem sqP_le {f w h H : Int → Int} {z m c : Int} (hf : ∀ q, 0 ≤ f q) {P P' : Nat} (hP : P ≤ P') (q : Int) : sqP f w h H z m c P q ≤ sqP f w h H z m c P' q := by
  induction P' with
  | zero => rw [show P = 0 by omega]; exact Int.le_refl _
  | succ P' ih =>
    by_cases e : P = P' + 1
    · rw [e]; exact Int.le_refl _
    · refine Int.le_trans (ih (by omega)) ?_
      show _ ≤ (if _ then _ else _ : Int → Int) q
      split
      · exact sqN_le (n := 0) (hf _) (Nat.zero_le _) q
      · exact Int.le_refl _
theorem sqN_phi {x z p : Int} {H g w : Int → Int} {N : Nat} : ∀ {n : Nat}, (∀ i : Nat, i < n → 0 ≤ H (p + i * z) ∧ H (p + i * z) < N) → sg (fun q => sqN x z p H g n q * w q) N = sg (fun q => g q * w q) N + x * sg (fun i => w (H (p + i * z))) n
  | 0, _ => by show sg (fun q => g q * w q) N = _ + x * 0; omega
  | n + 1, h => by
    have ih := sqN_phi (x := x) (g := g) (w := w) (n := n) (fun i hi => h i (by omega))
    have hn := h n (by omega)
    obtain ⟨i, hi⟩ : ∃ i : Nat, H (p + (n : Int) * z) = i := ⟨(H (p + (n : Int) * z)).toNat, by omega⟩
    show sg (fun q => fset (sqN x z p H g n) (H (p + n * z)) (sqN x z p H g n (H (p + n * z)) + x) q * w q) N = _ + x * (sg (fun i => w (H (p + i * z))) n + w (H (p + n * z)))
    rw [hi, sg_fw, if_pos (by omega), ih, Int.mul_add]
    omega
/-- what has been seen of heights -/
def snF (w h : Int → Int) : Nat → Int → Int
  | 0 => fun _ => 0
  | p + 1 => if 0 < w p then fset (snF w h p) (h p) 1 else snF w h p
theorem sn_iff {w h : Int → Int} {x : Int} : ∀ {p : Nat}, (snF w h p x = 1 ∧ ∃ q : Nat, q < p ∧ 0 < w q ∧ h q = x) ∨ (snF w h p x = 0 ∧ ¬ ∃ q : Nat, q < p ∧ 0 < w q ∧ h q = x)
  | 0 => Or.inr ⟨rfl, fun ⟨q, h, _⟩ => by omega⟩
  | p + 1 => by
    have ih := sn_iff (w := w) (h := h) (x := x) (p := p)
    unfold snF
    split
    · rename_i hw
      by_cases e : x = h p
      · rw [e, fset_s]; exact Or.inl ⟨rfl, p, by omega, hw, rfl⟩
      · rw [fset_n e]
        rcases ih with ⟨a, q, h1, h2, h3⟩ | ⟨a, b⟩
        · exact Or.inl ⟨a, q, by omega, h2, h3⟩
        · refine Or.inr ⟨a, fun ⟨q, h1, h2, h3⟩ => ?_⟩
          by_cases e2 : q = p
          · subst e2; exact e h3.symm
          · exact b ⟨q, by omega, h2, h3⟩
    · rename_i hw
      rcases ih with ⟨a, q, h1, h2, h3⟩ | ⟨a, b⟩
      · exact Or.inl ⟨a, q, by omega, h2, h3⟩
      · refine Or.inr ⟨a, fun ⟨q, h1, h2, h3⟩ => ?_⟩
        by_cases e2 : q = p
        · subst e2; exact hw h2
        · exact b ⟨q, by omega, h2, h3⟩
/-- first places of a height, one for each height that is there -/
theorem sn_sum {w h X : Int → Int} {N : Nat} (hh : ∀ p : Nat, p < N → 0 ≤ h p ∧ h p < N) (hm : ∀ i j : Nat, i ≤ j → j < N → h i ≤ h j) : ∀ {P : Nat}, P ≤ N → sg (fun p => if 0 < w p ∧ ¬ h p = bfF w h p.toNat then X (h p) else 0) P = sg (fun x => snF w h P x * X x) N
  | 0, _ => (sg_z (f := fun x => snF w h 0 x * X x) (fun j _ => Int.zero_mul _)).symm
  | P + 1, hP => by
    have ih := sn_sum (w := w) (X := X) hh hm (P := P) (by omega)
    have hb := bf_iff (w := w) (h := h) (p := P) (fun i j a b => hm i j a (by omega)) (hh P (by omega)).1
    show sg (fun p => if 0 < w p ∧ ¬ h p = bfF w h p.toNat then X (h p) else 0) P + (if 0 < w P ∧ ¬ h P = bfF w h (P : Int).toNat then X (h P) else 0) = sg (fun x => (if 0 < w P then fset (snF w h P) (h P) 1 else snF w h P) x * X x) N
    rw [ih, show (P : Int).toNat = P by omega]
    by_cases hw : 0 < w P
    · rw [if_pos hw]
      obtain ⟨i, hi⟩ : ∃ i : Nat, h P = i := ⟨(h P).toNat, by have := hh P (by omega); omega⟩
      have hi2 := hh P (by omega)
      rcases sn_iff (w := w) (h := h) (x := h P) (p := P) with ⟨a, b⟩ | ⟨a, b⟩
      · have e : fset (snF w h P) (h P) 1 = snF w h P := funext fun j => by
          unfold fset
          split
          · rename_i e; rw [e, a]
          · rfl
        rw [e, if_neg (fun z => z.2 (hb.mpr b))]; omega
      · have := sg_fw (g := snF w h P) (w := X) (x := 1) (i := i) (n := N)
        rw [← hi, a, if_pos (by omega)] at this
        have e3 : fset (snF w h P) (h P) (0 + 1) = fset (snF w h P) (h P) 1 := rfl
        rw [e3] at this
        rw [this, if_pos ⟨hw, fun z => b (hb.mp z)⟩]; omega
    · rw [if_neg hw, if_neg (fun z => hw z.1)]; omega
theorem sqP_phi {f w h H u : Int → Int} {z m c : Int} {N : Nat} (hz : 1 ≤ z) (hm : 0 ≤ m) (hN : (N : Int) = c + 1) (hH : ∀ q : Int, 0 ≤ q → q ≤ c → 0 ≤ H q ∧ H q ≤ c) : ∀ {P : Nat}, P ≤ N → sg (fun q => sqP f w h H z m c P q * u q) N = sg (fun p => if 0 < w p ∧ ¬ h p = bfF w h p.toNat then f (h p) * sg (fun i => u (H (p + i * z))) (arN z m (c - p)) else 0) P
  | 0, _ => sg_z (fun j _ => Int.zero_mul _)
  | P + 1, hP => by
    have ih := sqP_phi (f := f) (w := w) (h := h) (u := u) hz hm hN hH (P := P) (by omega)
    show sg (fun q => (if 0 < w P ∧ ¬ h P = bfF w h P then sqN (f (h P)) z P H (sqP f w h H z m c P) (arN z m (c - P)) else sqP f w h H z m c P) q * u q) N = sg (fun p => if 0 < w p ∧ ¬ h p = bfF w h p.toNat then f (h p) * sg (fun i => u (H (p + i * z))) (arN z m (c - p)) else 0) P + (if 0 < w P ∧ ¬ h P = bfF w h (P : Int).toNat then f (h P) * sg (fun i => u (H (P + i * z))) (arN z m (c - P)) else 0)
    rw [show (P : Int).toNat = P by omega, ← ih]
    by_cases hw : 0 < w P ∧ ¬ h P = bfF w h P
    · rw [if_pos hw, if_pos hw]
      refine sqN_phi (fun i hi => ?_)
      rw [arN_iff hz hm (by omega)] at hi
      have h1 : 0 ≤ (i : Int) * z := Int.mul_nonneg (by omega) (by omega)
      have := hH (P + i * z) (by omega) (by omega)
      omega
    · rw [if_neg hw, if_neg hw]; omega
theorem sqN_ne {x z p : Int} {H g : Int → Int} {q : Int} : ∀ {n : Nat}, sqN x z p H g n q ≠ 0 → g q ≠ 0 ∨ ∃ i : Nat, i < n ∧ H (p + i * z) = q
  | 0, h => Or.inl h
  | n + 1, h => by
    by_cases e : q = H (p + n * z)
    · exact Or.inr ⟨n, by omega, e.symm⟩
    · have h' : fset (sqN x z p H g n) (H (p + n * z)) (sqN x z p H g n (H (p + n * z)) + x) q ≠ 0 := h
      rw [fset_n e] at h'
      rcases sqN_ne h' with a | ⟨i, h1, h2⟩
      · exact Or.inl a
      · exact Or.inr ⟨i, by omega, h2⟩
theorem sqP_ne {f w h H : Int → Int} {z m c : Int} {q : Int} : ∀ {P : Nat}, sqP f w h H z m c P q ≠ 0 → ∃ p i : Nat, p < P ∧ 0 < w p ∧ i < arN z m (c - p) ∧ H (p + i * z) = q
  | 0, h => (h rfl).elim
  | P + 1, hne => by
    unfold sqP at hne
    split at hne
    · rename_i hw
      rcases sqN_ne hne with a | ⟨i, h1, h2⟩
      · obtain ⟨p, i, b1, b2, b3, b4⟩ := sqP_ne a
        exact ⟨p, i, by omega, b2, b3, b4⟩
      · exact ⟨P, i, by omega, hw.1, h1, h2⟩
    · obtain ⟨p, i, b1, b2, b3, b4⟩ := sqP_ne hne
      exact ⟨p, i, by omega, b2, b3, b4⟩
theorem sqL_phi {c : Int} {NZ : zL} {N : Nat} (hz : zOK NZ) (hN : (N : Int) = c + 1) (hc : 0 ≤ c) : ∀ {l : Nat}, l ≤ NZ.length → sg (fun q => sqL c NZ l q * cn (NZ.drop l) (c - q)) N = cn NZ c ∧ ∀ x : Int, sqL c NZ l x ≠ 0 → ∃ q : Nat, q < N ∧ 0 < wyF c NZ l q ∧ hiF c NZ l q = x
  | 0, _ => by
    have hb := hiF_bd (c := c) hz (l := 0) (p := 0) (by omega) hc
    obtain ⟨i, hi⟩ : ∃ i : Nat, hiF c NZ 0 0 = i := ⟨(hiF c NZ 0 0).toNat, by omega⟩
    constructor
    · have := sg_fw (g := fun _ => 0) (w := fun q => cn NZ (c - q)) (x := 1) (i := i) (n := N)
      rw [if_pos (by omega)] at this
      have e0 : sg (fun q => (fun _ => 0) q * cn NZ (c - q)) N = 0 := sg_z (fun j _ => Int.zero_mul _)
      rw [e0] at this
      have e1 : sqL c NZ 0 = fset (fun _ => 0) i 1 := by show fset (fun _ => 0) (hiF c NZ 0 0) 1 = _; rw [hi]
      rw [e1]
      refine Eq.trans this ?_
      have e2 := cn_hi (c := c) hz (l := 0) (p := 0) hc
      rw [hi] at e2
      show 0 + 1 * cn NZ (c - (i : Int)) = cn NZ c
      have e3 : cn NZ (c - (i : Int)) = cn NZ (c - 0) := e2
      rw [e3, show c - 0 = c by omega]; omega
    · intro x hx
      refine ⟨0, by omega, by show 0 < fset (fun _ => 0) 0 1 ((0 : Nat) : Int); exact (show (0 : Int) < 1 by decide), ?_⟩
      have hx' : fset (fun _ => 0) (hiF c NZ 0 0) 1 x ≠ 0 := hx
      by_cases e : x = hiF c NZ 0 0
      · exact e.symm
      · rw [fset_n e] at hx'; exact (hx' rfl).elim
  | l + 1, h => by
    have hd := drop_cons (L := NZ) (l := l) (by omega)
    have hzd := hz.d (l := l)
    rw [hd] at hzd
    obtain ⟨ih, ihs⟩ := sqL_phi (l := l) hz hN hc (by omega)
    constructor
    · rw [← ih]
      show sg (fun q => sqP (sqL c NZ l) (wyF c NZ l) (hiF c NZ l) (hiF c NZ (l + 1)) (NZ.getD l (1, 0)).1 (NZ.getD l (1, 0)).2 c (c.toNat + 1) q * cn (NZ.drop (l + 1)) (c - q)) N = _
      rw [show c.toNat + 1 = N by omega, sqP_phi (u := fun q => cn (NZ.drop (l + 1)) (c - q)) hzd.h.1 hzd.h.2 hN (fun q h1 h2 => by have := hiF_bd (c := c) hz (l := l + 1) h1 h2; omega) (Nat.le_refl _)]
      have e1 := sn_sum (w := wyF c NZ l) (h := hiF c NZ l) (X := fun x => sqL c NZ l x * cn (NZ.drop l) (c - x)) (N := N) (fun p hp => by have := hiF_bd (c := c) hz (l := l) (p := p) (by omega) (by omega); omega) (fun i j h1 h2 => hiF_mono hz (by omega) (by omega)) (Nat.le_refl _)
      refine Eq.trans (sg_congr (fun p hp => ?_)) (e1.trans (sg_congr (fun x hx => ?_)))
      · show (if 0 < wyF c NZ l p ∧ ¬ hiF c NZ l p = bfF (wyF c NZ l) (hiF c NZ l) (p : Int).toNat then _ else _) = (if 0 < wyF c NZ l p ∧ ¬ hiF c NZ l p = bfF (wyF c NZ l) (hiF c NZ l) (p : Int).toNat then _ else _)
        split
        · rw [cn_hi hz (by omega), hd, cn_cons]
          congr 1
          refine sg_congr (fun i hi => ?_)
          rw [arN_iff hzd.h.1 hzd.h.2 (by omega)] at hi
          show cn (NZ.drop (l + 1)) (c - hiF c NZ (l + 1) (p + i * _)) = cn (NZ.drop (l + 1)) (c - p - i * _)
          rw [cn_hi hz (by omega)]
          congr 1; omega
        · rfl
      · show snF (wyF c NZ l) (hiF c NZ l) N x * (sqL c NZ l x * cn (NZ.drop l) (c - x)) = sqL c NZ l x * cn (NZ.drop l) (c - x)
        rcases sn_iff (w := wyF c NZ l) (h := hiF c NZ l) (x := x) (p := N) with ⟨a, b⟩ | ⟨a, b⟩
        · rw [a, Int.one_mul]
        · have : sqL c NZ l x = 0 := by
            by_cases e : sqL c NZ l x = 0
            · exact e
            · exact (b (ihs x e)).elim
          rw [this, Int.zero_mul, Int.mul_zero]
    · intro x hx
      obtain ⟨p, i, h1, h2, h3, h4⟩ := sqP_ne hx
      have h5 := wyF_hit (c := c) (L := NZ) (l := l) (p := p) (i := i) (by omega) h3
      have h6 := (arN_iff hzd.h.1 hzd.h.2 (f := c - p) (by omega) (n := i)).mp h3
      have h7 : 0 ≤ (i : Int) * (NZ.getD l (1, 0)).1 := Int.mul_nonneg (by omega) (by have := hzd.h.1; omega)
      obtain ⟨q, hq⟩ : ∃ q : Nat, (p : Int) + i * (NZ.getD l (1, 0)).1 = q := ⟨((p : Int) + i * (NZ.getD l (1, 0)).1).toNat, by omega⟩
      rw [hq] at h4 h5
      exact ⟨q, by omega, by omega, h4⟩
theorem sqL_bd {c : Int} {NZ : zL} (hz : zOK NZ) (hc : 0 ≤ c) {l : Nat} (hl : l ≤ NZ.length) (x : Int) : 0 ≤ sqL c NZ l x ∧ sqL c NZ l x ≤ cn NZ c := by
  refine ⟨sqL_nn l x, ?_⟩
  obtain ⟨N, hN⟩ : ∃ N : Nat, (N : Int) = c + 1 := ⟨(c + 1).toNat, by omega⟩
  obtain ⟨h1, hs⟩ := sqL_phi hz hN hc hl
  by_cases e : sqL c NZ l x = 0
  · rw [e]; have := cn_pos hz hc; omega
  · obtain ⟨q, a1, a2, a3⟩ := hs x e
    have hb := hiF_bd (c := c) hz (l := l) (p := q) (by omega) (by omega)
    obtain ⟨i, hi⟩ : ∃ i : Nat, x = i := ⟨x.toNat, by omega⟩
    subst hi
    have h2 := sg_term (f := fun q => sqL c NZ l q * cn (NZ.drop l) (c - q)) (n := N) (fun j hj => Int.mul_nonneg (sqL_nn l _) (by have := cn_pos (l := NZ.drop l) (f := c - j) hz.d (by omega); omega)) i (by omega)
    have h3 := cn_pos (l := NZ.drop l) (f := c - i) hz.d (by omega)
    have h4 : sqL c NZ l i * 1 ≤ sqL c NZ l i * cn (NZ.drop l) (c - i) := Int.mul_le_mul_of_nonneg_left h3 (sqL_nn l _)
    have h5 : sqL c NZ l i * cn (NZ.drop l) (c - i) ≤ sg (fun q => sqL c NZ l q * cn (NZ.drop l) (c - q)) N := h2
    omega
theorem sq_paths {c : Int} {NZ : zL} {N : Nat} (hz : zOK NZ) (hc : 0 ≤ c) (hN : (N : Int) = c + 1) : sg (sqL c NZ NZ.length) N = cn NZ c := by
  have h1 := (sqL_phi hz hN hc (l := NZ.length) (Nat.le_refl _)).1
  rw [← h1]
  refine sg_congr (fun j hj => ?_)
  rw [List.drop_eq_nil_of_le (Nat.le_refl _)]
  show _ = _ * 1
  omega
/-- while a layer is gone along -/
theorem sqN_bd {c : Int} {NZ : zL} (hz : zOK NZ) (hc : 0 ≤ c) {l : Nat} (hl : l < NZ.length) {p n : Nat} (hp : (p : Int) ≤ c) (hw : 0 < wyF c NZ l p ∧ ¬ hiF c NZ l p = bfF (wyF c NZ l) (hiF c NZ l) p) (hn : n ≤ arN (NZ.getD l (1, 0)).1 (NZ.getD l (1, 0)).2 (c - p)) (q : Int) : 0 ≤ sqN (sqL c NZ l (hiF c NZ l p)) (NZ.getD l (1, 0)).1 p (hiF c NZ (l + 1)) (sqP (sqL c NZ l) (wyF c NZ l) (hiF c NZ l) (hiF c NZ (l + 1)) (NZ.getD l (1, 0)).1 (NZ.getD l (1, 0)).2 c p) n q ∧ sqN (sqL c NZ l (hiF c NZ l p)) (NZ.getD l (1, 0)).1 p (hiF c NZ (l + 1)) (sqP (sqL c NZ l) (wyF c NZ l) (hiF c NZ l) (hiF c NZ (l + 1)) (NZ.getD l (1, 0)).1 (NZ.getD l (1, 0)).2 c p) n q ≤ cn NZ c := by
  refine ⟨sqN_nn (sqL_nn l _) (sqP_nn (sqL_nn l) _) n q, ?_⟩
  have h1 := sqN_le (x := sqL c NZ l (hiF c NZ l p)) (z := (NZ.getD l (1, 0)).1) (p := p) (H := hiF c NZ (l + 1)) (g := sqP (sqL c NZ l) (wyF c NZ l) (hiF c NZ l) (hiF c NZ (l + 1)) (NZ.getD l (1, 0)).1 (NZ.getD l (1, 0)).2 c p) (sqL_nn l _) hn q
  have h2 := sqP_le (f := sqL c NZ l) (w := wyF c NZ l) (h := hiF c NZ l) (H := hiF c NZ (l + 1)) (z := (NZ.getD l (1, 0)).1) (m := (NZ.getD l (1, 0)).2) (c := c) (sqL_nn l) (P := p + 1) (P' := c.toNat + 1) (by omega) q
  have h3 := (sqL_bd hz hc (l := l + 1) (by omega) q).2
  have e : sqP (sqL c NZ l) (wyF c NZ l) (hiF c NZ l) (hiF c NZ (l + 1)) (NZ.getD l (1, 0)).1 (NZ.getD l (1, 0)).2 c (p + 1) = sqN (sqL c NZ l (hiF c NZ l p)) (NZ.getD l (1, 0)).1 p (hiF c NZ (l + 1)) (sqP (sqL c NZ l) (wyF c NZ l) (hiF c NZ l) (hiF c NZ (l + 1)) (NZ.getD l (1, 0)).1 (NZ.getD l (1, 0)).2 c p) (arN (NZ.getD l (1, 0)).1 (NZ.getD l (1, 0)).2 (c - p)) := if_pos hw
  rw [e] at h2
  exact Int.le_trans h1 (Int.le_trans h2 h3)
