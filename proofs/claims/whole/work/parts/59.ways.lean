/-! the net, pure: ways to each place -/
def scN (x z p : Int) (g : Int → Int) : Nat → Int → Int
  | 0 => g
  | n + 1 => fset (scN x z p g n) (p + n * z) (scN x z p g n (p + n * z) + x)
def scP (f : Int → Int) (z m c : Int) : Nat → Int → Int
  | 0 => fun _ => 0
  | p + 1 => scN (f p) z p (scP f z m c p) (arN z m (c - p))
def wyF (c : Int) (L : zL) : Nat → Int → Int
  | 0 => fset (fun _ => 0) 0 1
  | l + 1 => scP (wyF c L l) (L.getD l (1, 0)).1 (L.getD l (1, 0)).2 c (c.toNat + 1)
theorem fset_id {g : Int → Int} {i : Int} : fset g i (g i + 0) = g := funext fun j => by
  unfold fset
  split
  · rename_i h; rw [h]; omega
  · rfl
theorem scN_0 {z p : Int} {g : Int → Int} : ∀ n : Nat, scN 0 z p g n = g
  | 0 => rfl
  | n + 1 => by
    show fset (scN 0 z p g n) (p + n * z) (scN 0 z p g n (p + n * z) + 0) = g
    rw [scN_0 n, fset_id]
theorem scN_nn {x z p : Int} {g : Int → Int} (hx : 0 ≤ x) (hg : ∀ q, 0 ≤ g q) : ∀ (n : Nat) (q : Int), 0 ≤ scN x z p g n q
  | 0, q => hg q
  | n + 1, q => by
    show 0 ≤ fset (scN x z p g n) (p + n * z) (scN x z p g n (p + n * z) + x) q
    have := scN_nn (z := z) (p := p) hx hg n
    unfold fset
    split
    · have := this (p + n * z); omega
    · exact this q
theorem scP_nn {f : Int → Int} {z m c : Int} (hf : ∀ q, 0 ≤ f q) : ∀ (p : Nat) (q : Int), 0 ≤ scP f z m c p q
  | 0, _ => Int.le_refl _
  | p + 1, q => scN_nn (hf p) (scP_nn hf p) _ q
theorem wyF_nn {c : Int} {L : zL} : ∀ (l : Nat) (q : Int), 0 ≤ wyF c L l q
  | 0, q => by
    show 0 ≤ fset (fun _ => 0) 0 1 q
    unfold fset
    split
    · decide
    · exact Int.le_refl _
  | l + 1, q => scP_nn (wyF_nn l) _ q
theorem scN_le {x z p : Int} {g : Int → Int} (hx : 0 ≤ x) : ∀ (n : Nat) (q : Int), g q ≤ scN x z p g n q
  | 0, q => Int.le_refl _
  | n + 1, q => by
    show g q ≤ fset (scN x z p g n) (p + n * z) (scN x z p g n (p + n * z) + x) q
    have := scN_le (z := z) (p := p) (g := g) hx n q
    unfold fset
    split
    · rename_i e; rw [← e]; omega
    · exact this
theorem scN_hit {x z p : Int} {g : Int → Int} (hx : 0 ≤ x) (hg : ∀ q, 0 ≤ g q) : ∀ {n : Nat} (i : Nat), i < n → x ≤ scN x z p g n (p + i * z)
  | 0, i, h => by omega
  | n + 1, i, h => by
    show x ≤ fset (scN x z p g n) (p + n * z) (scN x z p g n (p + n * z) + x) (p + i * z)
    by_cases e : p + (i : Int) * z = p + n * z
    · rw [e, fset_s]
      have := scN_nn (z := z) (p := p) hx hg n (p + n * z)
      omega
    · rw [fset_n e]
      refine scN_hit hx hg i ?_
      by_cases e2 : i = n
      · subst e2; exact (e rfl).elim
      · omega
theorem scP_hit {f : Int → Int} {z m c : Int} (hf : ∀ q, 0 ≤ f q) {i : Nat} : ∀ {P p : Nat}, p < P → i < arN z m (c - p) → f p ≤ scP f z m c P (p + i * z)
  | 0, _, h, _ => by omega
  | P + 1, p, h, hi => by
    show f p ≤ scN (f P) z P (scP f z m c P) (arN z m (c - P)) (p + i * z)
    by_cases e : p = P
    · subst e
      exact scN_hit (hf _) (scP_nn hf _) i hi
    · exact Int.le_trans (scP_hit hf (P := P) (by omega) hi) (scN_le (hf _) _ _)
theorem wyF_hit {c : Int} {L : zL} {l p i : Nat} (hp : (p : Int) ≤ c) (hi : i < arN (L.getD l (1, 0)).1 (L.getD l (1, 0)).2 (c - p)) : wyF c L l p ≤ wyF c L (l + 1) (p + i * (L.getD l (1, 0)).1) := scP_hit (wyF_nn l) (by omega) hi
theorem scN_out {x z p : Int} {g : Int → Int} {q : Int} : ∀ {n : Nat}, (∀ i : Nat, i < n → p + i * z ≠ q) → scN x z p g n q = g q
  | 0, _ => rfl
  | n + 1, h => by
    show fset (scN x z p g n) (p + n * z) (scN x z p g n (p + n * z) + x) q = g q
    rw [fset_n (fun e => h n (by omega) e.symm)]
    exact scN_out (fun i hi => h i (by omega))
theorem scP_out {f : Int → Int} {z m c q : Int} (hz : 1 ≤ z) (hm : 0 ≤ m) (hq : c < q ∨ q < 0) : ∀ {P : Nat}, (P : Int) ≤ c + 1 → scP f z m c P q = 0
  | 0, _ => rfl
  | P + 1, h => by
    show scN (f P) z P (scP f z m c P) (arN z m (c - P)) q = 0
    rw [scN_out (fun i hi => ?_)]
    · exact scP_out hz hm hq (by omega)
    · rw [arN_iff hz hm (by omega)] at hi
      have : 0 ≤ (i : Int) * z := Int.mul_nonneg (by omega) (by omega)
      omega
theorem wyF_out {c q : Int} {L : zL} (hL : zOK L) (hc : 0 ≤ c) (hq : c < q ∨ q < 0) : ∀ {l : Nat}, l ≤ L.length → wyF c L l q = 0
  | 0, _ => by show fset (fun _ => 0) 0 1 q = 0; rw [fset_n (by omega)]
  | l + 1, h => by
    have hx : L.getD l (1, 0) ∈ L := by
      rw [List.getD_eq_getElem?_getD, List.getElem?_eq_getElem (by omega)]
      exact List.getElem_mem _
    have := hL _ hx
    exact scP_out this.1 this.2 hq (by omega)
theorem sg_fw {g w : Int → Int} {x : Int} {i : Nat} : ∀ {n : Nat}, sg (fun q => fset g i (g i + x) q * w q) n = sg (fun q => g q * w q) n + if i < n then x * w i else 0
  | 0 => by simp [sg]
  | n + 1 => by
    have ih := sg_fw (g := g) (w := w) (x := x) (i := i) (n := n)
    show sg (fun q => fset g i (g i + x) q * w q) n + fset g i (g i + x) n * w n = sg (fun q => g q * w q) n + g n * w n + _
    rw [ih]
    by_cases h : i = n
    · subst h
      rw [fset_s, if_neg (by omega), if_pos (by omega), Int.add_mul]; omega
    · rw [fset_n (by omega)]
      by_cases h2 : i < n
      · rw [if_pos h2, if_pos (by omega)]; omega
      · rw [if_neg h2, if_neg (by omega)]; omega
theorem sg_z {f : Int → Int} : ∀ {n : Nat}, (∀ j : Nat, j < n → f j = 0) → sg f n = 0
  | 0, _ => rfl
  | n + 1, h => by
    show sg f n + f n = 0
    rw [sg_z (fun j hj => h j (by omega)), h n (by omega)]; rfl
theorem scN_phi {x z p : Int} {g w : Int → Int} {N : Nat} : ∀ {n : Nat}, (∀ i : Nat, i < n → 0 ≤ p + i * z ∧ p + i * z < N) → sg (fun q => scN x z p g n q * w q) N = sg (fun q => g q * w q) N + x * sg (fun i => w (p + i * z)) n
  | 0, _ => by show sg (fun q => g q * w q) N = _ + x * 0; omega
  | n + 1, h => by
    have ih := scN_phi (x := x) (g := g) (w := w) (n := n) (fun i hi => h i (by omega))
    have hn := h n (by omega)
    obtain ⟨i, hi⟩ : ∃ i : Nat, p + (n : Int) * z = i := ⟨(p + (n : Int) * z).toNat, by omega⟩
    show sg (fun q => fset (scN x z p g n) (p + n * z) (scN x z p g n (p + n * z) + x) q * w q) N = _ + x * (sg (fun i => w (p + i * z)) n + w (p + n * z))
    rw [hi, sg_fw, if_pos (by omega), ih, Int.mul_add]
    omega
/-- what all ways weigh, place by place -/
theorem scP_phi {f w : Int → Int} {z m c : Int} {N : Nat} (hz : 1 ≤ z) (hm : 0 ≤ m) (hN : (N : Int) = c + 1) : ∀ {P : Nat}, P ≤ N → sg (fun q => scP f z m c P q * w q) N = sg (fun p => f p * sg (fun i => w (p + i * z)) (arN z m (c - p))) P
  | 0, _ => by
    show sg (fun q => 0 * w q) N = 0
    exact sg_z (fun j _ => Int.zero_mul _)
  | P + 1, h => by
    show sg (fun q => scN (f P) z P (scP f z m c P) (arN z m (c - P)) q * w q) N = sg (fun p => f p * sg (fun i => w (p + i * z)) (arN z m (c - p))) P + f P * sg (fun i => w (P + i * z)) (arN z m (c - P))
    rw [scN_phi (fun i hi => ?_), scP_phi hz hm hN (by omega)]
    rw [arN_iff hz hm (by omega)] at hi
    have : 0 ≤ (i : Int) * z := Int.mul_nonneg (by omega) (by omega)
    omega
theorem drop_cons {L : zL} {l : Nat} (h : l < L.length) : L.drop l = L.getD l (1, 0) :: L.drop (l + 1) := by
  rw [List.drop_eq_getElem_cons h, List.getD_eq_getElem?_getD, List.getElem?_eq_getElem h]; rfl
theorem zOK.d {L : zL} (h : zOK L) {l : Nat} : zOK (L.drop l) := fun x hx => h x (List.mem_of_mem_drop hx)
/-- at each layer: ways to a place times ways on from it, all together, are the paths -/
theorem wyF_phi {c : Int} {L : zL} {N : Nat} (hL : zOK L) (hN : (N : Int) = c + 1) (hc : 0 ≤ c) : ∀ {l : Nat}, l ≤ L.length → sg (fun q => wyF c L l q * cn (L.drop l) (c - q)) N = cn L c
  | 0, _ => by
    have := sg_fw (g := fun _ => 0) (w := fun q => cn L (c - q)) (x := 1) (i := 0) (n := N)
    rw [if_pos (by omega)] at this
    have e0 : sg (fun q => (fun _ => 0) q * cn L (c - q)) N = 0 := by
      exact sg_z (fun j _ => Int.zero_mul _)
    rw [e0] at this
    refine Eq.trans this ?_
    show 0 + 1 * cn L (c - ((0 : Nat) : Int)) = cn L c
    rw [show c - ((0 : Nat) : Int) = c by omega]; omega
  | l + 1, h => by
    have hd := drop_cons (L := L) (l := l) (by omega)
    have hz := hL.d (l := l)
    rw [hd] at hz
    have ih := wyF_phi (l := l) hL hN hc (by omega)
    rw [← ih]
    show sg (fun q => scP (wyF c L l) (L.getD l (1, 0)).1 (L.getD l (1, 0)).2 c (c.toNat + 1) q * cn (L.drop (l + 1)) (c - q)) N = _
    rw [show c.toNat + 1 = N by omega, scP_phi (w := fun q => cn (L.drop (l + 1)) (c - q)) hz.h.1 hz.h.2 hN (Nat.le_refl _)]
    refine sg_congr (fun p hp => ?_)
    show _ = wyF c L l p * cn (L.drop l) (c - p)
    rw [hd, cn_cons]
    congr 1
    exact sg_congr (fun n _ => by show cn _ (c - (p + n * _)) = cn _ (c - p - n * _); congr 1; omega)
theorem wyF_bd {c : Int} {L : zL} (hL : zOK L) (hc : 0 ≤ c) {l : Nat} (hl : l ≤ L.length) (q : Int) : 0 ≤ wyF c L l q ∧ wyF c L l q ≤ cn L c := by
  refine ⟨wyF_nn l q, ?_⟩
  by_cases hq : c < q ∨ q < 0
  · rw [wyF_out hL hc hq hl]
    have := cn_pos hL hc; omega
  · obtain ⟨N, hN⟩ : ∃ N : Nat, (N : Int) = c + 1 := ⟨(c + 1).toNat, by omega⟩
    obtain ⟨i, hi⟩ : ∃ i : Nat, q = i := ⟨q.toNat, by omega⟩
    subst hi
    have h1 := wyF_phi hL hN hc hl
    have h2 := sg_term (f := fun q => wyF c L l q * cn (L.drop l) (c - q)) (n := N) (fun j hj => Int.mul_nonneg (wyF_nn l _) (by have := cn_pos (l := L.drop l) (f := c - j) hL.d (by omega); omega)) i (by omega)
    have h3 := cn_pos (l := L.drop l) (f := c - i) hL.d (by omega)
    have h4 : wyF c L l i * 1 ≤ wyF c L l i * cn (L.drop l) (c - i) := Int.mul_le_mul_of_nonneg_left h3 (wyF_nn l _)
    have h5 : wyF c L l i * cn (L.drop l) (c - i) ≤ sg (fun q => wyF c L l q * cn (L.drop l) (c - q)) N := h2
    omega
/-- while a layer's arcs are gone along -/
theorem scN_bd {c : Int} {L : zL} (hL : zOK L) (hc : 0 ≤ c) {l : Nat} (hl : l < L.length) {p n : Nat} (hp : (p : Int) ≤ c) (hn : n ≤ arN (L.getD l (1, 0)).1 (L.getD l (1, 0)).2 (c - p)) (q : Int) : 0 ≤ scN (wyF c L l p) (L.getD l (1, 0)).1 p (scP (wyF c L l) (L.getD l (1, 0)).1 (L.getD l (1, 0)).2 c p) n q ∧ scN (wyF c L l p) (L.getD l (1, 0)).1 p (scP (wyF c L l) (L.getD l (1, 0)).1 (L.getD l (1, 0)).2 c p) n q ≤ cn L c := by
  refine ⟨scN_nn (wyF_nn l _) (scP_nn (wyF_nn l) _) n q, ?_⟩
  have h1 : ∀ {n N : Nat}, n ≤ N → scN (wyF c L l p) (L.getD l (1, 0)).1 p (scP (wyF c L l) (L.getD l (1, 0)).1 (L.getD l (1, 0)).2 c p) n q ≤ scN (wyF c L l p) (L.getD l (1, 0)).1 p (scP (wyF c L l) (L.getD l (1, 0)).1 (L.getD l (1, 0)).2 c p) N q := by
    intro n N h
    induction N with
    | zero => rw [show n = 0 by omega]; exact Int.le_refl _
    | succ N ih =>
      by_cases e : n = N + 1
      · rw [e]; exact Int.le_refl _
      · refine Int.le_trans (ih (by omega)) ?_
        show _ ≤ fset (scN (wyF c L l p) (L.getD l (1, 0)).1 p (scP (wyF c L l) (L.getD l (1, 0)).1 (L.getD l (1, 0)).2 c p) N) _ _ q
        unfold fset
        split
        · rename_i e; rw [← e]; have := wyF_nn (c := c) (L := L) l p; omega
        · exact Int.le_refl _
  have h2 : ∀ {P P' : Nat}, P ≤ P' → scP (wyF c L l) (L.getD l (1, 0)).1 (L.getD l (1, 0)).2 c P q ≤ scP (wyF c L l) (L.getD l (1, 0)).1 (L.getD l (1, 0)).2 c P' q := by
    intro P P' h
    induction P' with
    | zero => rw [show P = 0 by omega]; exact Int.le_refl _
    | succ P' ih =>
      by_cases e : P = P' + 1
      · rw [e]; exact Int.le_refl _
      · exact Int.le_trans (ih (by omega)) (scN_le (wyF_nn l _) _ _)
  have h3 := h2 (P := p + 1) (P' := c.toNat + 1) (by omega)
  have h4 := (wyF_bd hL hc (l := l + 1) (by omega) q).2
  exact Int.le_trans (h1 hn) (Int.le_trans h3 h4)
