/-! the text of goods, as both read it -/
def rn (P : Int → Bool) : Nat → Int → Int
  | 0, p => p
  | r + 1, p => if P p then rn P r (p + 1) else p
def ro (P : Int → Bool) (n p : Int) : Int := rn P (n - p).toNat p
theorem ro_end {P : Int → Bool} {n p : Int} (h : n ≤ p) : ro P n p = p := by
  unfold ro; rw [show (n - p).toNat = 0 by omega]; rfl
theorem ro_no {P : Int → Bool} {n p : Int} (h : P p = false) : ro P n p = p := by
  unfold ro
  cases (n - p).toNat with
  | zero => rfl
  | succ r =>
    show (if P p then _ else p) = p
    rw [h]; rfl
theorem ro_go {P : Int → Bool} {n p : Int} (h : p < n) (hp : P p = true) : ro P n p = ro P n (p + 1) := by
  unfold ro
  rw [show (n - p).toNat = (n - (p + 1)).toNat + 1 by omega]
  show (if P p then _ else p) = _
  rw [hp]; rfl
theorem rn_b {P : Int → Bool} : ∀ (r : Nat) (p : Int), p ≤ rn P r p ∧ rn P r p ≤ p + r
  | 0, p => ⟨Int.le_refl _, by show p ≤ p + _; omega⟩
  | r + 1, p => by
    have h := rn_b (P := P) r (p + 1)
    show p ≤ (if P p then rn P r (p + 1) else p) ∧ (if P p then rn P r (p + 1) else p) ≤ p + _
    split <;> omega
theorem ro_b {P : Int → Bool} {n p : Int} (h : p ≤ n) : p ≤ ro P n p ∧ ro P n p ≤ n := by
  have := rn_b (P := P) (n - p).toNat p
  unfold ro; omega
def bl (T : Int → Int) (i : Int) : Bool := decide (T i = 32 ∨ T i = 10)
def ltr (T : Int → Int) (i : Int) : Bool := decide (97 ≤ T i ∧ T i ≤ 122)
def dg (T : Int → Int) (i : Int) : Bool := decide (48 ≤ T i ∧ T i ≤ 57)
theorem bl_t {T : Int → Int} {i : Int} : bl T i = true ↔ (T i = 32 ∨ T i = 10) := decide_eq_true_iff
theorem ltr_t {T : Int → Int} {i : Int} : ltr T i = true ↔ (97 ≤ T i ∧ T i ≤ 122) := decide_eq_true_iff
theorem dg_t {T : Int → Int} {i : Int} : dg T i = true ↔ (48 ≤ T i ∧ T i ≤ 57) := decide_eq_true_iff
theorem bl_f {T : Int → Int} {i : Int} : bl T i = false ↔ ¬ (T i = 32 ∨ T i = 10) := decide_eq_false_iff_not
theorem ltr_f {T : Int → Int} {i : Int} : ltr T i = false ↔ ¬ (97 ≤ T i ∧ T i ≤ 122) := decide_eq_false_iff_not
theorem dg_f {T : Int → Int} {i : Int} : dg T i = false ↔ ¬ (48 ≤ T i ∧ T i ≤ 57) := decide_eq_false_iff_not
/-- the number that j digits from q on are -/
def nmF (T : Int → Int) (q : Int) : Nat → Int
  | 0 => 0
  | j + 1 => 10 * nmF T q j + T (q + j) - 48
/-- a token: kind, end, number, word -/
def tT (T : Int → Int) (n q : Int) : Int := if n ≤ q then 0 else if ltr T q then 1 else if dg T q then 2 else if T q = 59 then 3 else 4
def eT (T : Int → Int) (n q : Int) : Int := if n ≤ q then q else if ltr T q then ro (ltr T) n q else if dg T q then ro (dg T) n q else q + 1
def vT (T : Int → Int) (q e : Int) : Int := if e - q ≤ 3 then nmF T q (e - q).toNat else 9999
def isW (T : Int → Int) (w : Nat) (q e : Int) : Bool := decide (e - q = sLen w) && (List.range (sLen w).toNat).all (fun j => decide (T (q + (j : Nat)) = (sByt w j).toInt))
theorem isW_t {T : Int → Int} {w : Nat} {q e : Int} : isW T w q e = true ↔ (e - q = sLen w ∧ ∀ j : Nat, (j : Int) < sLen w → T (q + j) = (sByt w j).toInt) := by
  unfold isW
  rw [Bool.and_eq_true, decide_eq_true_iff, List.all_eq_true]
  refine and_congr_right (fun _ => ⟨fun h j hj => ?_, fun h j hj => ?_⟩)
  · exact decide_eq_true_iff.mp (h j (List.mem_range.mpr (by omega)))
  · exact decide_eq_true_iff.mpr (h j (by have := List.mem_range.mp hj; omega))
def wT (T : Int → Int) (q e : Int) : Int := if isW T 0 q e then 0 else if isW T 1 q e then 1 else if isW T 2 q e then 2 else -1
theorem isW_no {T : Int → Int} {w : Nat} {q e : Int} (hw : w < 3) (h : ltr T q = false) : isW T w q e = false := by
  rw [Bool.eq_false_iff]
  intro z
  have h2 := (isW_t.mp z).2 0
  rw [show q + ((0 : Nat) : Int) = q by omega] at h2
  have h3 := ltr_f.mp h
  rcases (by omega : w = 0 ∨ w = 1 ∨ w = 2) with e | e | e <;> subst e
  · have : T q = 99 := h2 (by decide)
    omega
  · have : T q = 115 := h2 (by decide)
    omega
  · have : T q = 98 := h2 (by decide)
    omega
theorem wT_no {T : Int → Int} {q e : Int} (h : ltr T q = false) : wT T q e = -1 := by
  unfold wT
  rw [isW_no (by decide) h, isW_no (by decide) h, isW_no (by decide) h]; rfl
theorem eT_b {T : Int → Int} {n q : Int} (h : q < n) : q < eT T n q ∧ eT T n q ≤ n := by
  unfold eT
  rw [if_neg (by omega)]
  split
  · rename_i z; rw [ro_go h z]; have := ro_b (P := ltr T) (show q + 1 ≤ n by omega); omega
  · split
    · rename_i z; rw [ro_go h z]; have := ro_b (P := dg T) (show q + 1 ≤ n by omega); omega
    · omega
theorem nmF_b {T : Int → Int} {q : Int} (j : Nat) (hj : j ≤ 3) (h : ∀ i : Nat, i < j → 48 ≤ T (q + i) ∧ T (q + i) ≤ 57) : 0 ≤ nmF T q j ∧ nmF T q j ≤ 999 := by
  rcases (by omega : j = 0 ∨ j = 1 ∨ j = 2 ∨ j = 3) with e | e | e | e <;> subst e
  · exact ⟨Int.le_refl _, by show (0 : Int) ≤ 999; decide⟩
  · have h0 := h 0 (by omega)
    simp only [nmF]
    omega
  · have h0 := h 0 (by omega)
    have h1 := h 1 (by omega)
    simp only [nmF]
    omega
  · have h0 := h 0 (by omega)
    have h1 := h 1 (by omega)
    have h2 := h 2 (by omega)
    simp only [nmF]
    omega
theorem rn_in {P : Int → Bool} : ∀ (r : Nat) (p i : Int), p ≤ i → i < rn P r p → P i = true
  | 0, p, i, h1, h2 => by
    have : i < p := h2
    omega
  | r + 1, p, i, h1, h2 => by
    have h3 : i < (if P p then rn P r (p + 1) else p) := h2
    by_cases e : P p = true
    · rw [if_pos e] at h3
      by_cases e2 : i = p
      · rw [e2]; exact e
      · exact rn_in r (p + 1) i (by omega) h3
    · rw [if_neg e] at h3; omega
theorem ro_in {P : Int → Bool} {n p i : Int} (h1 : p ≤ i) (h2 : i < ro P n p) : P i = true := rn_in _ p i h1 h2
theorem eT_d {T : Int → Int} {n q : Int} (h : q < n) (hd : dg T q = true) : eT T n q = ro (dg T) n q := by
  have : ltr T q = false := ltr_f.mpr (by have := dg_t.mp hd; omega)
  unfold eT
  rw [if_neg (by omega), this, hd]; rfl
theorem vT_b {T : Int → Int} {n q : Int} (h : q < n) (hd : dg T q = true) : 0 ≤ vT T q (eT T n q) ∧ vT T q (eT T n q) ≤ 9999 := by
  have hb := eT_b (T := T) h
  unfold vT
  split
  · have := nmF_b (T := T) (q := q) (eT T n q - q).toNat (by omega) (fun i hi => dg_t.mp (ro_in (n := n) (p := q) (by omega) (by rw [← eT_d h hd]; omega)))
    omega
  · omega
/-! what a token does -/
abbrev Rs := Int × Int × Int × Nat × (Int → Int) × (Int → Int)
def bad (r q : Int) : Rs := (r, q, 0, 0, fun _ => 0, fun _ => 0)
abbrev PS := Int × Int × Int × Nat × (Int → Int) × Int × (Int → Int)
def bnI (R : Int → Int) (v : Int) : Int := 7 + 6 * (R 6 - 1) + v
def spc (k : PS → Rs) (q t v w st cl cap : Int) (kin : Nat) (sz : Int → Int) (size : Int) (R : Int → Int) : Rs :=
    if st = 0 then
      if t = 0 then (0, -1, cap, kin, sz, R)
      else if w = 0 then if 0 < cl then bad 4 q else k (1, cl, cap, kin, sz, size, R)
      else if w = 1 then if 6 ≤ kin then bad 2 q else k (2, cl, cap, kin, sz, size, R)
      else if w = 2 then if 12 ≤ R 6 then bad 2 q else k (4, cl, cap, kin, sz, size, fset R 6 (R 6 + 1))
      else bad 1 q
    else if (st = 5 ∨ st = 6) ∧ t = 3 then k (0, cl + 1, cap, kin, sz, size, R)
    else if st = 6 ∨ t ≠ 2 then bad 1 q
    else if st = 1 then if v < 1 ∨ 99 < v then bad 2 q else k (6, cl, v, kin, sz, size, R)
    else if st = 2 then if v < 1 ∨ cap < v then bad 2 q else k (3, cl, cap, kin, sz, v, R)
    else if st = 3 then if 12 < v ∨ 24 < sg R kin + v then bad 2 q else k (6, cl, cap, kin + 1, fset sz kin size, size, fset R kin v)
    else if 6 ≤ v then bad 2 q else if (kin : Int) ≤ v then bad 3 q
    else if cap < sg (fun s => sz s * R (bnI R s)) kin + sz v then bad 5 q
    else k (5, cl, cap, kin, sz, size, fset R (bnI R v) (R (bnI R v) + 1))
def sp (k : PS → Rs) (q t v w : Int) : PS → Rs
  | (st, cl, cap, kin, sz, size, R) => spc k q t v w st cl cap kin sz size R
section spR
variable {k : PS → Rs} {q t v w st cl cap size : Int} {kin : Nat} {sz R : Int → Int}
theorem sp_end : sp k q 0 v w (0, cl, cap, kin, sz, size, R) = (0, -1, cap, kin, sz, R) := rfl
theorem sp_w0 (ht : t ≠ 0) (hw : w = 0) (hc : ¬ 0 < cl) : sp k q t v w (0, cl, cap, kin, sz, size, R) = k (1, cl, cap, kin, sz, size, R) := by
  show spc _ _ _ _ _ _ _ _ _ _ _ _ = _
  unfold spc; rw [if_pos rfl, if_neg ht, if_pos hw, if_neg hc]
theorem sp_w0b (ht : t ≠ 0) (hw : w = 0) (hc : 0 < cl) : sp k q t v w (0, cl, cap, kin, sz, size, R) = bad 4 q := by
  show spc _ _ _ _ _ _ _ _ _ _ _ _ = _
  unfold spc; rw [if_pos rfl, if_neg ht, if_pos hw, if_pos hc]
theorem sp_w1 (ht : t ≠ 0) (hw : w = 1) (hc : ¬ 6 ≤ kin) : sp k q t v w (0, cl, cap, kin, sz, size, R) = k (2, cl, cap, kin, sz, size, R) := by
  show spc _ _ _ _ _ _ _ _ _ _ _ _ = _
  unfold spc; rw [if_pos rfl, if_neg ht, if_neg (by omega), if_pos hw, if_neg hc]
theorem sp_w1b (ht : t ≠ 0) (hw : w = 1) (hc : 6 ≤ kin) : sp k q t v w (0, cl, cap, kin, sz, size, R) = bad 2 q := by
  show spc _ _ _ _ _ _ _ _ _ _ _ _ = _
  unfold spc; rw [if_pos rfl, if_neg ht, if_neg (by omega), if_pos hw, if_pos hc]
theorem sp_w2 (ht : t ≠ 0) (hw : w = 2) (hc : ¬ 12 ≤ R 6) : sp k q t v w (0, cl, cap, kin, sz, size, R) = k (4, cl, cap, kin, sz, size, fset R 6 (R 6 + 1)) := by
  show spc _ _ _ _ _ _ _ _ _ _ _ _ = _
  unfold spc; rw [if_pos rfl, if_neg ht, if_neg (by omega), if_neg (by omega), if_pos hw, if_neg hc]
theorem sp_w2b (ht : t ≠ 0) (hw : w = 2) (hc : 12 ≤ R 6) : sp k q t v w (0, cl, cap, kin, sz, size, R) = bad 2 q := by
  show spc _ _ _ _ _ _ _ _ _ _ _ _ = _
  unfold spc; rw [if_pos rfl, if_neg ht, if_neg (by omega), if_neg (by omega), if_pos hw, if_pos hc]
theorem sp_wn (ht : t ≠ 0) (h0 : w ≠ 0) (h1 : w ≠ 1) (h2 : w ≠ 2) : sp k q t v w (0, cl, cap, kin, sz, size, R) = bad 1 q := by
  show spc _ _ _ _ _ _ _ _ _ _ _ _ = _
  unfold spc; rw [if_pos rfl, if_neg ht, if_neg h0, if_neg h1, if_neg h2]
theorem sp_semi (h : st = 5 ∨ st = 6) (ht : t = 3) : sp k q t v w (st, cl, cap, kin, sz, size, R) = k (0, cl + 1, cap, kin, sz, size, R) := by
  show spc _ _ _ _ _ _ _ _ _ _ _ _ = _
  unfold spc; rw [if_neg (by omega), if_pos ⟨h, ht⟩]
theorem sp_one (h : st ≠ 0) (h1 : ¬ ((st = 5 ∨ st = 6) ∧ t = 3)) (h2 : st = 6 ∨ t ≠ 2) : sp k q t v w (st, cl, cap, kin, sz, size, R) = bad 1 q := by
  show spc _ _ _ _ _ _ _ _ _ _ _ _ = _
  unfold spc; rw [if_neg h, if_neg h1, if_pos h2]
theorem sp_1 (hv : ¬ (v < 1 ∨ 99 < v)) : sp k q 2 v w (1, cl, cap, kin, sz, size, R) = k (6, cl, v, kin, sz, size, R) := by
  show spc _ _ _ _ _ _ _ _ _ _ _ _ = _
  unfold spc; rw [if_neg (by omega), if_neg (by omega), if_neg (by omega), if_pos rfl, if_neg hv]
theorem sp_1b (hv : v < 1 ∨ 99 < v) : sp k q 2 v w (1, cl, cap, kin, sz, size, R) = bad 2 q := by
  show spc _ _ _ _ _ _ _ _ _ _ _ _ = _
  unfold spc; rw [if_neg (by omega), if_neg (by omega), if_neg (by omega), if_pos rfl, if_pos hv]
theorem sp_2 (hv : ¬ (v < 1 ∨ cap < v)) : sp k q 2 v w (2, cl, cap, kin, sz, size, R) = k (3, cl, cap, kin, sz, v, R) := by
  show spc _ _ _ _ _ _ _ _ _ _ _ _ = _
  unfold spc; rw [if_neg (by omega), if_neg (by omega), if_neg (by omega), if_neg (by omega), if_pos rfl, if_neg hv]
theorem sp_2b (hv : v < 1 ∨ cap < v) : sp k q 2 v w (2, cl, cap, kin, sz, size, R) = bad 2 q := by
  show spc _ _ _ _ _ _ _ _ _ _ _ _ = _
  unfold spc; rw [if_neg (by omega), if_neg (by omega), if_neg (by omega), if_neg (by omega), if_pos rfl, if_pos hv]
theorem sp_3 (hv : ¬ (12 < v ∨ 24 < sg R kin + v)) : sp k q 2 v w (3, cl, cap, kin, sz, size, R) = k (6, cl, cap, kin + 1, fset sz kin size, size, fset R kin v) := by
  show spc _ _ _ _ _ _ _ _ _ _ _ _ = _
  unfold spc; rw [if_neg (by omega), if_neg (by omega), if_neg (by omega), if_neg (by omega), if_neg (by omega), if_pos rfl, if_neg hv]
theorem sp_3b (hv : 12 < v ∨ 24 < sg R kin + v) : sp k q 2 v w (3, cl, cap, kin, sz, size, R) = bad 2 q := by
  show spc _ _ _ _ _ _ _ _ _ _ _ _ = _
  unfold spc; rw [if_neg (by omega), if_neg (by omega), if_neg (by omega), if_neg (by omega), if_neg (by omega), if_pos rfl, if_pos hv]
theorem sp_4b2 (h : st = 4 ∨ st = 5) (hv : 6 ≤ v) : sp k q 2 v w (st, cl, cap, kin, sz, size, R) = bad 2 q := by
  show spc _ _ _ _ _ _ _ _ _ _ _ _ = _
  unfold spc; rw [if_neg (by omega), if_neg (by omega), if_neg (by omega), if_neg (by omega), if_neg (by omega), if_neg (by omega), if_pos hv]
theorem sp_4b3 (h : st = 4 ∨ st = 5) (hv : ¬ 6 ≤ v) (h2 : (kin : Int) ≤ v) : sp k q 2 v w (st, cl, cap, kin, sz, size, R) = bad 3 q := by
  show spc _ _ _ _ _ _ _ _ _ _ _ _ = _
  unfold spc; rw [if_neg (by omega), if_neg (by omega), if_neg (by omega), if_neg (by omega), if_neg (by omega), if_neg (by omega), if_neg hv, if_pos h2]
theorem sp_4b5 (h : st = 4 ∨ st = 5) (hv : ¬ 6 ≤ v) (h2 : ¬ (kin : Int) ≤ v) (h3 : cap < sg (fun s => sz s * R (bnI R s)) kin + sz v) : sp k q 2 v w (st, cl, cap, kin, sz, size, R) = bad 5 q := by
  show spc _ _ _ _ _ _ _ _ _ _ _ _ = _
  unfold spc; rw [if_neg (by omega), if_neg (by omega), if_neg (by omega), if_neg (by omega), if_neg (by omega), if_neg (by omega), if_neg hv, if_neg h2, if_pos h3]
theorem sp_4 (h : st = 4 ∨ st = 5) (hv : ¬ 6 ≤ v) (h2 : ¬ (kin : Int) ≤ v) (h3 : ¬ cap < sg (fun s => sz s * R (bnI R s)) kin + sz v) : sp k q 2 v w (st, cl, cap, kin, sz, size, R) = k (5, cl, cap, kin, sz, size, fset R (bnI R v) (R (bnI R v) + 1)) := by
  show spc _ _ _ _ _ _ _ _ _ _ _ _ = _
  unfold spc; rw [if_neg (by omega), if_neg (by omega), if_neg (by omega), if_neg (by omega), if_neg (by omega), if_neg (by omega), if_neg hv, if_neg h2, if_neg h3]
end spR
def rd (T : Int → Int) (n : Int) : Nat → PS → Int → Rs
  | 0, _, _ => bad 0 0
  | f + 1, s, p => sp (fun s' => rd T n f s' (eT T n (ro (bl T) n p))) (ro (bl T) n p) (tT T n (ro (bl T) n p)) (vT T (ro (bl T) n p) (eT T n (ro (bl T) n p))) (wT T (ro (bl T) n p) (eT T n (ro (bl T) n p))) s
def psOK : PS → Prop
  | (st, cl, cap, kin, sz, size, R) => (0 ≤ st ∧ st ≤ 6) ∧ 0 ≤ cl ∧ (1 ≤ cap ∧ cap ≤ 99) ∧ kin ≤ 6 ∧ (∀ s : Nat, s < kin → 1 ≤ sz s ∧ sz s ≤ cap) ∧ (st = 3 → 1 ≤ size ∧ size ≤ cap) ∧ (st = 4 ∨ st = 5 → 1 ≤ R 6) ∧ (st = 0 ∧ cl = 0 → kin = 0) ∧ (st = 1 → kin = 0) ∧ (st = 2 ∨ st = 3 → kin < 6) ∧ rowOK cap kin sz R
section okR
variable {st cl cap v size : Int} {kin : Nat} {sz R : Int → Int}
theorem ok_w0 (h : psOK (0, cl, cap, kin, sz, size, R)) (hc : ¬ 0 < cl) : psOK (1, cl, cap, kin, sz, size, R) := by
  obtain ⟨h1, h2, h3, h4, h5, h6, h7, h8, h9, h10, h11⟩ := h
  exact ⟨by omega, h2, h3, h4, h5, by omega, by omega, by omega, fun _ => h8 (by omega), by omega, h11⟩
theorem ok_w1 (h : psOK (0, cl, cap, kin, sz, size, R)) (hc : ¬ 6 ≤ kin) : psOK (2, cl, cap, kin, sz, size, R) := by
  obtain ⟨h1, h2, h3, h4, h5, h6, h7, h8, h9, h10, h11⟩ := h
  exact ⟨by omega, h2, h3, h4, h5, by omega, by omega, by omega, by omega, fun _ => by omega, h11⟩
theorem ok_w2 (h : psOK (0, cl, cap, kin, sz, size, R)) (hc : ¬ 12 ≤ R 6) : psOK (4, cl, cap, kin, sz, size, fset R 6 (R 6 + 1)) := by
  obtain ⟨h1, h2, h3, h4, h5, h6, h7, h8, h9, h10, g1, g2, g3, g4, g5⟩ := h
  have e : ∀ b s : Nat, fset R 6 (R 6 + 1) (7 + 6 * b + s) = R (7 + 6 * b + s) := fun b s => fset_n (by omega)
  have e1 : ∀ s : Nat, s < 6 → fset R 6 (R 6 + 1) s = R s := fun s hs => fset_n (by omega)
  refine ⟨by omega, h2, h3, h4, h5, by omega, fun _ => by rw [fset_s]; omega, by omega, by omega, by omega, fun s hs => by rw [e1 s hs]; exact g1 s hs, by rw [sg_congr (fun j hj => e1 j (by omega))]; exact g2, by rw [fset_s]; omega, fun b s hb hs => ?_, fun b hb => ?_⟩
  · rw [e b s, fset_s]; have := g4 b s hb hs; exact ⟨this.1, this.2.1, this.2.2.1, fun z => this.2.2.2 (by omega)⟩
  · rw [sg_congr (g := fun s => sz s * R (7 + 6 * b + s)) (fun j hj => by show sz j * fset R 6 (R 6 + 1) (7 + 6 * b + j) = _; rw [e b j])]; exact g5 b hb
theorem ok_end (h : psOK (st, cl, cap, kin, sz, size, R)) : psOK (0, cl + 1, cap, kin, sz, size, R) := by
  obtain ⟨h1, h2, h3, h4, h5, h6, h7, h8, h9, h10, h11⟩ := h
  exact ⟨by omega, by omega, h3, h4, h5, by omega, by omega, by omega, by omega, by omega, h11⟩
theorem ok_cap (h : psOK (1, cl, cap, kin, sz, size, R)) (hv : ¬ (v < 1 ∨ 99 < v)) : psOK (6, cl, v, kin, sz, size, R) := by
  obtain ⟨h1, h2, h3, h4, h5, h6, h7, h8, h9, h10, g1, g2, g3, g4, g5⟩ := h
  have h0 := h9 rfl
  refine ⟨by omega, h2, by omega, h4, fun s hs => by omega, by omega, by omega, by omega, by omega, by omega, g1, g2, g3, g4, fun b hb => ?_⟩
  rw [h0]; show (0 : Int) ≤ v; omega
theorem ok_size (h : psOK (2, cl, cap, kin, sz, size, R)) (hv : ¬ (v < 1 ∨ cap < v)) : psOK (3, cl, cap, kin, sz, v, R) := by
  obtain ⟨h1, h2, h3, h4, h5, h6, h7, h8, h9, h10, h11⟩ := h
  exact ⟨by omega, h2, h3, h4, h5, fun _ => by omega, by omega, by omega, by omega, fun _ => h10 (Or.inl rfl), h11⟩
theorem ok_rest (h : psOK (3, cl, cap, kin, sz, size, R)) (h0 : 0 ≤ v) (hv : ¬ (12 < v ∨ 24 < sg R kin + v)) : psOK (6, cl, cap, kin + 1, fset sz kin size, size, fset R kin v) ∧ sg (fset R kin v) (kin + 1) = sg R kin + v := by
  obtain ⟨h1, h2, h3, h4, h5, h6, h7, h8, h9, h10, g1, g2, g3, g4, g5⟩ := h
  have hk := h10 (Or.inr rfl)
  have h6 := h6 rfl
  have e : ∀ b s : Nat, fset R kin v (7 + 6 * b + s) = R (7 + 6 * b + s) := fun b s => fset_n (by omega)
  have es : sg (fset R kin v) (kin + 1) = sg R kin + v := by
    show sg (fset R kin v) kin + fset R kin v kin = _
    rw [fset_s, sg_congr (fun j hj => fset_n (by omega))]
  refine ⟨⟨by omega, h2, h3, by omega, fun s hs => ?_, by omega, by omega, by omega, by omega, by omega, fun s hs => ?_, by rw [es]; omega, by rw [fset_n (by omega)]; exact g3, fun b s hb hs => ?_, fun b hb => ?_⟩, es⟩
  · by_cases e : s = kin
    · subst e; rw [fset_s]; exact h6
    · rw [fset_n (by omega)]; exact h5 s (by omega)
  · by_cases e : s = kin
    · subst e; rw [fset_s]; omega
    · rw [fset_n (by omega)]; have := g1 s hs; exact ⟨this.1, this.2.1, fun z => this.2.2 (by omega)⟩
  · rw [e b s, fset_n (by omega)]; have := g4 b s hb hs; exact ⟨this.1, this.2.1, fun z => this.2.2.1 (by omega), this.2.2.2⟩
  · show sg (fun s => fset sz kin size s * fset R kin v (7 + 6 * b + s)) kin + fset sz kin size kin * fset R kin v (7 + 6 * b + kin) ≤ cap
    rw [e b kin, (g4 b kin hb (by omega)).2.2.1 (Nat.le_refl _), Int.mul_zero, sg_congr (g := fun s => sz s * R (7 + 6 * b + s)) (fun j hj => by show fset sz kin size j * fset R kin v (7 + 6 * b + j) = _; rw [e b j, fset_n (by omega)])]
    have := g5 b hb; omega
theorem ok_pc (h : psOK (st, cl, cap, kin, sz, size, R)) (hst : st = 4 ∨ st = 5) (h0 : 0 ≤ v) (h1 : v < kin) (hv : ¬ cap < sg (fun s => sz s * R (bnI R s)) kin + sz v) : psOK (5, cl, cap, kin, sz, size, fset R (bnI R v) (R (bnI R v) + 1)) ∧ sg (fun s => sz s * (fset R (bnI R v) (R (bnI R v) + 1)) (bnI R s)) kin = sg (fun s => sz s * R (bnI R s)) kin + sz v ∧ 0 ≤ R (bnI R v) ∧ R (bnI R v) < 99 := by
  obtain ⟨k1, h2, h3, h4, h5, h6, h7, h8, h9, h10, g1, g2, g3, g4, g5⟩ := h
  have h7 := h7 hst
  obtain ⟨v, rfl⟩ : ∃ s : Nat, v = s := ⟨v.toNat, by omega⟩
  obtain ⟨b0, hb0⟩ : ∃ b : Nat, R 6 - 1 = b := ⟨(R 6 - 1).toNat, by omega⟩
  have eb : ∀ x, bnI R x = 7 + 6 * (b0 : Int) + x := fun x => by unfold bnI; rw [hb0]
  have g4b := g4 b0 v (by omega) (by omega)
  have es : sg (fun s => sz s * (fset R (bnI R v) (R (bnI R v) + 1)) (bnI R s)) kin = sg (fun s => sz s * R (bnI R s)) kin + sz v := by
    have := sg_up1 (f := fun s => R (bnI R s)) (g := fun s => fset R (bnI R v) (R (bnI R v) + 1) (bnI R s)) (w := sz) (n := kin) (i := v) (x := 1) (by omega) (fun j hj => by
      by_cases e : j = v
      · subst e; rw [if_pos rfl, fset_s]
      · rw [if_neg e, fset_n (by rw [eb, eb]; omega)])
    rw [this]; omega
  have hsz : ∀ j : Nat, j < kin → 0 ≤ (fun s => sz s * fset R (bnI R v) (R (bnI R v) + 1) (bnI R s)) j := fun j hj => by
    have a := h5 j hj
    have b := g4 b0 j (by omega) (by omega)
    show 0 ≤ sz j * _
    refine Int.mul_nonneg (by omega) ?_
    by_cases e : j = v
    · subst e; rw [fset_s, eb]; omega
    · rw [fset_n (by rw [eb, eb]; omega), eb]; omega
  have h99 : R (bnI R v) < 99 := by
    have t := sg_term (f := fun s => sz s * fset R (bnI R v) (R (bnI R v) + 1) (bnI R s)) (n := kin) hsz v (by omega)
    rw [es] at t
    have t2 : sz v * fset R (bnI R v) (R (bnI R v) + 1) (bnI R v) ≤ sg (fun s => sz s * R (bnI R s)) kin + sz v := t
    rw [fset_s] at t2
    have a := h5 v (by omega)
    have : 1 * (R (bnI R v) + 1) ≤ sz v * (R (bnI R v) + 1) := Int.mul_le_mul_of_nonneg_right a.1 (by rw [eb]; omega)
    omega
  have e6 : fset R (bnI R v) (R (bnI R v) + 1) 6 = R 6 := fset_n (by rw [eb]; omega)
  have e5 : ∀ s : Nat, s < 6 → fset R (bnI R v) (R (bnI R v) + 1) s = R s := fun s hs => fset_n (by rw [eb]; omega)
  refine ⟨⟨by omega, h2, h3, h4, h5, by omega, fun _ => by rw [e6]; exact h7, by omega, by omega, by omega, fun s hs => by rw [e5 s hs]; exact g1 s hs, by rw [sg_congr (fun j hj => e5 j (by omega))]; exact g2, by rw [e6]; exact g3, fun b s hb hs => ?_, fun b hb => ?_⟩, es, by rw [eb]; exact g4b.1, h99⟩
  · rw [e6]
    have := g4 b s hb hs
    by_cases e : b = b0 ∧ s = v
    · obtain ⟨rfl, rfl⟩ := e
      rw [show (7 : Int) + 6 * (b : Int) + s = bnI R s from (eb _).symm, fset_s]
      rw [eb] at h99 ⊢
      exact ⟨by omega, by omega, fun z => by omega, fun z => by omega⟩
    · rw [fset_n (by rw [eb]; omega)]; exact this
  · by_cases e : b = b0
    · subst e
      rw [sg_congr (g := fun s => sz s * fset R (bnI R v) (R (bnI R v) + 1) (bnI R s)) (fun j hj => by show sz j * fset R (bnI R v) (R (bnI R v) + 1) (7 + 6 * (b : Int) + j) = _; rw [← eb]), es]
      omega
    · rw [sg_congr (g := fun s => sz s * R (7 + 6 * b + s)) (fun j hj => by show sz j * fset R (bnI R v) (R (bnI R v) + 1) (7 + 6 * b + j) = _; rw [fset_n (by rw [eb]; omega)])]; exact g5 b hb
end okR
