/-! patterns of a bin, pure: goods in the order as a list of (size, how many); a pattern as a list of numbers -/
abbrev zL : Type := List (Int × Int)
/-- as much as can be, one sort behind the other -/
def gr : zL → Int → List Int
  | [], _ => []
  | (z, m) :: r, fr => min m (fr / z) :: gr r (fr - min m (fr / z) * z)
/-- the pattern that comes next -/
def nx : zL → Int → List Int → Option (List Int)
  | (z, _) :: r, fr, v :: q => match nx r (fr - v * z) q with
    | some q' => some (v :: q')
    | none => if 0 < v then some ((v - 1) :: gr r (fr - (v - 1) * z)) else none
  | _, _, _ => none
def ptV (F : Int → List (List Int)) (z fr : Int) : Nat → List (List Int)
  | 0 => (F fr).map (fun q => (0 : Int) :: q)
  | v + 1 => (F (fr - ((v + 1 : Nat) : Int) * z)).map (fun q => ((v + 1 : Nat) : Int) :: q) ++ ptV F z fr v
/-- all patterns, the first first -/
def pats : zL → Int → List (List Int)
  | [], _ => [[]]
  | (z, m) :: r, fr => ptV (pats r) z fr (min m (fr / z)).toNat
/-- goods: sizes above 0, numbers not below 0 -/
def zOK (l : zL) : Prop := ∀ x ∈ l, 1 ≤ x.1 ∧ 0 ≤ x.2
/-- sizes of a pattern together -/
def pw : zL → List Int → Int
  | (z, _) :: r, v :: q => v * z + pw r q
  | _, _ => 0
/-- a pattern of goods in what is free -/
def isP : zL → Int → List Int → Prop
  | [], fr, [] => 0 ≤ fr
  | (z, m) :: r, fr, v :: q => 0 ≤ v ∧ v ≤ m ∧ v * z ≤ fr ∧ isP r (fr - v * z) q
  | _, _, _ => False
/-- a list along which f goes, to its end -/
def Ch (f : List Int → Option (List Int)) : List (List Int) → Prop
  | [] => False
  | a :: t => match t with
    | [] => f a = none
    | b :: _ => f a = some b ∧ Ch f t
theorem vmax {z m fr : Int} (hz : 1 ≤ z) (hm : 0 ≤ m) (hf : 0 ≤ fr) : 0 ≤ min m (fr / z) ∧ min m (fr / z) ≤ m ∧ min m (fr / z) * z ≤ fr := by
  have h1 := dvc hf hz
  have h2 : min m (fr / z) * z ≤ fr / z * z := Int.mul_le_mul_of_nonneg_right (by omega) (by omega)
  omega
theorem zOK.t {x : Int × Int} {l : zL} (h : zOK (x :: l)) : zOK l := fun y hy => h y (List.mem_cons_of_mem _ hy)
theorem zOK.h {x : Int × Int} {l : zL} (h : zOK (x :: l)) : 1 ≤ x.1 ∧ 0 ≤ x.2 := h x List.mem_cons_self
theorem gr_isP : ∀ {l : zL} {fr : Int}, zOK l → 0 ≤ fr → isP l fr (gr l fr)
  | [], _, _, hf => hf
  | (z, m) :: r, fr, h, hf => by
    have h1 : 0 ≤ min m (fr / z) ∧ min m (fr / z) ≤ m ∧ min m (fr / z) * z ≤ fr := vmax h.h.1 h.h.2 hf
    exact ⟨h1.1, h1.2.1, h1.2.2, gr_isP h.t (by omega)⟩
theorem Ch_map {f g : List Int → Option (List Int)} {φ : List Int → List Int} : ∀ {L : List (List Int)}, Ch f L → (∀ a b, f a = some b → g (φ a) = some (φ b)) → (∀ a, f a = none → g (φ a) = none) → Ch g (L.map φ)
  | [], h, _, _ => h
  | [a], h, _, h2 => h2 a h
  | a :: b :: t, h, h1, h2 => ⟨h1 a b h.1, Ch_map (L := b :: t) h.2 h1 h2⟩
/-- one list behind the other -/
theorem Ch_app {f g : List Int → Option (List Int)} {φ : List Int → List Int} {b : List Int} {t : List (List Int)} : ∀ {L : List (List Int)}, Ch f L → (∀ a c, f a = some c → g (φ a) = some (φ c)) → (∀ a, f a = none → g (φ a) = some b) → Ch g (b :: t) → Ch g (L.map φ ++ b :: t)
  | [], h, _, _, _ => h.elim
  | [a], h, _, h2, h3 => ⟨h2 a h, h3⟩
  | a :: c :: t', h, h1, h2, h3 => ⟨h1 a c h.1, Ch_app (L := c :: t') h.2 h1 h2 h3⟩
theorem ptV_head {F : Int → List (List Int)} {z fr : Int} : ∀ (v : Nat) {a : List Int}, (F (fr - (v : Int) * z)).head? = some a → ∃ t, ptV F z fr v = ((v : Int) :: a) :: t
  | 0, a, h => by
    rw [show fr - ((0 : Nat) : Int) * z = fr by simp] at h
    cases hF : F fr with
    | nil => rw [hF] at h; cases h
    | cons x y =>
      rw [hF] at h
      cases h
      exact ⟨y.map (fun q => (0 : Int) :: q), by unfold ptV; rw [hF]; rfl⟩
  | v + 1, a, h => by
    cases hF : F (fr - ((v + 1 : Nat) : Int) * z) with
    | nil => rw [hF] at h; cases h
    | cons x y =>
      rw [hF] at h
      cases h
      exact ⟨y.map (fun q => ((v + 1 : Nat) : Int) :: q) ++ ptV F z fr v, by rw [show ptV F z fr (v + 1) = (F (fr - ((v + 1 : Nat) : Int) * z)).map (fun q => ((v + 1 : Nat) : Int) :: q) ++ ptV F z fr v from rfl, hF]; rfl⟩
theorem nx_some {z m : Int} {r : zL} {fr v : Int} {q q' : List Int} (h : nx r (fr - v * z) q = some q') : nx ((z, m) :: r) fr (v :: q) = some (v :: q') := by
  unfold nx; rw [h]
theorem nx_none {z m : Int} {r : zL} {fr v : Int} {q : List Int} (h : nx r (fr - v * z) q = none) (hv : 0 < v) : nx ((z, m) :: r) fr (v :: q) = some ((v - 1) :: gr r (fr - (v - 1) * z)) := by
  unfold nx; rw [h]; simp [hv]
theorem nx_end {z m : Int} {r : zL} {fr : Int} {q : List Int} (h : nx r (fr - 0 * z) q = none) : nx ((z, m) :: r) fr (0 :: q) = none := by
  unfold nx; rw [h]; simp
theorem ptV_ch {z m fr : Int} {r : zL} (hr : ∀ fr', 0 ≤ fr' → Ch (nx r fr') (pats r fr') ∧ (pats r fr').head? = some (gr r fr')) (hz : 1 ≤ z) (hf : 0 ≤ fr) : ∀ v : Nat, (v : Int) * z ≤ fr → Ch (nx ((z, m) :: r) fr) (ptV (pats r) z fr v)
  | 0, _ => by
    have h1 := (hr fr hf).1
    unfold ptV
    exact Ch_map h1 (fun a b h => nx_some (by rw [show fr - 0 * z = fr by simp]; exact h)) (fun a h => nx_end (by rw [show fr - 0 * z = fr by simp]; exact h))
  | v + 1, hv => by
    have e : ((v + 1 : Nat) : Int) * z = (v : Int) * z + z := by rw [Int.natCast_add, Int.add_mul]; simp
    have ih := ptV_ch (m := m) hr hz hf v (by omega)
    have h1 := (hr (fr - ((v + 1 : Nat) : Int) * z) (by omega)).1
    have h2 := (hr (fr - (v : Int) * z) (by omega)).2
    obtain ⟨t, ht⟩ := ptV_head (F := pats r) (z := z) (fr := fr) v h2
    unfold ptV
    rw [ht] at ih ⊢
    refine Ch_app h1 (fun a b h => nx_some h) (fun a h => ?_) ih
    rw [nx_none h (by omega), show ((v + 1 : Nat) : Int) - 1 = v by omega]
theorem pats_ch : ∀ {l : zL} {fr : Int}, zOK l → 0 ≤ fr → Ch (nx l fr) (pats l fr) ∧ (pats l fr).head? = some (gr l fr)
  | [], fr, _, _ => ⟨rfl, rfl⟩
  | (z, m) :: r, fr, h, hf => by
    have h1 : 0 ≤ min m (fr / z) ∧ min m (fr / z) ≤ m ∧ min m (fr / z) * z ≤ fr := vmax h.h.1 h.h.2 hf
    have hr : ∀ fr', 0 ≤ fr' → Ch (nx r fr') (pats r fr') ∧ (pats r fr').head? = some (gr r fr') := fun fr' h' => pats_ch h.t h'
    refine ⟨ptV_ch hr h.h.1 hf _ (by rw [Int.toNat_of_nonneg h1.1]; exact h1.2.2), ?_⟩
    have e : (((min m (fr / z)).toNat : Nat) : Int) = min m (fr / z) := Int.toNat_of_nonneg h1.1
    have h2 := (hr (fr - (((min m (fr / z)).toNat : Nat) : Int) * z) (by rw [e]; omega)).2
    obtain ⟨t, ht⟩ := ptV_head (F := pats r) (z := z) (fr := fr) _ h2
    show (ptV (pats r) z fr (min m (fr / z)).toNat).head? = _
    rw [ht, e]
    rfl
theorem ptV_mem {F : Int → List (List Int)} {z fr : Int} {p : List Int} : ∀ {v : Nat}, p ∈ ptV F z fr v ↔ ∃ (w : Nat) (q : List Int), w ≤ v ∧ q ∈ F (fr - (w : Int) * z) ∧ p = (w : Int) :: q
  | 0 => by
    unfold ptV
    rw [List.mem_map]
    constructor
    · rintro ⟨q, hq, rfl⟩
      exact ⟨0, q, Nat.le_refl _, by rw [show fr - ((0 : Nat) : Int) * z = fr by simp]; exact hq, rfl⟩
    · rintro ⟨w, q, hw, hq, rfl⟩
      have e : w = 0 := by omega
      subst e
      exact ⟨q, by rw [show fr - ((0 : Nat) : Int) * z = fr by simp] at hq; exact hq, rfl⟩
  | v + 1 => by
    unfold ptV
    rw [List.mem_append, List.mem_map, ptV_mem (v := v)]
    constructor
    · rintro (⟨q, hq, rfl⟩ | ⟨w, q, hw, hq, rfl⟩)
      · exact ⟨v + 1, q, Nat.le_refl _, hq, rfl⟩
      · exact ⟨w, q, by omega, hq, rfl⟩
    · rintro ⟨w, q, hw, hq, rfl⟩
      by_cases e : w = v + 1
      · subst e; exact Or.inl ⟨q, hq, rfl⟩
      · exact Or.inr ⟨w, q, by omega, hq, rfl⟩
/-- the list has just the patterns -/
theorem pats_mem : ∀ {l : zL} {fr : Int} {p : List Int}, zOK l → 0 ≤ fr → (p ∈ pats l fr ↔ isP l fr p)
  | [], fr, p, _, hf => by
    unfold pats
    rw [List.mem_singleton]
    cases p with
    | nil => exact ⟨fun _ => hf, fun _ => rfl⟩
    | cons a b => exact ⟨fun h => (by cases h), fun h => False.elim h⟩
  | (z, m) :: r, fr, p, h, hf => by
    have h1 : 0 ≤ min m (fr / z) ∧ min m (fr / z) ≤ m ∧ min m (fr / z) * z ≤ fr := vmax h.h.1 h.h.2 hf
    have hz : 1 ≤ z := h.h.1
    unfold pats
    rw [ptV_mem]
    constructor
    · rintro ⟨w, q, hw, hq, rfl⟩
      have hw2 : (w : Int) ≤ min m (fr / z) := by omega
      have hw3 : (w : Int) * z ≤ min m (fr / z) * z := Int.mul_le_mul_of_nonneg_right hw2 (by omega)
      exact ⟨by omega, by omega, by omega, (pats_mem h.t (by omega)).mp hq⟩
    · intro hp
      cases p with
      | nil => exact hp.elim
      | cons v q =>
        obtain ⟨a1, a2, a3, a4⟩ := hp
        have hv : v ≤ fr / z := (Int.le_ediv_iff_mul_le (by omega)).mpr a3
        refine ⟨v.toNat, q, by omega, ?_, by rw [Int.toNat_of_nonneg a1]⟩
        rw [Int.toNat_of_nonneg a1]
        exact (pats_mem h.t (by omega)).mpr a4
theorem isP_len : ∀ {l : zL} {fr : Int} {p : List Int}, isP l fr p → p.length = l.length
  | [], _, [], _ => rfl
  | (_, _) :: _, _, _ :: _, h => by
    simp only [List.length_cons]
    rw [isP_len h.2.2.2]
theorem isP_pw : ∀ {l : zL} {fr : Int} {p : List Int}, isP l fr p → pw l p ≤ fr
  | [], _, [], h => h
  | (z, m) :: r, fr, v :: q, h => by
    have := isP_pw h.2.2.2
    show v * z + pw r q ≤ fr
    omega
