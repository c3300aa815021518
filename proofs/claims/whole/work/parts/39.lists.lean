/-! patterns that nothing more fits into, pure -/
def lst {α : Type} (f : Int → α) : Nat → Nat → List α
  | 0, _ => []
  | r + 1, i => f i :: lst f r (i + 1)
theorem lst_congr {α : Type} {f g : Int → α} : ∀ {r i : Nat}, (∀ j : Nat, i ≤ j → j < i + r → f j = g j) → lst f r i = lst g r i
  | 0, _, _ => rfl
  | r + 1, i, h => by
    unfold lst
    rw [h i (by omega) (by omega), lst_congr (fun j h1 h2 => h j (by omega) (by omega))]
theorem lst_app {α : Type} {f : Int → α} : ∀ {t r i : Nat}, lst f (t + r) i = lst f t i ++ lst f r (i + t)
  | 0, r, i => by simp [lst]
  | t + 1, r, i => by
    rw [show t + 1 + r = (t + r) + 1 by omega]
    show f i :: lst f (t + r) (i + 1) = f i :: (lst f t (i + 1) ++ lst f r (i + (t + 1)))
    rw [lst_app, show i + 1 + t = i + (t + 1) by omega]
theorem lst_inj {α : Type} {f g : Int → α} : ∀ {r i : Nat}, lst f r i = lst g r i → ∀ j : Nat, i ≤ j → j < i + r → f j = g j
  | 0, _, _, j, h1, h2 => by omega
  | r + 1, i, h, j, h1, h2 => by
    unfold lst at h
    injection h with h3 h4
    by_cases e : j = i
    · subst e; exact h3
    · exact lst_inj h4 j (by omega) (by omega)
theorem lst_len {α : Type} {f : Int → α} : ∀ {r i : Nat}, (lst f r i).length = r
  | 0, _ => rfl
  | r + 1, i => by unfold lst; rw [List.length_cons, lst_len]
def zmF (zz mm : Int → Int) : Int → Int × Int := fun j => (zz j, mm j)
theorem lst_zOK {zz mm : Int → Int} : ∀ {r i : Nat}, (∀ j : Nat, i ≤ j → j < i + r → 1 ≤ zz j ∧ 0 ≤ mm j) → zOK (lst (zmF zz mm) r i)
  | 0, _, _ => fun x hx => by cases hx
  | r + 1, i, h => fun x hx => by
    unfold lst at hx
    cases hx with
    | head => exact h i (by omega) (by omega)
    | tail _ hx => exact lst_zOK (fun j h1 h2 => h j (by omega) (by omega)) x hx
theorem nx_zero {zz mm pp : Int → Int} {c : Int} : ∀ {r i : Nat}, (∀ j : Nat, i ≤ j → j < i + r → pp j = 0) → nx (lst (zmF zz mm) r i) c (lst pp r i) = none
  | 0, _, _ => rfl
  | r + 1, i, h => by
    show nx ((zz i, mm i) :: lst (zmF zz mm) r (i + 1)) c (pp i :: lst pp r (i + 1)) = none
    rw [h i (by omega) (by omega)]
    exact nx_end (nx_zero (fun j h1 h2 => h j (by omega) (by omega)))
theorem nx_at {zz mm pp : Int → Int} {c : Int} : ∀ {t r i : Nat}, 0 < pp ((i + t : Nat) : Int) → (∀ j : Nat, i + t < j → j < i + t + 1 + r → pp j = 0) → nx (lst (zmF zz mm) (t + 1 + r) i) (c - sg (fun j => pp j * zz j) i) (lst pp (t + 1 + r) i) = some (lst pp t i ++ (pp ((i + t : Nat) : Int) - 1) :: gr (lst (zmF zz mm) r (i + t + 1)) (c - sg (fun j => pp j * zz j) (i + t) - (pp ((i + t : Nat) : Int) - 1) * zz ((i + t : Nat) : Int)))
  | 0, r, i, h0, h => by
    rw [show 0 + 1 + r = r + 1 by omega]
    exact nx_none (nx_zero (fun j h1 h2 => h j (by omega) (by omega))) h0
  | t + 1, r, i, h0, h => by
    have e1 : i + (t + 1) = i + 1 + t := by omega
    rw [show t + 1 + 1 + r = (t + 1 + r) + 1 by omega]
    have ih := nx_at (zz := zz) (mm := mm) (c := c) (t := t) (r := r) (i := i + 1) (by rw [← e1]; exact h0) (fun j h1 h2 => h j (by omega) (by omega))
    rw [show sg (fun j => pp j * zz j) (i + 1) = sg (fun j => pp j * zz j) i + pp i * zz i from rfl, show c - (sg (fun j => pp j * zz j) i + pp i * zz i) = c - sg (fun j => pp j * zz j) i - pp i * zz i by omega] at ih
    rw [e1]
    exact nx_some ih
/-- the next pattern when the last sort isn't counted down -/
def nc : zL → Int → List Int → Option (List Int)
  | (z, _) :: y :: r, fr, v :: q => match nc (y :: r) (fr - v * z) q with
    | some q' => some (v :: q')
    | none => if 0 < v then some ((v - 1) :: gr (y :: r) (fr - (v - 1) * z)) else none
  | _, _, _ => none
def patc : zL → Int → List (List Int)
  | [], _ => [[]]
  | [(z, m)], fr => [[min m (fr / z)]]
  | (z, m) :: y :: r, fr => ptV (patc (y :: r)) z fr (min m (fr / z)).toNat
theorem nc_some {z m : Int} {y : Int × Int} {r : zL} {fr v : Int} {q q' : List Int} (h : nc (y :: r) (fr - v * z) q = some q') : nc ((z, m) :: y :: r) fr (v :: q) = some (v :: q') := by
  unfold nc; rw [h]
theorem nc_none {z m : Int} {y : Int × Int} {r : zL} {fr v : Int} {q : List Int} (h : nc (y :: r) (fr - v * z) q = none) (hv : 0 < v) : nc ((z, m) :: y :: r) fr (v :: q) = some ((v - 1) :: gr (y :: r) (fr - (v - 1) * z)) := by
  unfold nc; rw [h]; simp [hv]
theorem nc_end {z m : Int} {y : Int × Int} {r : zL} {fr : Int} {q : List Int} (h : nc (y :: r) (fr - 0 * z) q = none) : nc ((z, m) :: y :: r) fr (0 :: q) = none := by
  unfold nc; rw [h]; simp
theorem nc_zero {zz mm pp : Int → Int} {c : Int} : ∀ {r i : Nat}, (∀ j : Nat, i ≤ j → j + 1 < i + r → pp j = 0) → nc (lst (zmF zz mm) r i) c (lst pp r i) = none
  | 0, _, _ => rfl
  | 1, _, _ => rfl
  | r + 2, i, h => by
    show nc ((zz i, mm i) :: lst (zmF zz mm) (r + 1) (i + 1)) c (pp i :: lst pp (r + 1) (i + 1)) = none
    rw [h i (by omega) (by omega)]
    exact nc_end (nc_zero (r := r + 1) (fun j h1 h2 => h j (by omega) (by omega)))
theorem nc_at {zz mm pp : Int → Int} {c : Int} : ∀ {t r i : Nat}, 0 < r → 0 < pp ((i + t : Nat) : Int) → (∀ j : Nat, i + t < j → j + 1 < i + t + 1 + r → pp j = 0) → nc (lst (zmF zz mm) (t + 1 + r) i) (c - sg (fun j => pp j * zz j) i) (lst pp (t + 1 + r) i) = some (lst pp t i ++ (pp ((i + t : Nat) : Int) - 1) :: gr (lst (zmF zz mm) r (i + t + 1)) (c - sg (fun j => pp j * zz j) (i + t) - (pp ((i + t : Nat) : Int) - 1) * zz ((i + t : Nat) : Int)))
  | 0, r + 1, i, _, h0, h => by
    rw [show 0 + 1 + (r + 1) = r + 1 + 1 by omega]
    exact nc_none (nc_zero (r := r + 1) (fun j h1 h2 => h j (by omega) (by omega))) h0
  | t + 1, r, i, hr, h0, h => by
    have e1 : i + (t + 1) = i + 1 + t := by omega
    have ih := nc_at (zz := zz) (mm := mm) (c := c) (t := t) (r := r) (i := i + 1) hr (by rw [← e1]; exact h0) (fun j h1 h2 => h j (by omega) (by omega))
    rw [show sg (fun j => pp j * zz j) (i + 1) = sg (fun j => pp j * zz j) i + pp i * zz i from rfl, show c - (sg (fun j => pp j * zz j) i + pp i * zz i) = c - sg (fun j => pp j * zz j) i - pp i * zz i by omega] at ih
    rw [e1]
    rw [show t + 1 + r = t + r + 1 by omega] at ih
    rw [show t + 1 + 1 + r = (t + r + 1) + 1 by omega]
    exact nc_some ih
theorem ptV_chg {z fr : Int} {F : Int → List (List Int)} {N : Int → List Int → Option (List Int)} {G : List Int → Option (List Int)} {g : Int → List Int} (hr : ∀ fr', 0 ≤ fr' → Ch (N fr') (F fr') ∧ (F fr').head? = some (g fr'))
    (k1 : ∀ v q q', N (fr - v * z) q = some q' → G (v :: q) = some (v :: q')) (k2 : ∀ v q, 0 < v → N (fr - v * z) q = none → G (v :: q) = some ((v - 1) :: g (fr - (v - 1) * z))) (k3 : ∀ q, N (fr - 0 * z) q = none → G (0 :: q) = none) (hz : 1 ≤ z) (hf : 0 ≤ fr) : ∀ v : Nat, (v : Int) * z ≤ fr → Ch G (ptV F z fr v)
  | 0, _ => by
    have h1 := (hr fr hf).1
    have e : fr - 0 * z = fr := by simp
    unfold ptV
    exact Ch_map h1 (fun a b h => k1 0 a b (by rw [e]; exact h)) (fun a h => k3 a (by rw [e]; exact h))
  | v + 1, hv => by
    have e : ((v + 1 : Nat) : Int) * z = (v : Int) * z + z := by rw [Int.natCast_add, Int.add_mul]; simp
    have ih := ptV_chg hr k1 k2 k3 hz hf v (by omega)
    have h1 := (hr (fr - ((v + 1 : Nat) : Int) * z) (by omega)).1
    have h2 := (hr (fr - (v : Int) * z) (by omega)).2
    obtain ⟨t, ht⟩ := ptV_head (F := F) (z := z) (fr := fr) v h2
    unfold ptV
    rw [ht] at ih ⊢
    refine Ch_app h1 (fun a b h => k1 _ a b h) (fun a h => ?_) ih
    rw [k2 _ a (by omega) h, show ((v + 1 : Nat) : Int) - 1 = v by omega]
theorem patc_ch : ∀ {l : zL} {fr : Int}, zOK l → 0 ≤ fr → Ch (nc l fr) (patc l fr) ∧ (patc l fr).head? = some (gr l fr)
  | [], fr, _, _ => ⟨rfl, rfl⟩
  | [(z, m)], fr, _, _ => ⟨rfl, rfl⟩
  | (z, m) :: y :: r, fr, h, hf => by
    have h1 : 0 ≤ min m (fr / z) ∧ min m (fr / z) ≤ m ∧ min m (fr / z) * z ≤ fr := vmax h.h.1 h.h.2 hf
    have hr : ∀ fr', 0 ≤ fr' → Ch (nc (y :: r) fr') (patc (y :: r) fr') ∧ (patc (y :: r) fr').head? = some (gr (y :: r) fr') := fun fr' h' => patc_ch h.t h'
    have e : (((min m (fr / z)).toNat : Nat) : Int) = min m (fr / z) := Int.toNat_of_nonneg h1.1
    refine ⟨ptV_chg hr (fun v q q' h => nc_some h) (fun v q h h' => nc_none h' h) (fun q h => nc_end h) h.h.1 hf _ (by rw [e]; exact h1.2.2), ?_⟩
    have h2 := (hr (fr - (((min m (fr / z)).toNat : Nat) : Int) * z) (by rw [e]; omega)).2
    obtain ⟨t, ht⟩ := ptV_head (F := patc (y :: r)) (z := z) (fr := fr) _ h2
    show (ptV (patc (y :: r)) z fr (min m (fr / z)).toNat).head? = _
    rw [ht, e]
    rfl
/-- the last sort is filled up -/
def lastG : zL → Int → List Int → Prop
  | [(z, m)], fr, v :: _ => v = min m (fr / z)
  | (z, _) :: y :: r, fr, v :: q => lastG (y :: r) (fr - v * z) q
  | _, _, _ => True
theorem ptV_filter {z fr : Int} {F F' : Int → List (List Int)} {P : List Int → Bool} : ∀ v : Nat, (∀ w : Nat, w ≤ v → (F (fr - (w : Int) * z)).filter (fun q => P ((w : Int) :: q)) = (F' (fr - (w : Int) * z)).filter (fun q => P ((w : Int) :: q))) → (ptV F z fr v).filter P = (ptV F' z fr v).filter P
  | 0, h => by
    have := h 0 (Nat.le_refl _)
    rw [show fr - ((0 : Nat) : Int) * z = fr by simp] at this
    unfold ptV
    rw [List.filter_map, List.filter_map]
    exact congrArg _ this
  | v + 1, h => by
    unfold ptV
    rw [List.filter_append, List.filter_append, ptV_filter v (fun w hw => h w (by omega)), List.filter_map, List.filter_map]
    have := h (v + 1) (Nat.le_refl _)
    exact congrArg (fun t => List.map _ t ++ _) this
theorem ptV_one {z fr : Int} {P : List Int → Bool} : ∀ v : Nat, (∀ w : Nat, w < v → P [(w : Int)] = false) → (ptV (fun _ => [[]]) z fr v).filter P = [[(v : Int)]].filter P
  | 0, _ => rfl
  | v + 1, h => by
    unfold ptV
    rw [List.filter_append, ptV_one v (fun w hw => h w (by omega))]
    have : [[(v : Int)]].filter P = [] := by simp [List.filter, h v (by omega)]
    rw [this, List.append_nil]
    rfl
theorem pat_filter : ∀ {l : zL} {fr : Int} {P : List Int → Bool}, zOK l → 0 ≤ fr → (∀ q, isP l fr q → P q = true → lastG l fr q) → (pats l fr).filter P = (patc l fr).filter P
  | [], _, _, _, _, _ => rfl
  | [(z, m)], fr, P, h, hf, hP => by
    have h1 : 0 ≤ min m (fr / z) ∧ min m (fr / z) ≤ m ∧ min m (fr / z) * z ≤ fr := vmax h.h.1 h.h.2 hf
    have hz : 1 ≤ z := h.h.1
    have e : (((min m (fr / z)).toNat : Nat) : Int) = min m (fr / z) := Int.toNat_of_nonneg h1.1
    show (ptV (fun _ => [[]]) z fr (min m (fr / z)).toNat).filter P = [[min m (fr / z)]].filter P
    rw [ptV_one, e]
    intro w hw
    have hw2 : (w : Int) < min m (fr / z) := by omega
    have hw3 : (w : Int) * z ≤ min m (fr / z) * z := Int.mul_le_mul_of_nonneg_right (by omega) (by omega)
    cases hb : P [(w : Int)] with
    | false => rfl
    | true =>
      have : (w : Int) = min m (fr / z) := hP [(w : Int)] ⟨by omega, by omega, by omega, by show (0 : Int) ≤ _; omega⟩ hb
      omega
  | (z, m) :: y :: r, fr, P, h, hf, hP => by
    have h1 : 0 ≤ min m (fr / z) ∧ min m (fr / z) ≤ m ∧ min m (fr / z) * z ≤ fr := vmax h.h.1 h.h.2 hf
    have hz : 1 ≤ z := h.h.1
    show (ptV (pats (y :: r)) z fr _).filter P = (ptV (patc (y :: r)) z fr _).filter P
    refine ptV_filter _ (fun w hw => ?_)
    have hw2 : (w : Int) ≤ min m (fr / z) := by omega
    have hw3 : (w : Int) * z ≤ min m (fr / z) * z := Int.mul_le_mul_of_nonneg_right hw2 (by omega)
    exact pat_filter h.t (by omega) (fun q hq hb => hP ((w : Int) :: q) ⟨by omega, by omega, by omega, hq⟩ hb)
/-- nothing more fits into what is left free -/
def mxA : zL → Int → List Int → Bool
  | (z, m) :: r, fre, v :: q => !(decide (v < m) && decide (z ≤ fre)) && mxA r fre q
  | _, _, _ => true
def mx (l : zL) (fr : Int) (p : List Int) : Bool := mxA l (fr - pw l p) p
theorem pw_nn : ∀ {l : zL} {fr : Int} {p : List Int}, zOK l → isP l fr p → 0 ≤ pw l p
  | [], _, [], _, _ => Int.le_refl _
  | (z, m) :: r, fr, v :: q, h, hp => by
    have h1 := pw_nn h.t hp.2.2.2
    have h2 : 0 ≤ v * z := Int.mul_nonneg hp.1 (by have : 1 ≤ z := h.h.1; omega)
    show 0 ≤ v * z + pw r q
    omega
theorem mxA_lastG : ∀ {l : zL} {fr : Int} {q : List Int}, zOK l → isP l fr q → mxA l (fr - pw l q) q = true → lastG l fr q
  | [], _, _, _, _, _ => trivial
  | [(z, m)], fr, v :: q, h, hp, hm => by
    have hz : 1 ≤ z := h.h.1
    cases q with
    | cons a b => exact hp.2.2.2.elim
    | nil =>
      obtain ⟨a1, a2, a3, a4⟩ := hp
      have hv : v ≤ fr / z := (Int.le_ediv_iff_mul_le (by omega)).mpr a3
      have e : mxA [(z, m)] (fr - (v * z + 0)) [v] = (!(decide (v < m) && decide (z ≤ fr - (v * z + 0))) && true) := rfl
      have hm' : mxA [(z, m)] (fr - (v * z + 0)) [v] = true := hm
      rw [e] at hm'
      simp at hm'
      show v = min m (fr / z)
      by_cases hvm : v < m
      · have h3 : fr - v * z < z := by omega
        have : fr / z < v + 1 := (Int.ediv_lt_iff_lt_mul (by omega)).mpr (by rw [Int.add_mul]; omega)
        omega
      · omega
  | (z, m) :: y :: r, fr, v :: q, h, hp, hm => by
    have e : mxA ((z, m) :: y :: r) (fr - pw ((z, m) :: y :: r) (v :: q)) (v :: q) = (!(decide (v < m) && decide (z ≤ fr - pw ((z, m) :: y :: r) (v :: q))) && mxA (y :: r) (fr - pw ((z, m) :: y :: r) (v :: q)) q) := rfl
    rw [e, Bool.and_eq_true] at hm
    refine mxA_lastG (l := y :: r) (fr := fr - v * z) h.t hp.2.2.2 ?_
    have e2 : fr - v * z - pw (y :: r) q = fr - pw ((z, m) :: y :: r) (v :: q) := by
      show fr - v * z - pw (y :: r) q = fr - (v * z + pw (y :: r) q)
      omega
    rw [e2]; exact hm.2
theorem mx_filter {l : zL} {fr : Int} (h : zOK l) (hf : 0 ≤ fr) {P : List Int → Bool} : (pats l fr).filter (fun q => mx l fr q && P q) = (patc l fr).filter (fun q => mx l fr q && P q) :=
  pat_filter h hf (fun q hq hb => mxA_lastG h hq (by rw [Bool.and_eq_true] at hb; exact hb.1))
theorem mxA_gr : ∀ {l : zL} {fr fre : Int}, zOK l → 0 ≤ fr → fre ≤ fr - pw l (gr l fr) → mxA l fre (gr l fr) = true
  | [], _, _, _, _, _ => rfl
  | (z, m) :: r, fr, fre, h, hf, hfr => by
    have h1 : 0 ≤ min m (fr / z) ∧ min m (fr / z) ≤ m ∧ min m (fr / z) * z ≤ fr := vmax h.h.1 h.h.2 hf
    have hz : 1 ≤ z := h.h.1
    have hpw := pw_nn h.t (gr_isP h.t (fr := fr - min m (fr / z) * z) (by omega))
    have hfr' : fre ≤ fr - (min m (fr / z) * z + pw r (gr r (fr - min m (fr / z) * z))) := hfr
    have ih := mxA_gr (l := r) (fr := fr - min m (fr / z) * z) (fre := fre) h.t (by omega) (by omega)
    show (!(decide (min m (fr / z) < m) && decide (z ≤ fre)) && mxA r fre (gr r (fr - min m (fr / z) * z))) = true
    rw [ih]
    simp only [Bool.and_true, Bool.not_eq_true', Bool.and_eq_false_iff, decide_eq_false_iff_not]
    by_cases hm : min m (fr / z) < m
    · have e : min m (fr / z) = fr / z := by omega
      rw [e] at hfr' hpw
      have h3 := Int.lt_ediv_add_one_mul_self fr (show 0 < z by omega)
      rw [Int.add_mul] at h3
      right; omega
    · left; exact hm
theorem mx_gr {l : zL} {fr : Int} (h : zOK l) (hf : 0 ≤ fr) : mx l fr (gr l fr) = true := mxA_gr h hf (Int.le_refl _)
/-! how many patterns there are -/
theorem ptV_len {F : Int → List (List Int)} {z fr : Int} {B : Nat} (h : ∀ fr, (F fr).length ≤ B) : ∀ v : Nat, (ptV F z fr v).length ≤ (v + 1) * B
  | 0 => by
    unfold ptV
    rw [List.length_map]
    have := h fr
    omega
  | v + 1 => by
    have h1 := h (fr - ((v + 1 : Nat) : Int) * z)
    have h2 := ptV_len (z := z) (fr := fr) h v
    unfold ptV
    rw [List.length_append, List.length_map, Nat.add_mul (v + 1) 1 B]
    omega
def sumM : zL → Nat
  | [] => 0
  | x :: r => x.2.toNat + sumM r
theorem tabM : ∀ m : Nat, m ≤ 24 → (m + 1) * (5 ^ m * 1296) ≤ 3125 * 6 ^ m := by
  have : ∀ m : Fin 25, (m.1 + 1) * (5 ^ m.1 * 1296) ≤ 3125 * 6 ^ m.1 := by decide
  exact fun m h => this ⟨m, by omega⟩
theorem tabB : ∀ n S : Nat, n ≤ 6 → S ≤ 24 → 3125 ^ n * 6 ^ S < 100000 * (5 ^ S * 1296 ^ n) := by
  have : ∀ n : Fin 7, ∀ S : Fin 25, 3125 ^ n.1 * 6 ^ S.1 < 100000 * (5 ^ S.1 * 1296 ^ n.1) := by decide
  exact fun n S h h2 => this ⟨n, by omega⟩ ⟨S, by omega⟩
theorem lenB {m n S B : Nat} (hm : m ≤ 24) (h : B * (5 ^ S * 1296 ^ n) ≤ 3125 ^ n * 6 ^ S) : ((m + 1) * B) * (5 ^ (m + S) * 1296 ^ (n + 1)) ≤ 3125 ^ (n + 1) * 6 ^ (m + S) := by
  have h1 := Nat.mul_le_mul (tabM m hm) h
  have e1 : ((m + 1) * B) * (5 ^ (m + S) * 1296 ^ (n + 1)) = (m + 1) * (5 ^ m * 1296) * (B * (5 ^ S * 1296 ^ n)) := by
    rw [Nat.pow_add, Nat.pow_succ]; ac_rfl
  have e2 : 3125 ^ (n + 1) * 6 ^ (m + S) = 3125 * 6 ^ m * (3125 ^ n * 6 ^ S) := by
    rw [Nat.pow_add 6 m S, Nat.pow_succ]; ac_rfl
  rw [e1, e2]; exact h1
theorem patc_len : ∀ {l : zL}, zOK l → sumM l ≤ 24 → ∃ B, (∀ fr, (patc l fr).length ≤ B) ∧ B * (5 ^ sumM l * 1296 ^ l.length) ≤ 3125 ^ l.length * 6 ^ sumM l
  | [], _, _ => ⟨1, fun fr => Nat.le_refl _, by decide⟩
  | [(z, m)], h, hs => by
    have e : sumM [(z, m)] = m.toNat + 0 := rfl
    refine ⟨(m.toNat + 1) * 1, fun fr => ?_, ?_⟩
    · show 1 ≤ _; omega
    · rw [e] at hs ⊢
      exact lenB (n := 0) (S := 0) (by omega) (by decide)
  | (z, m) :: y :: r, h, hs => by
    have e : sumM ((z, m) :: y :: r) = m.toNat + sumM (y :: r) := rfl
    rw [e] at hs ⊢
    obtain ⟨B, h1, h2⟩ := patc_len (l := y :: r) h.t (by omega)
    refine ⟨(m.toNat + 1) * B, fun fr => ?_, ?_⟩
    · have h3 := ptV_len (z := z) (fr := fr) h1 (min m (fr / z)).toNat
      have h4 : ((min m (fr / z)).toNat + 1) * B ≤ (m.toNat + 1) * B := Nat.mul_le_mul_right _ (by omega)
      show (ptV (patc (y :: r)) z fr _).length ≤ _
      omega
    · rw [show ((z, m) :: y :: r).length = (y :: r).length + 1 from rfl]
      exact lenB (by omega) h2
theorem patc_lt {l : zL} {fr : Int} (h : zOK l) (hs : sumM l ≤ 24) (hn : l.length ≤ 6) : (patc l fr).length < 100000 := by
  obtain ⟨B, h1, h2⟩ := patc_len h hs
  have h3 := h1 fr
  have h4 := tabB l.length (sumM l) hn hs
  refine Decidable.byContradiction fun h5 => ?_
  have h6 : 100000 * (5 ^ sumM l * 1296 ^ l.length) ≤ B * (5 ^ sumM l * 1296 ^ l.length) := Nat.mul_le_mul_right _ (by omega)
  omega
