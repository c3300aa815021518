/-! patterns counted, and gone to -/
theorem dw_cons {P : List Int → Bool} : ∀ {B : List (List Int)} {b : List Int} {B' : List (List Int)}, B.dropWhile (fun q => !P q) = b :: B' → (∃ A, B = A ++ b :: B') ∧ P b = true ∧ ∀ R : List Int → Bool, B.filter (fun q => P q && R q) = (b :: B').filter (fun q => P q && R q)
  | [], b, B', h => by cases h
  | x :: B, b, B', h => by
    rw [List.dropWhile_cons] at h
    cases hx : P x with
    | true =>
      rw [hx] at h
      have h' : x :: B = b :: B' := h
      injection h' with h1 h2
      subst h1; subst h2
      exact ⟨⟨[], rfl⟩, hx, fun R => rfl⟩
    | false =>
      rw [hx] at h
      have h' : B.dropWhile (fun q => !P q) = b :: B' := h
      obtain ⟨⟨A, hA⟩, h2, h3⟩ := dw_cons h'
      exact ⟨⟨x :: A, by rw [hA]; rfl⟩, h2, fun R => by rw [List.filter_cons_of_neg (by simp [hx])]; exact h3 R⟩
theorem dw_nil {P : List Int → Bool} : ∀ {B : List (List Int)}, B.dropWhile (fun q => !P q) = [] → ∀ R : List Int → Bool, B.filter (fun q => P q && R q) = []
  | [], _, R => rfl
  | x :: B, h, R => by
    rw [List.dropWhile_cons] at h
    cases hx : P x with
    | true => rw [hx] at h; cases h
    | false =>
      rw [hx] at h
      have h' : B.dropWhile (fun q => !P q) = [] := h
      rw [List.filter_cons_of_neg (by simp [hx])]; exact dw_nil h' R
theorem Ch_suf {f : List Int → Option (List Int)} : ∀ {A : List (List Int)} {p b : List Int} {B' : List (List Int)}, Ch f (p :: (A ++ b :: B')) → Ch f (b :: B')
  | [], _, _, _, h => h.2
  | _ :: _, _, _, _, h => Ch_suf h.2
theorem patc_isP : ∀ {l : zL} {fr : Int}, zOK l → 0 ≤ fr → ∀ q, q ∈ patc l fr → isP l fr q
  | [], fr, _, hf, q, hq => by
    have e : q = [] := List.mem_singleton.mp hq
    subst e; exact hf
  | [(z, m)], fr, h, hf, q, hq => by
    have h1 : 0 ≤ min m (fr / z) ∧ min m (fr / z) ≤ m ∧ min m (fr / z) * z ≤ fr := vmax h.h.1 h.h.2 hf
    have e : q = [min m (fr / z)] := List.mem_singleton.mp hq
    subst e
    exact ⟨h1.1, h1.2.1, h1.2.2, by show (0 : Int) ≤ _; omega⟩
  | (z, m) :: y :: r, fr, h, hf, q, hq => by
    have h1 : 0 ≤ min m (fr / z) ∧ min m (fr / z) ≤ m ∧ min m (fr / z) * z ≤ fr := vmax h.h.1 h.h.2 hf
    have hz : 1 ≤ z := h.h.1
    have hq' : q ∈ ptV (patc (y :: r)) z fr (min m (fr / z)).toNat := hq
    rw [ptV_mem] at hq'
    obtain ⟨w, q', hw, hq2, rfl⟩ := hq'
    have hw2 : (w : Int) ≤ min m (fr / z) := by omega
    have hw3 : (w : Int) * z ≤ min m (fr / z) * z := Int.mul_le_mul_of_nonneg_right hw2 (by omega)
    exact ⟨by omega, by omega, by omega, patc_isP h.t (by omega) q' hq2⟩
theorem ptR_eq {c : Int} {K : Nat} {sz mn od f g : Int → Int} {p : List Int} (hG : GLok c K sz mn od) (h : ptR K od p f) (h' : ptR K od p g) : ∀ s : Nat, s < 6 → f s = g s := fun s hs => by
  by_cases e : s < K
  · exact hG.on (P := fun s => f s = g s) (fun j hj => lst_inj (f := fun j => f (od j)) (g := fun j => g (od j)) (h.1.trans h'.1.symm) j (by omega) (by omega)) s e
  · rw [h.2 s (by omega) hs, h'.2 s (by omega) hs]
theorem sumM_lst {zz mm : Int → Int} : ∀ {r i : Nat}, (∀ j : Nat, i ≤ j → j < i + r → 0 ≤ mm j) → (sumM (lst (zmF zz mm) r i) : Int) = sg mm (i + r) - sg mm i
  | 0, i, _ => by show (0 : Int) = _; rw [show i + 0 = i by omega]; omega
  | r + 1, i, h => by
    have ih := sumM_lst (zz := zz) (mm := mm) (r := r) (i := i + 1) (fun j h1 h2 => h j (by omega) (by omega))
    have h1 := h i (by omega) (by omega)
    show (((mm i).toNat + sumM (lst (zmF zz mm) r (i + 1)) : Nat) : Int) = _
    rw [show i + 1 + r = i + (r + 1) by omega, show sg mm (i + 1) = sg mm i + mm i from rfl] at ih
    rw [Int.natCast_add, ih]
    omega
theorem GLok.sm {c : Int} {K : Nat} {sz mn od : Int → Int} (h : GLok c K sz mn od) : sumM (zl K sz mn od) ≤ 24 := by
  have h1 := sumM_lst (zz := fun j => sz (od j)) (mm := fun j => mn (od j)) (r := K) (i := 0) (fun j h1 h2 => h.m (by omega))
  rw [show 0 + K = K by omega, h.2.2.2.2.2.2.2.2 mn, show sg (fun j => mn (od j)) 0 = 0 from rfl] at h1
  have h2 := h.2.2.2.2.1
  have h3 : (sumM (zl K sz mn od) : Int) = sg mn K - 0 := h1
  omega
theorem GLok.len {c : Int} {K : Nat} {sz mn od : Int → Int} (h : GLok c K sz mn od) : (patc (zl K sz mn od) c).length < 100000 := patc_lt (h.zOK (by omega)) h.sm (by show (lst _ K 0).length ≤ 6; rw [lst_len]; exact h.2.1)
theorem pats_len : ∀ {l : zL}, zOK l → sumM l ≤ 24 → ∃ B, (∀ fr, (pats l fr).length ≤ B) ∧ B * (5 ^ sumM l * 1296 ^ l.length) ≤ 3125 ^ l.length * 6 ^ sumM l
  | [], _, _ => ⟨1, fun fr => Nat.le_refl _, by decide⟩
  | (z, m) :: r, h, hs => by
    have e : sumM ((z, m) :: r) = m.toNat + sumM r := rfl
    rw [e] at hs ⊢
    obtain ⟨B, h1, h2⟩ := pats_len (l := r) h.t (by omega)
    refine ⟨(m.toNat + 1) * B, fun fr => ?_, ?_⟩
    · have h3 := ptV_len (z := z) (fr := fr) h1 (min m (fr / z)).toNat
      have h4 : ((min m (fr / z)).toNat + 1) * B ≤ (m.toNat + 1) * B := Nat.mul_le_mul_right _ (by omega)
      show (ptV (pats r) z fr _).length ≤ _
      omega
    · rw [show ((z, m) :: r).length = r.length + 1 from rfl]
      exact lenB (by omega) h2
theorem pats_lt {l : zL} {fr : Int} (h : zOK l) (hs : sumM l ≤ 24) (hn : l.length ≤ 6) : (pats l fr).length < 100000 := by
  obtain ⟨B, h1, h2⟩ := pats_len h hs
  have h3 := h1 fr
  have h4 := tabB l.length (sumM l) hn hs
  refine Decidable.byContradiction fun h5 => ?_
  have h6 : 100000 * (5 ^ sumM l * 1296 ^ l.length) ≤ B * (5 ^ sumM l * 1296 ^ l.length) := Nat.mul_le_mul_right _ (by omega)
  omega
theorem GLok.plen {c : Int} {K : Nat} {sz mn od : Int → Int} (h : GLok c K sz mn od) : (pats (zl K sz mn od) c).length < 100000 := pats_lt (h.zOK (by omega)) h.sm (by show (lst _ K 0).length ≤ 6; rw [lst_len]; exact h.2.1)
/-- the class's list: its first, and what follows -/
theorem GLok.pc {c : Int} {K : Nat} {sz mn od : Int → Int} (h : GLok c K sz mn od) : ∃ B, patc (zl K sz mn od) c = gr (zl K sz mn od) c :: B ∧ Ch (nc (zl K sz mn od) c) (gr (zl K sz mn od) c :: B) ∧ (∀ q, q ∈ gr (zl K sz mn od) c :: B → isP (zl K sz mn od) c q) ∧ B.length < 100000 - 1 := by
  have h1 := patc_ch (l := zl K sz mn od) (fr := c) (h.zOK (by omega)) h.1.1
  have h2 := h.len
  cases hp : patc (zl K sz mn od) c with
  | nil => rw [hp] at h1; cases h1.2
  | cons a B =>
    rw [hp] at h1 h2
    have e : a = gr (zl K sz mn od) c := by have := h1.2; injection this
    subst e
    refine ⟨B, rfl, h1.1, fun q hq => ?_, by simp at h2; omega⟩
    exact patc_isP (h.zOK (r := K) (i := 0) (by omega)) h.1.1 q (by rw [show lst (zmF (fun j => sz (od j)) (fun j => mn (od j))) K 0 = zl K sz mn od from rfl, hp]; exact hq)
theorem GLok.ps {c : Int} {K : Nat} {sz mn od : Int → Int} (h : GLok c K sz mn od) : ∃ B, pats (zl K sz mn od) c = gr (zl K sz mn od) c :: B ∧ Ch (nx (zl K sz mn od) c) (gr (zl K sz mn od) c :: B) ∧ (∀ q, q ∈ gr (zl K sz mn od) c :: B → isP (zl K sz mn od) c q) ∧ B.length < 100000 - 1 := by
  have h1 := pats_ch (l := zl K sz mn od) (fr := c) (h.zOK (by omega)) h.1.1
  have h2 := h.plen
  cases hp : pats (zl K sz mn od) c with
  | nil => rw [hp] at h1; cases h1.2
  | cons a B =>
    rw [hp] at h1 h2
    have e : a = gr (zl K sz mn od) c := by have := h1.2; injection this
    subst e
    refine ⟨B, rfl, h1.1, fun q hq => ?_, by simp at h2; omega⟩
    exact (pats_mem (h.zOK (r := K) (i := 0) (by omega)) h.1.1).mp (by rw [show lst (zmF (fun j => sz (od j)) (fun j => mn (od j))) K 0 = zl K sz mn od from rfl, hp]; exact hq)
