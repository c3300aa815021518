/-! the tree, pure: its bounds, and the order of its branches -/
def tOK (st : tS) : Prop := (0 ≤ st.1 ∧ st.1 ≤ 24) ∧ (0 ≤ st.2.1 ∧ st.2.1 ≤ 60) ∧ (0 ≤ st.2.2.1 ∧ st.2.2.1 ≤ st.2.1) ∧ (0 ≤ st.2.2.2.1 ∧ st.2.2.2.1 ≤ st.2.1) ∧ (0 ≤ st.2.2.2.2.1 ∧ st.2.2.2.2.1 ≤ 24) ∧ (st.2.2.2.2.2.1 = 0 ∨ st.2.2.2.2.2.1 = 1)
theorem brT_ok {f : List Int → tS → tS} (hf : ∀ p st, tOK st → st.2.2.2.2.2.1 = 0 → tOK (f p st) ∧ (f p st).1 ≤ st.1 ∧ st.2.1 ≤ (f p st).2.1) : ∀ ps st, tOK st → st.2.2.2.2.2.1 = 0 → tOK (brT f ps st) ∧ (brT f ps st).1 ≤ st.1 ∧ st.2.1 ≤ (brT f ps st).2.1
  | [], st, h, _ => ⟨h, Int.le_refl _, Int.le_refl _⟩
  | p :: ps, st, h, h0 => by
    have h1 := hf p st h h0
    unfold brT
    split
    · rename_i hc
      have h2 := brT_ok hf ps (f p st) h1.1 hc
      exact ⟨h2.1, by omega, by omega⟩
    · exact h1
theorem meetT_ok {c : Int} {K : Nat} {sz od : Int → Int} : ∀ (n dep : Nat) (lf path : Int → Int) (st : tS), dep + n ≤ 24 → tOK st → st.2.2.2.2.2.1 = 0 → tOK (meetT c K sz od n dep lf path st) ∧ (meetT c K sz od n dep lf path st).1 ≤ st.1 ∧ st.2.1 ≤ (meetT c K sz od n dep lf path st).2.1 ∧ (1 ≤ n → (meetT c K sz od n dep lf path st).2.2.2.2.2.1 = 0 → st.2.1 + 1 ≤ (meetT c K sz od n dep lf path st).2.1)
  | 0, _, _, _, st, _, h, _ => ⟨h, Int.le_refl _, Int.le_refl _, fun z => by omega⟩
  | n + 1, dep, lf, path, st, hd, h, h0 => by
    obtain ⟨a1, a2, a3, a4, a5, a6⟩ := h
    unfold meetT
    split
    · exact ⟨⟨a1, a2, a3, a4, a5, Or.inr rfl⟩, Int.le_refl _, Int.le_refl _, fun _ z => by simp at z⟩
    · split
      · split
        · refine ⟨⟨⟨?_, ?_⟩, ⟨?_, ?_⟩, ⟨?_, ?_⟩, ⟨?_, ?_⟩, ⟨?_, ?_⟩, a6⟩, ?_, ?_, ?_⟩ <;> simp only [] <;> omega
        · refine ⟨⟨⟨?_, ?_⟩, ⟨?_, ?_⟩, ⟨?_, ?_⟩, ⟨?_, ?_⟩, ⟨?_, ?_⟩, a6⟩, ?_, ?_, ?_⟩ <;> simp only [] <;> omega
      · split
        · refine ⟨⟨⟨?_, ?_⟩, ⟨?_, ?_⟩, ⟨?_, ?_⟩, ⟨?_, ?_⟩, ⟨?_, ?_⟩, a6⟩, ?_, ?_, ?_⟩ <;> simp only [] <;> omega
        · have ho : tOK (st.1, st.2.1 + 1, st.2.2.1, st.2.2.2.1, max st.2.2.2.2.1 (dep : Int), st.2.2.2.2.2.1, st.2.2.2.2.2.2) := by
            refine ⟨⟨?_, ?_⟩, ⟨?_, ?_⟩, ⟨?_, ?_⟩, ⟨?_, ?_⟩, ⟨?_, ?_⟩, a6⟩ <;> simp only [] <;> omega
          have h2 := brT_ok (f := fun p st => meetT c K sz od n (dep + 1) (lfN od lf K p) (pthN od path K dep p) st) (fun p st h h0 => by
            have := meetT_ok (c := c) (K := K) (sz := sz) (od := od) n (dep + 1) (lfN od lf K p) (pthN od path K dep p) st (by omega) h h0
            exact ⟨this.1, this.2.1, this.2.2.1⟩) (brL c K sz od lf) _ ho h0
          have e1 : (st.1, st.2.1 + 1, st.2.2.1, st.2.2.2.1, max st.2.2.2.2.1 (dep : Int), st.2.2.2.2.2.1, st.2.2.2.2.2.2).2.1 = st.2.1 + 1 := rfl
          have e2 : (st.1, st.2.1 + 1, st.2.2.1, st.2.2.2.1, max st.2.2.2.2.1 (dep : Int), st.2.2.2.2.2.1, st.2.2.2.2.2.2).1 = st.1 := rfl
          rw [e1, e2] at h2
          exact ⟨h2.1, h2.2.1, by omega, fun _ _ => h2.2.2⟩
/-- once there is none of the first sort that is left, there is none behind -/
def dn (j : Nat) (p q : List Int) : Prop := p.getD j 0 ≤ 0 → q.getD j 0 ≤ 0
theorem pw_all {α : Type} {R : α → α → Prop} (h : ∀ a b, R a b) : ∀ l : List α, l.Pairwise R
  | [] => List.Pairwise.nil
  | a :: l => List.Pairwise.cons (fun b _ => h a b) (pw_all h l)
theorem ptV_dn {F : Int → List (List Int)} {z fr : Int} : ∀ v : Nat, (ptV F z fr v).Pairwise (dn 0)
  | 0 => by
    unfold ptV
    rw [List.pairwise_map]
    exact pw_all (fun a b _ => Int.le_refl _) _
  | v + 1 => by
    unfold ptV
    rw [List.pairwise_append, List.pairwise_map]
    refine ⟨pw_all (fun a b h => h) _, ptV_dn v, fun a ha b hb h => ?_⟩
    rw [List.mem_map] at ha
    obtain ⟨q, _, rfl⟩ := ha
    have h' : ((v + 1 : Nat) : Int) ≤ 0 := h
    omega
theorem pats_dn : ∀ {l : zL} {fr : Int} (j : Nat), zOK l → 0 ≤ fr → (∀ i : Nat, i < j → ∀ x, l[i]? = some x → x.2 = 0) → (pats l fr).Pairwise (dn j)
  | [], _, _, _, _, _ => List.pairwise_singleton _ _
  | (z, m) :: r, fr, 0, _, _, _ => ptV_dn _
  | (z, m) :: r, fr, j + 1, h, hf, h0 => by
    have hm : m = 0 := h0 0 (by omega) (z, m) rfl
    subst hm
    have hz : 1 ≤ z := h.h.1
    have e : (min 0 (fr / z)).toNat = 0 := by
      have := Int.ediv_nonneg hf (show 0 ≤ z by omega)
      omega
    show (ptV (pats r) z fr (min 0 (fr / z)).toNat).Pairwise _
    rw [e]
    unfold ptV
    rw [List.pairwise_map]
    exact pats_dn (l := r) (fr := fr) j h.t hf (fun i hi x hx => h0 (i + 1) (by omega) x hx)
theorem flF_spec {od lf : Int → Int} : ∀ {r i : Nat}, (∀ j : Nat, i ≤ j → j < i + r → 0 ≤ od j) → (flF od lf r i = -1 ∧ ∀ j : Nat, i ≤ j → j < i + r → lf (od j) ≤ 0) ∨ ∃ j : Nat, i ≤ j ∧ j < i + r ∧ flF od lf r i = od j ∧ 0 < lf (od j) ∧ ∀ t : Nat, i ≤ t → t < j → lf (od t) ≤ 0
  | 0, i, _ => Or.inl ⟨rfl, fun j h1 h2 => by omega⟩
  | r + 1, i, ho => by
    have e : flF od lf (r + 1) i = if 0 < lf (od i) then od i else flF od lf r (i + 1) := rfl
    by_cases h : 0 < lf (od i)
    · exact Or.inr ⟨i, by omega, by omega, by rw [e, if_pos h], h, fun t h1 h2 => by omega⟩
    · rw [e, if_neg h]
      rcases flF_spec (od := od) (lf := lf) (r := r) (i := i + 1) (fun j h1 h2 => ho j (by omega) (by omega)) with ⟨h1, h2⟩ | ⟨j, h1, h2, h3, h4, h5⟩
      · refine Or.inl ⟨h1, fun j h3 h4 => ?_⟩
        by_cases e : j = i
        · subst e; omega
        · exact h2 j (by omega) (by omega)
      · refine Or.inr ⟨j, by omega, by omega, h3, h4, fun t h6 h7 => ?_⟩
        by_cases e : t = i
        · subst e; omega
        · exact h5 t (by omega) h7
theorem lst_idx {α : Type} {f : Int → α} : ∀ {r i j : Nat}, j < r → (lst f r i)[j]? = some (f ((i + j : Nat) : Int))
  | 0, _, _, h => by omega
  | r + 1, i, 0, _ => rfl
  | r + 1, i, j + 1, h => by
    show (lst f r (i + 1))[j]? = _
    rw [lst_idx (by omega), show i + 1 + j = i + (j + 1) by omega]
/-- of the maximal patterns, those with some of the first sort come first -/
theorem mxs_dn {c : Int} {K : Nat} {sz lf od : Int → Int} (hG : GLok c K sz lf od) (hf : flF od lf K 0 ≠ -1) : (mxs (zl K sz lf od) c).Pairwise (fun p q => ¬ 0 < rwF od p K (flF od lf K 0) → ¬ 0 < rwF od q K (flF od lf K 0)) := by
  rcases flF_spec (od := od) (lf := lf) (r := K) (i := 0) (fun j h1 h2 => (hG.o (by omega)).1) with ⟨h1, _⟩ | ⟨j, h1, h2, h3, h4, h5⟩
  · exact (hf h1).elim
  · have hp := pats_dn (l := zl K sz lf od) (fr := c) j (hG.zOK (r := K) (i := 0) (by omega)) hG.1.1 (fun i hi x hx => by
      have e : (zl K sz lf od)[i]? = some (zmF (fun j => sz (od j)) (fun j => lf (od j)) ((0 + i : Nat) : Int)) := lst_idx (by omega)
      rw [e] at hx
      injection hx with hx
      subst hx
      have h6 := h5 i (by omega) hi
      have h7 := hG.m (i := i) (by omega)
      show lf (od ((0 + i : Nat) : Int)) = 0
      rw [show 0 + i = i by omega]; omega)
    unfold mxs
    refine (hp.filter _).imp (fun {p q} h => ?_)
    rw [h3, rwF_at hG.2.2.2.2.2.2.1 j (by omega), rwF_at hG.2.2.2.2.2.2.1 j (by omega)]
    unfold dn at h
    omega
theorem dn_nil {P : List Int → Bool} {p : List Int} {Y : List (List Int)} (h : (p :: Y).Pairwise (fun p q => P p = false → P q = false)) (hp : P p = false) : (p :: Y).filter P = [] := by
  rw [List.filter_eq_nil_iff]
  intro q hq
  rw [List.pairwise_cons] at h
  cases hq with
  | head => rw [hp]; decide
  | tail _ hq => rw [h.1 q hq hp]; decide
