/-! top up, pure: the first of the greatest -/
def dnF (g : Int → Int) (B : Int) : Nat → Nat
  | 0 => 0
  | n + 1 => if g ((n + 1 : Nat) : Int) < B then dnF g B n else n + 1
def tu : zL → Int → List Int
  | [], _ => []
  | x :: r, f => (dnF (fun n => n * x.1 + rc r (f - n * x.1)) (rc (x :: r) f) (arN x.1 x.2 f - 1) : Int) :: tu r (f - (dnF (fun n => n * x.1 + rc r (f - n * x.1)) (rc (x :: r) f) (arN x.1 x.2 f - 1) : Int) * x.1)
theorem dnF_le {g : Int → Int} {B : Int} : ∀ {n : Nat}, dnF g B n ≤ n
  | 0 => Nat.le_refl _
  | n + 1 => by
    have := dnF_le (g := g) (B := B) (n := n)
    unfold dnF
    split <;> omega
theorem dnF_at {g : Int → Int} {B : Int} : ∀ {n : Nat}, (∀ i : Nat, i ≤ n → g i ≤ B) → (∃ i : Nat, i ≤ n ∧ g i = B) → g (dnF g B n) = B
  | 0, _, ⟨i, h1, h2⟩ => by rw [show i = 0 by omega] at h2; exact h2
  | n + 1, hu, ⟨i, h1, h2⟩ => by
    unfold dnF
    split
    · refine dnF_at (fun j hj => hu j (by omega)) ⟨i, ?_, h2⟩
      by_cases e : i = n + 1
      · subst e; omega
      · omega
    · have := hu (n + 1) (by omega)
      omega
theorem pw_rc : ∀ {l : zL} {f : Int} {p : List Int}, zOK l → 0 ≤ f → isP l f p → pw l p ≤ rc l f
  | [], f, p, _, hf, _ => by cases p <;> exact Int.le_refl _
  | (z, m) :: r, f, [], _, _, h => h.elim
  | (z, m) :: r, f, v :: q, hz, hf, h => by
    obtain ⟨h1, h2, h3, h4⟩ := h
    obtain ⟨n, hn⟩ : ∃ n : Nat, v = n := ⟨v.toNat, by omega⟩
    subst hn
    have h5 := pw_rc (l := r) (f := f - n * z) (p := q) hz.t (by omega) h4
    have h6 := rc_ge (f := f) hz hf (n := n) h2 h3
    show (n : Int) * z + pw r q ≤ rc ((z, m) :: r) f
    have h7 : (n : Int) * z + rc r (f - n * z) ≤ rc ((z, m) :: r) f := h6
    omega
/-- p is the first of the greatest along L -/
def fst1 (l : zL) (L : List (List Int)) (p : List Int) : Prop := ∃ A B, L = A ++ p :: B ∧ (∀ a, a ∈ A → pw l a < pw l p) ∧ ∀ b, b ∈ B → pw l b ≤ pw l p
theorem ptV_ub {z m f : Int} {r : zL} (hz : zOK ((z, m) :: r)) {B : Int} : ∀ {v : Nat}, (∀ i : Nat, i ≤ v → (i : Int) * z ≤ f ∧ i * z + rc r (f - i * z) ≤ B) → ∀ b, b ∈ ptV (pats r) z f v → pw ((z, m) :: r) b ≤ B := by
  intro v h b hb
  obtain ⟨w, q, h1, h2, rfl⟩ := ptV_mem.mp hb
  have h3 := h w h1
  have hq := (pats_mem hz.t (by omega)).mp h2
  have h4 := pw_rc hz.t (by omega) hq
  show (w : Int) * z + pw r q ≤ B
  omega
theorem tu_ptV {z m f : Int} {r : zL} (hz : zOK ((z, m) :: r)) {B : Int} (ih : ∀ f', 0 ≤ f' → fst1 r (pats r f') (tu r f') ∧ pw r (tu r f') = rc r f') : ∀ {v : Nat}, (∀ i : Nat, i ≤ v → (i : Int) * z ≤ f ∧ i * z + rc r (f - i * z) ≤ B) → (∃ i : Nat, i ≤ v ∧ i * z + rc r (f - i * z) = B) →
    fst1 ((z, m) :: r) (ptV (pats r) z f v) ((dnF (fun n => n * z + rc r (f - n * z)) B v : Int) :: tu r (f - (dnF (fun n => n * z + rc r (f - n * z)) B v : Int) * z))
  | 0, hu, ⟨i, h1, h2⟩ => by
    rw [show i = 0 by omega] at h2
    have h0 := hu 0 (by omega)
    obtain ⟨⟨A, Bs, e1, e2, e3⟩, e4⟩ := ih (f - ((0 : Nat) : Int) * z) (by omega)
    refine ⟨A.map (fun q => (0 : Int) :: q), Bs.map (fun q => (0 : Int) :: q), ?_, fun a ha => ?_, fun b hb => ?_⟩
    · unfold ptV
      rw [show f = f - ((0 : Nat) : Int) * z by simp] at e1 ⊢
      rw [show f - ((0 : Nat) : Int) * z - ((0 : Nat) : Int) * z = f - ((0 : Nat) : Int) * z by simp] at e1
      rw [e1, List.map_append, List.map_cons]
      show _ = _ ++ (((0 : Nat) : Int) :: tu r (f - ((0 : Nat) : Int) * z - ((0 : Nat) : Int) * z)) :: _
      rw [show f - ((0 : Nat) : Int) * z - ((0 : Nat) : Int) * z = f - ((0 : Nat) : Int) * z by simp]
      rfl
    · rw [List.mem_map] at ha
      obtain ⟨q, hq, rfl⟩ := ha
      have := e2 q hq
      show 0 * z + pw r q < ((0 : Nat) : Int) * z + pw r (tu r (f - ((0 : Nat) : Int) * z))
      simp at this ⊢; omega
    · rw [List.mem_map] at hb
      obtain ⟨q, hq, rfl⟩ := hb
      have := e3 q hq
      show 0 * z + pw r q ≤ ((0 : Nat) : Int) * z + pw r (tu r (f - ((0 : Nat) : Int) * z))
      simp at this ⊢; omega
  | v + 1, hu, ⟨i, h1, h2⟩ => by
    have hv := hu (v + 1) (by omega)
    have ed : dnF (fun n => n * z + rc r (f - n * z)) B (v + 1) = if ((v + 1 : Nat) : Int) * z + rc r (f - ((v + 1 : Nat) : Int) * z) < B then dnF (fun n => n * z + rc r (f - n * z)) B v else v + 1 := rfl
    have ep : ptV (pats r) z f (v + 1) = (pats r (f - ((v + 1 : Nat) : Int) * z)).map (fun q => ((v + 1 : Nat) : Int) :: q) ++ ptV (pats r) z f v := rfl
    by_cases hlt : ((v + 1 : Nat) : Int) * z + rc r (f - ((v + 1 : Nat) : Int) * z) < B
    · rw [ed, if_pos hlt, ep]
      have hat : ∃ i : Nat, i ≤ v ∧ i * z + rc r (f - i * z) = B := ⟨i, by
        by_cases e : i = v + 1
        · subst e; omega
        · omega, h2⟩
      have hda := dnF_at (g := fun n => n * z + rc r (f - n * z)) (B := B) (n := v) (fun j hj => (hu j (by omega)).2) hat
      have hdl := dnF_le (g := fun n => n * z + rc r (f - n * z)) (B := B) (n := v)
      obtain ⟨A, Bs, e1, e2, e3⟩ := tu_ptV hz ih (v := v) (fun j hj => hu j (by omega)) hat
      generalize dnF (fun n => n * z + rc r (f - n * z)) B v = ns at *
      have hda' : (ns : Int) * z + rc r (f - ns * z) = B := hda
      have hpw : pw ((z, m) :: r) ((ns : Int) :: tu r (f - ns * z)) = B := by
        show (ns : Int) * z + pw r (tu r (f - ns * z)) = B
        rw [(ih _ (by have := (hu ns (by omega)).1; omega)).2]; exact hda'
      refine ⟨(pats r (f - ((v + 1 : Nat) : Int) * z)).map (fun q => ((v + 1 : Nat) : Int) :: q) ++ A, Bs, ?_, fun a ha => ?_, e3⟩
      · rw [e1, List.append_assoc]
      · rcases List.mem_append.mp ha with ha | ha
        · rw [List.mem_map] at ha
          obtain ⟨q, hq, rfl⟩ := ha
          have hq' := (pats_mem hz.t (by omega)).mp hq
          have h4 := pw_rc hz.t (by omega) hq'
          rw [hpw]
          show ((v + 1 : Nat) : Int) * z + pw r q < B
          omega
        · exact e2 a ha
    · have heq : ((v + 1 : Nat) : Int) * z + rc r (f - ((v + 1 : Nat) : Int) * z) = B := by omega
      rw [ed, if_neg hlt, ep]
      obtain ⟨⟨A, Bs, e1, e2, e3⟩, e4⟩ := ih (f - ((v + 1 : Nat) : Int) * z) (by omega)
      have hpw : pw ((z, m) :: r) (((v + 1 : Nat) : Int) :: tu r (f - ((v + 1 : Nat) : Int) * z)) = B := by
        show ((v + 1 : Nat) : Int) * z + pw r (tu r (f - ((v + 1 : Nat) : Int) * z)) = B
        rw [e4]; exact heq
      refine ⟨A.map (fun q => ((v + 1 : Nat) : Int) :: q), Bs.map (fun q => ((v + 1 : Nat) : Int) :: q) ++ ptV (pats r) z f v, ?_, fun a ha => ?_, fun b hb => ?_⟩
      · rw [e1, List.map_append, List.map_cons, List.append_assoc]; rfl
      · rw [List.mem_map] at ha
        obtain ⟨q, hq, rfl⟩ := ha
        have := e2 q hq
        show ((v + 1 : Nat) : Int) * z + pw r q < ((v + 1 : Nat) : Int) * z + pw r (tu r (f - ((v + 1 : Nat) : Int) * z))
        omega
      · rcases List.mem_append.mp hb with hb | hb
        · rw [List.mem_map] at hb
          obtain ⟨q, hq, rfl⟩ := hb
          have := e3 q hq
          show ((v + 1 : Nat) : Int) * z + pw r q ≤ ((v + 1 : Nat) : Int) * z + pw r (tu r (f - ((v + 1 : Nat) : Int) * z))
          omega
        · rw [hpw]
          exact ptV_ub hz (fun j hj => hu j (by omega)) b hb
theorem tu_spec : ∀ {l : zL} {f : Int}, zOK l → 0 ≤ f → fst1 l (pats l f) (tu l f) ∧ pw l (tu l f) = rc l f
  | [], f, _, _ => ⟨⟨[], [], rfl, (fun a h => nomatch h), (fun b h => nomatch h)⟩, rfl⟩
  | (z, m) :: r, f, hz, hf => by
    have ih : ∀ f', 0 ≤ f' → fst1 r (pats r f') (tu r f') ∧ pw r (tu r f') = rc r f' := fun f' hf' => tu_spec hz.t hf'
    have hu : ∀ i : Nat, i ≤ arN z m f - 1 → (i : Int) * z ≤ f ∧ i * z + rc r (f - i * z) ≤ rc ((z, m) :: r) f := fun i hi => by
      have h1 := (arN_iff hz.h.1 hz.h.2 hf (n := i)).mp (by show i < arN z m f; unfold arN at hi ⊢; omega)
      exact ⟨h1.2, rc_ge hz hf h1.1 h1.2⟩
    have hat : ∃ i : Nat, i ≤ arN z m f - 1 ∧ i * z + rc r (f - i * z) = rc ((z, m) :: r) f := by
      obtain ⟨n, h1, h2, h3⟩ := rc_at (f := f) hz hf
      have h4 := (arN_iff hz.h.1 hz.h.2 hf (n := n)).mpr ⟨h1, h2⟩
      exact ⟨n, by have : n < arN z m f := h4; omega, h3.symm⟩
    have h := tu_ptV hz ih hu hat
    have hda := dnF_at (g := fun n => n * z + rc r (f - n * z)) (fun j hj => (hu j hj).2) hat
    have hdl := dnF_le (g := fun n => n * z + rc r (f - n * z)) (B := rc ((z, m) :: r) f) (n := arN z m f - 1)
    refine ⟨h, ?_⟩
    show (dnF (fun n => n * z + rc r (f - n * z)) (rc ((z, m) :: r) f) (arN z m f - 1) : Int) * z + pw r (tu r (f - (dnF (fun n => n * z + rc r (f - n * z)) (rc ((z, m) :: r) f) (arN z m f - 1) : Int) * z)) = _
    rw [(ih _ (by have := (hu _ hdl).1; omega)).2]
    exact hda
theorem tu_isP {l : zL} {f : Int} (hz : zOK l) (hf : 0 ≤ f) : isP l f (tu l f) := by
  obtain ⟨A, B, e, _, _⟩ := (tu_spec hz hf).1
  exact (pats_mem hz hf).mp (by rw [e]; exact List.mem_append_right _ List.mem_cons_self)
/-- the model's walk: the greatest so far, and the pattern -/
def tpF (l : zL) : List (List Int) → Int → List Int → Int × List Int
  | [], t, b => (t, b)
  | q :: D, t, b => if pw l q ≤ t then tpF l D t b else tpF l D (pw l q) q
theorem tpF_low {l : zL} {p : List Int} {T : List (List Int)} : ∀ {A : List (List Int)} {t : Int} {b : List Int}, (∀ a, a ∈ A → pw l a < pw l p) → t < pw l p → tpF l (A ++ p :: T) t b = tpF l T (pw l p) p
  | [], t, b, _, ht => if_neg (by omega)
  | a :: A, t, b, hA, ht => by
    have h1 := hA a List.mem_cons_self
    show (if pw l a ≤ t then tpF l (A ++ p :: T) t b else tpF l (A ++ p :: T) (pw l a) a) = _
    split
    · exact tpF_low (fun x hx => hA x (List.mem_cons_of_mem _ hx)) ht
    · exact tpF_low (fun x hx => hA x (List.mem_cons_of_mem _ hx)) h1
theorem tpF_end {l : zL} {t : Int} {b : List Int} : ∀ {T : List (List Int)}, (∀ x, x ∈ T → pw l x ≤ t) → tpF l T t b = (t, b)
  | [], _ => rfl
  | x :: T, h => by
    show (if pw l x ≤ t then tpF l T t b else _) = _
    rw [if_pos (h x List.mem_cons_self)]
    exact tpF_end (fun y hy => h y (List.mem_cons_of_mem _ hy))
theorem tpF_tu {l : zL} {f : Int} {b : List Int} (hz : zOK l) (hf : 0 ≤ f) : tpF l (pats l f) (-1) b = (rc l f, tu l f) := by
  obtain ⟨⟨A, B, e, h1, h2⟩, h3⟩ := tu_spec hz hf
  have h4 := (rc_bd hz hf).1
  rw [e, tpF_low h1 (by omega), tpF_end (by exact h2), h3]
