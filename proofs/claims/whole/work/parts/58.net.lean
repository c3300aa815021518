/-! the net, pure: numbers of ways on, the greatest sizes that can come on -/
def cn (l : zL) (f : Int) : Int := ((pats l f).length : Int)
/-- how many arcs go on -/
def arN (z m f : Int) : Nat := (min m (f / z)).toNat + 1
def mxF (g : Int → Int) : Nat → Int
  | 0 => 0
  | n + 1 => max (mxF g n) (g n)
def rc : zL → Int → Int
  | [], _ => 0
  | x :: r, f => mxF (fun n => n * x.1 + rc r (f - n * x.1)) (arN x.1 x.2 f)
theorem mxF_le {g : Int → Int} : ∀ {N : Nat} (n : Nat), n < N → g n ≤ mxF g N
  | 0, n, h => by omega
  | N + 1, n, h => by
    show g n ≤ max (mxF g N) (g N)
    by_cases e : n = N
    · subst e; omega
    · have := mxF_le (g := g) (N := N) n (by omega)
      omega
theorem mxF_ub {g : Int → Int} {B : Int} (hB : 0 ≤ B) : ∀ {N : Nat}, (∀ n : Nat, n < N → g n ≤ B) → mxF g N ≤ B
  | 0, _ => hB
  | N + 1, h => by
    have h1 := mxF_ub (g := g) hB (N := N) (fun n hn => h n (by omega))
    have h2 := h N (by omega)
    show max (mxF g N) (g N) ≤ B
    omega
theorem mxF_nn {g : Int → Int} : ∀ {N : Nat}, 0 ≤ mxF g N
  | 0 => Int.le_refl _
  | N + 1 => by
    have := mxF_nn (g := g) (N := N)
    show 0 ≤ max (mxF g N) (g N)
    omega
theorem mxF_at {g : Int → Int} (h0 : 0 ≤ g 0) : ∀ {N : Nat}, 1 ≤ N → ∃ n : Nat, n < N ∧ mxF g N = g n
  | 0, h => by omega
  | 1, _ => ⟨0, by omega, by show max 0 (g ((0 : Nat) : Int)) = g ((0 : Nat) : Int); have : 0 ≤ g ((0 : Nat) : Int) := h0; omega⟩
  | N + 2, _ => by
    obtain ⟨n, h1, h2⟩ := mxF_at (g := g) h0 (N := N + 1) (by omega)
    by_cases e : mxF g (N + 1) ≤ g ((N + 1 : Nat) : Int)
    · exact ⟨N + 1, by omega, by show max (mxF g (N + 1)) (g ((N + 1 : Nat) : Int)) = _; omega⟩
    · exact ⟨n, by omega, by rw [← h2]; show max (mxF g (N + 1)) (g ((N + 1 : Nat) : Int)) = _; omega⟩
theorem mxF_congr {g g' : Int → Int} : ∀ {N : Nat}, (∀ n : Nat, n < N → g n = g' n) → mxF g N = mxF g' N
  | 0, _ => rfl
  | N + 1, h => by
    show max (mxF g N) (g N) = max (mxF g' N) (g' N)
    rw [mxF_congr (N := N) (fun n hn => h n (by omega)), h N (by omega)]
theorem arN_iff {z m f : Int} (hz : 1 ≤ z) (hm : 0 ≤ m) (hf : 0 ≤ f) {n : Nat} : n < arN z m f ↔ (n : Int) ≤ m ∧ n * z ≤ f := by
  have h1 := dvc hf hz
  have h2 : (n : Int) ≤ f / z ↔ n * z ≤ f := Int.le_ediv_iff_mul_le (by omega)
  unfold arN
  omega
theorem arN_0 {z f : Int} (hf : 0 ≤ f) (hz : 1 ≤ z) : arN z 0 f = 1 := by
  have := dvc hf hz
  unfold arN; omega
theorem arN_eq {z m f f' : Int} (hz : 1 ≤ z) (hm : 0 ≤ m) (hf : 0 ≤ f) (hf' : 0 ≤ f') (h : ∀ n : Nat, (n : Int) ≤ m → (n * z ≤ f ↔ n * z ≤ f')) : arN z m f = arN z m f' := by
  have key : ∀ n : Nat, n < arN z m f ↔ n < arN z m f' := fun n => by
    rw [arN_iff hz hm hf, arN_iff hz hm hf']
    constructor
    · exact fun ⟨a, b⟩ => ⟨a, (h n a).mp b⟩
    · exact fun ⟨a, b⟩ => ⟨a, (h n a).mpr b⟩
  have h1 := key (arN z m f)
  have h2 := key (arN z m f')
  omega
theorem rc_bd : ∀ {l : zL} {f : Int}, zOK l → 0 ≤ f → 0 ≤ rc l f ∧ rc l f ≤ f
  | [], f, _, h => ⟨Int.le_refl _, h⟩
  | x :: r, f, hz, hf => by
    refine ⟨mxF_nn, mxF_ub hf (fun n hn => ?_)⟩
    rw [arN_iff hz.h.1 hz.h.2 hf] at hn
    have := (rc_bd (l := r) (f := f - n * x.1) hz.t (by omega)).2
    omega
theorem rc_ge {x : Int × Int} {r : zL} {f : Int} (hz : zOK (x :: r)) (hf : 0 ≤ f) {n : Nat} (h1 : (n : Int) ≤ x.2) (h2 : n * x.1 ≤ f) : n * x.1 + rc r (f - n * x.1) ≤ rc (x :: r) f :=
  mxF_le (g := fun n => n * x.1 + rc r (f - n * x.1)) n ((arN_iff hz.h.1 hz.h.2 hf).mpr ⟨h1, h2⟩)
theorem rc_at {x : Int × Int} {r : zL} {f : Int} (hz : zOK (x :: r)) (hf : 0 ≤ f) : ∃ n : Nat, (n : Int) ≤ x.2 ∧ n * x.1 ≤ f ∧ rc (x :: r) f = n * x.1 + rc r (f - n * x.1) := by
  have h0 := rc_bd (l := r) (f := f - 0 * x.1) hz.t (by omega)
  obtain ⟨n, h1, h2⟩ := mxF_at (g := fun n => n * x.1 + rc r (f - n * x.1)) (N := arN x.1 x.2 f) (by show 0 ≤ 0 * x.1 + rc r (f - 0 * x.1); omega) (by unfold arN; omega)
  rw [arN_iff hz.h.1 hz.h.2 hf] at h1
  exact ⟨n, h1.1, h1.2, h2⟩
theorem rc_mono : ∀ {l : zL} {f f' : Int}, zOK l → 0 ≤ f → f ≤ f' → rc l f ≤ rc l f'
  | [], _, _, _, _, _ => Int.le_refl _
  | x :: r, f, f', hz, hf, h => by
    obtain ⟨n, h1, h2, h3⟩ := rc_at (f := f) hz hf
    have h4 := rc_ge (f := f') hz (by omega) h1 (by omega)
    have h5 := rc_mono (l := r) (f := f - n * x.1) (f' := f' - n * x.1) hz.t (by omega) (by omega)
    omega
theorem rc_idem : ∀ {l : zL} {g g' : Int}, zOK l → 0 ≤ g → g ≤ g' → rc l g' ≤ g → rc l g = rc l g'
  | [], _, _, _, _, _, _ => rfl
  | x :: r, g, g', hz, hg, h, h1 => by
    obtain ⟨n, h2, h3, h4⟩ := rc_at (f := g') hz (by omega)
    have h5 := rc_bd (l := r) (f := g' - n * x.1) hz.t (by omega)
    have h6 := rc_idem (l := r) (g := g - n * x.1) (g' := g' - n * x.1) hz.t (by omega) (by omega) (by omega)
    have h7 := rc_ge (f := g) hz hg h2 (by omega)
    have h8 := rc_mono hz hg h
    omega
/-- places that are as high go on alike -/
theorem rc_arc {x : Int × Int} {r : zL} {f f' : Int} (hz : zOK (x :: r)) (hf : 0 ≤ f) (h : f ≤ f') (he : rc (x :: r) f = rc (x :: r) f') : arN x.1 x.2 f = arN x.1 x.2 f' ∧ ∀ n : Nat, n < arN x.1 x.2 f' → n * x.1 ≤ f ∧ rc r (f - n * x.1) = rc r (f' - n * x.1) := by
  have hb := rc_bd (f := f) hz hf
  have key : ∀ n : Nat, (n : Int) ≤ x.2 → n * x.1 ≤ f' → n * x.1 ≤ f ∧ rc r (f - n * x.1) = rc r (f' - n * x.1) := fun n h1 h2 => by
    have h3 := rc_ge (f := f') hz (by omega) h1 h2
    have h4 := rc_bd (l := r) (f := f' - n * x.1) hz.t (by omega)
    have h5 : n * x.1 ≤ f := by omega
    exact ⟨h5, rc_idem hz.t (by omega) (by omega) (by omega)⟩
  refine ⟨arN_eq hz.h.1 hz.h.2 hf (by omega) (fun n hn => ⟨fun a => by omega, fun a => (key n hn a).1⟩), fun n hn => ?_⟩
  rw [arN_iff hz.h.1 hz.h.2 (by omega)] at hn
  exact key n hn.1 hn.2
theorem ptV_lenE {F : Int → List (List Int)} {z fr : Int} : ∀ v : Nat, ((ptV F z fr v).length : Int) = sg (fun n => ((F (fr - n * z)).length : Int)) (v + 1)
  | 0 => by
    unfold ptV
    rw [List.length_map]
    show ((F fr).length : Int) = 0 + ((F (fr - ((0 : Nat) : Int) * z)).length : Int)
    rw [show fr - ((0 : Nat) : Int) * z = fr by simp]; omega
  | v + 1 => by
    have ih := ptV_lenE (F := F) (z := z) (fr := fr) v
    unfold ptV
    rw [List.length_append, List.length_map]
    show _ = sg (fun n => ((F (fr - n * z)).length : Int)) (v + 1) + ((F (fr - ((v + 1 : Nat) : Int) * z)).length : Int)
    omega
theorem cn_cons {x : Int × Int} {r : zL} {f : Int} : cn (x :: r) f = sg (fun n => cn r (f - n * x.1)) (arN x.1 x.2 f) := ptV_lenE _
theorem cn_pos {l : zL} {f : Int} (hz : zOK l) (hf : 0 ≤ f) : 1 ≤ cn l f := by
  have := (pats_ch hz hf).2
  unfold cn
  cases h : pats l f with
  | nil => rw [h] at this; cases this
  | cons a t => simp; omega
theorem cn_eq : ∀ {l : zL} {f f' : Int}, zOK l → 0 ≤ f → f ≤ f' → rc l f = rc l f' → cn l f = cn l f'
  | [], _, _, _, _, _, _ => rfl
  | x :: r, f, f', hz, hf, h, he => by
    obtain ⟨h1, h2⟩ := rc_arc hz hf h he
    rw [cn_cons, cn_cons, h1]
    refine sg_congr (fun n hn => ?_)
    have := h2 n hn
    exact cn_eq hz.t (by omega) (by omega) this.2
theorem cn_rc {l : zL} {f : Int} (hz : zOK l) (hf : 0 ≤ f) : cn l (rc l f) = cn l f := by
  have h := rc_bd hz hf
  exact cn_eq hz h.1 h.2 (rc_idem hz h.1 h.2 (Int.le_refl _))
/-! the layers: the sorts of which there are any, in the order -/
def lyL (od mn : Int → Int) : Nat → Nat → List Int
  | 0, _ => []
  | r + 1, i => if 0 < mn (od i) then od i :: lyL od mn r (i + 1) else lyL od mn r (i + 1)
def nzL (sz mn : Int → Int) (L : List Int) : zL := L.map (fun s => (sz s, mn s))
theorem ly_cn {sz mn od : Int → Int} : ∀ {r i : Nat} {f : Int}, (∀ j : Nat, i ≤ j → j < i + r → 0 ≤ mn (od j) ∧ 1 ≤ sz (od j)) → 0 ≤ f → cn (nzL sz mn (lyL od mn r i)) f = cn (lst (zmF (fun j => sz (od j)) (fun j => mn (od j))) r i) f ∧ rc (nzL sz mn (lyL od mn r i)) f = rc (lst (zmF (fun j => sz (od j)) (fun j => mn (od j))) r i) f
  | 0, _, _, _, _ => ⟨rfl, rfl⟩
  | r + 1, i, f, h, hf => by
    have hi := h i (by omega) (by omega)
    have ih := fun f (hf : 0 ≤ f) => ly_cn (sz := sz) (mn := mn) (od := od) (r := r) (i := i + 1) (f := f) (fun j h1 h2 => h j (by omega) (by omega)) hf
    have e : lst (zmF (fun j => sz (od j)) (fun j => mn (od j))) (r + 1) i = (sz (od i), mn (od i)) :: lst (zmF (fun j => sz (od j)) (fun j => mn (od j))) r (i + 1) := rfl
    rw [e]
    by_cases h0 : 0 < mn (od i)
    · have e2 : lyL od mn (r + 1) i = od i :: lyL od mn r (i + 1) := if_pos h0
      have e3 : nzL sz mn (od i :: lyL od mn r (i + 1)) = (sz (od i), mn (od i)) :: nzL sz mn (lyL od mn r (i + 1)) := rfl
      rw [e2, e3, cn_cons, cn_cons]
      refine ⟨sg_congr (fun n hn => ?_), mxF_congr (fun n hn => ?_)⟩
      · have hn' : n < arN (sz (od i)) (mn (od i)) f := hn
        rw [arN_iff hi.2 hi.1 hf] at hn'
        exact (ih _ (by show 0 ≤ f - (n : Int) * sz (od i); omega)).1
      · have hn' : n < arN (sz (od i)) (mn (od i)) f := hn
        rw [arN_iff hi.2 hi.1 hf] at hn'
        show (n : Int) * sz (od i) + _ = (n : Int) * sz (od i) + _
        rw [(ih _ (by show 0 ≤ f - (n : Int) * sz (od i); omega)).2]
    · have e2 : lyL od mn (r + 1) i = lyL od mn r (i + 1) := if_neg h0
      have hm : mn (od i) = 0 := by omega
      have ih0 := ih f hf
      rw [e2, ih0.1, ih0.2, hm, cn_cons]
      have ea : arN (sz (od i)) 0 f = 1 := arN_0 hf hi.2
      constructor
      · show _ = sg (fun n => cn _ (f - n * sz (od i))) (arN (sz (od i)) 0 f)
        rw [ea]
        show _ = 0 + cn _ (f - ((0 : Nat) : Int) * sz (od i))
        rw [show f - ((0 : Nat) : Int) * sz (od i) = f by simp]; omega
      · show _ = mxF (fun n => n * sz (od i) + rc _ (f - n * sz (od i))) (arN (sz (od i)) 0 f)
        rw [ea]
        show _ = max 0 (((0 : Nat) : Int) * sz (od i) + rc _ (f - ((0 : Nat) : Int) * sz (od i)))
        rw [show ((0 : Nat) : Int) * sz (od i) = 0 by simp, show f - 0 = f by omega]
        have := (rc_bd (l := lst (zmF (fun j => sz (od j)) (fun j => mn (od j))) r (i + 1)) (f := f) (lst_zOK (fun j h1 h2 => ⟨(h j (by omega) (by omega)).2, (h j (by omega) (by omega)).1⟩)) hf).1
        omega
theorem lyL_len {od mn : Int → Int} : ∀ {r i : Nat}, (lyL od mn r i).length ≤ r
  | 0, _ => Nat.le_refl _
  | r + 1, i => by
    have := lyL_len (od := od) (mn := mn) (r := r) (i := i + 1)
    unfold lyL
    split
    · simp; omega
    · omega
theorem lyL_mem {od mn : Int → Int} {s : Int} : ∀ {r i : Nat}, s ∈ lyL od mn r i → ∃ j : Nat, i ≤ j ∧ j < i + r ∧ s = od j ∧ 0 < mn (od j)
  | 0, _, h => by cases h
  | r + 1, i, h => by
    unfold lyL at h
    split at h
    · rename_i h0
      rcases List.mem_cons.mp h with e | h
      · exact ⟨i, by omega, by omega, e, h0⟩
      · obtain ⟨j, a, b, c, d⟩ := lyL_mem h
        exact ⟨j, by omega, by omega, c, d⟩
    · obtain ⟨j, a, b, c, d⟩ := lyL_mem h
      exact ⟨j, by omega, by omega, c, d⟩
