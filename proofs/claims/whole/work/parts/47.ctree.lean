/-! the class's tree -/
def frT (dep : Nat) (M M' : mM) : Prop := ∀ n, n ≠ 32 → n ≠ 33 → ¬ (39 + (dep : Int) < n ∧ n < 64) → ¬ (65 + (dep : Int) ≤ n ∧ n < 90) → M' n = M n
theorem frT.tr {dep : Nat} {M M' M'' : mM} (h : frT dep M M') (h' : frT dep M' M'') : frT dep M M'' := fun n a b c d => (h' n a b c d).trans (h n a b c d)
theorem frT.w {dep : Nat} {M M' : mM} (h : frT (dep + 1) M M') : frT dep M M' := fun n a b c d => h n a b (by omega) (by omega)
theorem boundF_cg {c : Int} {K : Nat} {sz mn mn' : Int → Int} (h : ∀ j : Nat, j < K → mn j = mn' j) : boundF c K sz mn = boundF c K sz mn' := by
  have e1 : wtF K sz mn = wtF K sz mn' := sg_congr (fun j hj => by show sz j * mn j = sz j * mn' j; rw [h j hj])
  have e2 : splitF c K sz mn = splitF c K sz mn' := funext fun a => by
    unfold splitF
    rw [sg_congr (f := sB c a sz mn) (g := sB c a sz mn') (fun j hj => by unfold sB; rw [h j hj]), sg_congr (f := sO c a sz mn) (g := sO c a sz mn') (fun j hj => by unfold sO; rw [h j hj])]
  have e3 : stepF c K sz mn = stepF c K sz mn' := funext fun a => by
    unfold stepF
    rw [sg_congr (f := stF c a sz mn) (g := stF c a sz mn') (fun j hj => by unfold stF; rw [h j hj])]
  unfold boundF areaF tSp tSt
  rw [e1, e2, e3]
theorem flF_cg {od f g : Int → Int} : ∀ {r i : Nat}, (∀ j : Nat, i ≤ j → j < i + r → f (od j) = g (od j)) → flF od f r i = flF od g r i
  | 0, _, _ => rfl
  | r + 1, i, h => by
    unfold flF
    rw [h i (by omega) (by omega), flF_cg (fun j h1 h2 => h j (by omega) (by omega))]
theorem GLok.at {c : Int} {K : Nat} {sz mn od : Int → Int} (h : GLok c K sz mn od) {P : Int → Prop} (hp : ∀ s : Nat, s < K → P s) {j : Nat} (hj : j < K) : P (od j) := by
  have ho := h.o hj
  obtain ⟨n, hn⟩ : ∃ n : Nat, od j = n := ⟨(od j).toNat, by omega⟩
  rw [hn]; exact hp n (by omega)
theorem zl_cg {c : Int} {K : Nat} {sz mn mn' od : Int → Int} (hG : GLok c K sz mn od) (h : ∀ j : Nat, j < K → mn' j = mn j) : zl K sz mn' od = zl K sz mn od := lst_congr (fun j h1 h2 => by
  show (sz (od j), mn' (od j)) = (sz (od j), mn (od j))
  rw [hG.at (P := fun s => mn' s = mn s) h (by omega)])
theorem GLok.cg {c : Int} {K : Nat} {sz mn mn' od : Int → Int} (hG : GLok c K sz mn od) (h : ∀ j : Nat, j < K → mn' j = mn j) : GLok c K sz mn' od :=
  ⟨hG.1, hG.2.1, hG.2.2.1, fun s hs => by rw [h s hs]; exact hG.2.2.2.1 s hs, by rw [sg_congr (g := mn) (fun j hj => h j hj)]; exact hG.2.2.2.2.1, hG.2.2.2.2.2⟩
theorem GLok.lot {c : Int} {K : Nat} {sz mn od : Int → Int} (hG : GLok c K sz mn od) (hc : 1 ≤ c) : LotOK c K sz mn := ⟨hc, hG.1.2, hG.2.1, fun j hj => by
  have h1 := hG.2.2.1 j hj
  have h2 := sg_term (f := mn) (n := K) hG.2.2.2.1 j hj
  have h3 := hG.2.2.2.1 j hj
  have h4 := hG.2.2.2.2.1
  exact ⟨h1.1, h1.2, h3, by omega⟩⟩
theorem GLok.nxt {c : Int} {K : Nat} {sz mn od f : Int → Int} {p : List Int} (hG : GLok c K sz mn od) (hR : ptR K od p f) (hP : isP (zl K sz mn od) c p) : GLok c K sz (lfN od mn K p) od := by
  have hb := ptR_bd hG hR hP
  have hr := ptR_rw hG hR
  have hk := hG.2.1
  have e : ∀ s : Nat, s < K → lfN od mn K p s = mn s - f s := fun s hs => by unfold lfN; rw [← hr s (by omega)]
  refine ⟨hG.1, hG.2.1, hG.2.2.1, fun s hs => by rw [e s hs]; have := hb s hs; omega, ?_, hG.2.2.2.2.2⟩
  have : ∀ n : Nat, n ≤ K → sg (lfN od mn K p) n ≤ sg mn n := fun n => by
    induction n with
    | zero => intro _; exact Int.le_refl _
    | succ n ih =>
      intro hn
      have h1 := ih (by omega)
      have h2 := e n (by omega)
      have h3 := (hb n (by omega)).1
      show sg (lfN od mn K p) n + lfN od mn K p n ≤ sg mn n + mn n
      omega
  exact Int.le_trans (this K (Nat.le_refl _)) hG.2.2.2.2.1
theorem GLok.b1 {c : Int} {K : Nat} {sz mn od : Int → Int} (hG : GLok c K sz mn od) (hc : 1 ≤ c) (hf : flF od mn K 0 ≠ -1) : 1 ≤ boundF c K sz mn := by
  rcases flF_spec (od := od) (lf := mn) (r := K) (i := 0) (fun j h1 h2 => (hG.o (by omega)).1) with ⟨h1, _⟩ | ⟨j, h1, h2, h3, h4, h5⟩
  · exact (hf h1).elim
  · have ho := hG.o (i := j) (by omega)
    have hz := hG.z (i := j) (by omega)
    obtain ⟨n, hn⟩ : ∃ n : Nat, od j = n := ⟨(od j).toNat, by omega⟩
    rw [hn] at hz h4
    have h6 := sg_term (f := fun s => sz s * mn s) (n := K) (fun s hs => Int.mul_nonneg (by have := hG.2.2.1 s hs; omega) (hG.2.2.2.1 s hs)) n (by omega)
    have h7 : 1 * 1 ≤ sz n * mn n := Int.mul_le_mul hz.1 (by omega) (by omega) (by omega)
    have h8 : 1 ≤ wtF K sz mn := by unfold wtF; show 1 ≤ sg (fun s => sz s * mn s) K; have h9 : sz n * mn n ≤ sg (fun s => sz s * mn s) K := h6; omega
    have h10 : 1 ≤ areaF c K sz mn := by
      unfold areaF rUp
      rw [if_neg (by omega)]
      have := Int.ediv_nonneg (a := wtF K sz mn - 1) (b := c) (by omega) (by omega)
      omega
    unfold boundF; omega
