/-! the tree, pure; its first leaves -/
/-- the numbers of a pattern by sorts -/
def rwF (od : Int → Int) (p : List Int) : Nat → Int → Int
  | 0, _ => 0
  | j + 1, s => if od j = s then p.getD j 0 else rwF od p j s
theorem lst_get {α : Type} {f : Int → α} {x : α} : ∀ {r i j : Nat}, j < r → (lst f r i).getD j x = f ((i + j : Nat) : Int)
  | 0, _, _, h => by omega
  | r + 1, i, 0, _ => rfl
  | r + 1, i, j + 1, h => by
    show (lst f r (i + 1)).getD j x = _
    rw [lst_get (by omega), show i + 1 + j = i + (j + 1) by omega]
theorem rwF_at {od : Int → Int} {p : List Int} : ∀ {K : Nat}, (∀ i j : Nat, i < j → j < K → od i ≠ od j) → ∀ i : Nat, i < K → rwF od p K (od i) = p.getD i 0
  | 0, _, i, h => by omega
  | K + 1, hn, i, h => by
    unfold rwF
    by_cases e : i = K
    · subst e; rw [if_pos rfl]
    · rw [if_neg (fun z => hn i K (by omega) (by omega) z.symm)]
      exact rwF_at (fun i j h1 h2 => hn i j h1 (by omega)) i (by omega)
theorem rwF_out {od : Int → Int} {p : List Int} {s : Int} : ∀ {K : Nat}, (∀ j : Nat, j < K → od j ≠ s) → rwF od p K s = 0
  | 0, _ => rfl
  | K + 1, h => by
    unfold rwF
    rw [if_neg (h K (by omega))]
    exact rwF_out (fun j hj => h j (by omega))
theorem ptR_rw {c : Int} {K : Nat} {sz mn od f : Int → Int} {p : List Int} (hG : GLok c K sz mn od) (h : ptR K od p f) : ∀ s : Nat, s < 6 → f s = rwF od p K s := fun s hs => by
  by_cases e : s < K
  · refine hG.on (P := fun s => f s = rwF od p K s) (fun j hj => ?_) s e
    rw [rwF_at hG.2.2.2.2.2.2.1 j hj, ← h.1, lst_get hj, show 0 + j = j by omega]
  · rw [h.2 s (by omega) hs, rwF_out (hG.out (by omega))]
/-- the first sort of which some are left -/
def flF (od lf : Int → Int) : Nat → Nat → Int
  | 0, _ => -1
  | r + 1, i => if 0 < lf (od i) then od i else flF od lf r (i + 1)
/-- fewest, nodes, closed, found, deepest, cut, the best packing -/
abbrev tS : Type := Int × Int × Int × Int × Int × Int × (Int → Int)
def brT (f : List Int → tS → tS) : List (List Int) → tS → tS
  | [], st => st
  | p :: ps, st => if (f p st).2.2.2.2.2.1 = 0 then brT f ps (f p st) else f p st
/-- what is left behind a pattern -/
def lfN (od lf : Int → Int) (K : Nat) (p : List Int) : Int → Int := fun s => lf s - rwF od p K s
/-- the rows chosen so far, one more -/
def pthN (od path : Int → Int) (K dep : Nat) (p : List Int) : Int → Int := fun i => if 6 * (dep : Int) ≤ i then rwF od p K (i - 6 * dep) else path i
def brL (c : Int) (K : Nat) (sz od lf : Int → Int) : List (List Int) := (mxs (zl K sz lf od) c).filter (fun p => decide (0 < rwF od p K (flF od lf K 0)))
def meetT (c : Int) (K : Nat) (sz od : Int → Int) : Nat → Nat → (Int → Int) → (Int → Int) → tS → tS
  | 0, _, _, _, st => st
  | n + 1, dep, lf, path, st =>
    if 60 ≤ st.2.1 then (st.1, st.2.1, st.2.2.1, st.2.2.2.1, st.2.2.2.2.1, 1, st.2.2.2.2.2.2)
    else if flF od lf K 0 = -1 then (if (dep : Int) < st.1 then (dep, st.2.1 + 1, st.2.2.1, st.2.2.2.1 + 1, max st.2.2.2.2.1 dep, st.2.2.2.2.2.1, path) else (st.1, st.2.1 + 1, st.2.2.1, st.2.2.2.1, max st.2.2.2.2.1 dep, st.2.2.2.2.2.1, st.2.2.2.2.2.2))
    else if st.1 - dep ≤ boundF c K sz lf then (st.1, st.2.1 + 1, st.2.2.1 + 1, st.2.2.2.1, max st.2.2.2.2.1 dep, st.2.2.2.2.2.1, st.2.2.2.2.2.2)
    else brT (fun p st => meetT c K sz od n (dep + 1) (lfN od lf K p) (pthN od path K dep p) st) (brL c K sz od lf) (st.1, st.2.1 + 1, st.2.2.1, st.2.2.2.1, max st.2.2.2.2.1 dep, st.2.2.2.2.2.1, st.2.2.2.2.2.2)
theorem c_X8_firstLeft {d k : Nat} {M : mM} {Q : mRes → mM → Prop} {a2 : Int} {K : Nat} (hK : M 12 1 = K) (hK6 : K ≤ 6) (ho : ∀ i : Nat, i < K → 0 ≤ M 15 i ∧ M 15 i < 6) (hQ : ∀ r, r = flF (M 15) (M a2) K 0 → Q (.inl (some (mI r))) M) : V d k qX8_firstLeft 0 [mR 11 5 12, mR 0 6 a2, mE 0] [] M Q := by
  have loop : ∀ r j : Nat, j + r = K → flF (M 15) (M a2) K 0 = flF (M 15) (M a2) r j → V d k qX8_firstLeft 2 [mR 11 5 12, mR 0 6 a2, mI j] [] M Q := by
    intro r
    induction r with
    | zero =>
      intro j hj e
      refine B_X8_firstLeft_2  ⟨fun c1 => ?_, fun c1 => ⟨?_, ?_, fun c2 => ⟨?_, ?_⟩, fun c2 => ⟨?_, ?_⟩⟩⟩ <;> try omega
      · exact hQ _ (by rw [e]; rfl)
    | succ r ih =>
      intro j hj e
      have h1 := ho j (by omega)
      have e2 : flF (M 15) (M a2) (r + 1) j = if 0 < M a2 (M 15 j) then M 15 j else flF (M 15) (M a2) r (j + 1) := rfl
      refine B_X8_firstLeft_2  ⟨fun c1 => ?_, fun c1 => ⟨?_, ?_, fun c2 => ⟨?_, ?_⟩, fun c2 => ⟨?_, ?_⟩⟩⟩ <;> try omega
      · exact ih (j + 1) (by omega) (by rw [e, e2, if_neg (by omega)])
      · exact hQ _ (by rw [e, e2, if_pos (by omega)])
  exact B_X8_firstLeft_0 (loop K 0 (by omega) rfl)
theorem c_X10_firstLeft {d k : Nat} {M : mM} {Q : mRes → mM → Prop} {at_ : Int} {K : Nat} (hK : M 112 7 = K) (hK6 : K ≤ 6) (hat : 0 ≤ at_ ∧ at_ ≤ 162) (ho : ∀ i : Nat, i < K → 0 ≤ M 123 i ∧ M 123 i < 6) (hQ : ∀ r, r = flF (M 123) (fun s => M 127 (at_ + s)) K 0 → Q (.inl (some (mI r))) M) : V d k qX10_firstLeft 0 [mR 18 58 112, mI at_, mE 0] [] M Q := by
  have loop : ∀ r j : Nat, j + r = K → flF (M 123) (fun s => M 127 (at_ + s)) K 0 = flF (M 123) (fun s => M 127 (at_ + s)) r j → V d k qX10_firstLeft 2 [mR 18 58 112, mI at_, mI j] [] M Q := by
    intro r
    induction r with
    | zero =>
      intro j hj e
      refine B_X10_firstLeft_2  ⟨fun c1 => ?_, fun c1 => ⟨?_, ?_, ?_, fun c2 => ⟨?_, ?_⟩, fun c2 => ⟨?_, ?_⟩⟩⟩ <;> try omega
      · exact hQ _ (by rw [e]; rfl)
    | succ r ih =>
      intro j hj e
      have h1 := ho j (by omega)
      have e2 : flF (M 123) (fun s => M 127 (at_ + s)) (r + 1) j = if 0 < M 127 (at_ + M 123 j) then M 123 j else flF (M 123) (fun s => M 127 (at_ + s)) r (j + 1) := rfl
      refine B_X10_firstLeft_2  ⟨fun c1 => ?_, fun c1 => ⟨?_, ?_, ?_, fun c2 => ⟨?_, ?_⟩, fun c2 => ⟨?_, ?_⟩⟩⟩ <;> try omega
      · exact ih (j + 1) (by omega) (by rw [e, e2, if_neg (by omega)])
      · exact hQ _ (by rw [e, e2, if_pos (by omega)])
  exact B_X10_firstLeft_0 (loop K 0 (by omega) rfl)
/-- the class's tree -/
def trC (M : mM) (st : tS) : Prop := M 32 1 = st.1 ∧ M 32 2 = st.2.1 ∧ M 32 3 = st.2.2.1 ∧ M 32 4 = st.2.2.2.1 ∧ M 32 5 = st.2.2.2.2.1 ∧ M 32 6 = st.2.2.2.2.2.1 ∧ ∀ i : Int, 0 ≤ i → i < 6 * st.1 → M 33 i = st.2.2.2.2.2.2 i
theorem cp_in {M : mM} {n0 i0 n1 i1 cnt i : Int} (h : i1 ≤ i ∧ i < i1 + cnt) : mCp M n0 i0 n1 i1 cnt n1 i = M n0 (i0 + (i - i1)) := by
  unfold mCp; rw [if_pos ⟨rfl, h⟩]
theorem cp_out {M : mM} {n0 i0 n1 i1 cnt i : Int} (h : ¬ (i1 ≤ i ∧ i < i1 + cnt)) : mCp M n0 i0 n1 i1 cnt n1 i = M n1 i := by
  unfold mCp; rw [if_neg (fun z => h z.2)]
theorem cp_row {M : mM} {n0 i0 n1 i1 cnt n : Int} (h : n ≠ n1) : mCp M n0 i0 n1 i1 cnt n = M n := funext fun i => cp_n h rfl
theorem c_X8_finish {d k : Nat} {M : mM} {Q : mRes → mM → Prop} {dep : Nat} {st : tS} {path : Int → Int} (hT : trC M st) (hd : dep ≤ 24) (hs : 0 ≤ st.2.2.2.1 ∧ st.2.2.2.1 ≤ 1000) (hp : ∀ (b : Nat) (s : Int), b < dep → 0 ≤ s → s < 6 → M (65 + b) s = path (6 * b + s))
    (hQ : ∀ M', (∀ n, n ≠ 32 → n ≠ 33 → M' n = M n) → trC M' (if (dep : Int) < st.1 then (dep, st.2.1, st.2.2.1, st.2.2.2.1 + 1, st.2.2.2.2.1, st.2.2.2.2.2.1, path) else st) → Q (.inl none) M') : V (d + 2) k qX8_finish 0 [mR 16 10 32, mI dep, mE 0] [] M Q := by
  obtain ⟨t1, t2, t3, t4, t5, t6, t7⟩ := hT
  by_cases hlt : (dep : Int) < st.1
  · rw [if_pos hlt] at hQ
    have loop : ∀ (r b : Nat) (M' : mM), b + r = dep → (∀ n, n ≠ 32 → n ≠ 33 → M' n = M n) → M' 32 = (mUp (mUp M 32 4 (M 32 4 + 1)) 32 1 dep) 32 → (∀ i : Int, 0 ≤ i → i < 6 * (b : Int) → M' 33 i = path i) → V (d + 2) k qX8_finish 26 [mR 16 10 32, mI dep, mI b] [] M' Q := by
      intro r
      induction r with
      | zero =>
        intro b M' hb g1 g2 g3
        have e : b = dep := by omega
        subst e
        refine B_X8_finish_26 ⟨fun c1 => hQ M' g1 ⟨?_, ?_, ?_, ?_, ?_, ?_, ?_⟩, fun c1 => by omega⟩
        · rw [g2, up_s]
        · rw [g2, up_fld (by decide), up_fld (by decide)]; exact t2
        · rw [g2, up_fld (by decide), up_fld (by decide)]; exact t3
        · rw [g2, up_fld (by decide), up_s, t4]
        · rw [g2, up_fld (by decide), up_fld (by decide)]; exact t5
        · rw [g2, up_fld (by decide), up_fld (by decide)]; exact t6
        · exact g3
      | succ r ih =>
        intro b M' hb g1 g2 g3
        refine B_X8_finish_26 ⟨fun c1 => by omega, fun c1 => ⟨by omega, by omega, by omega, by omega, by omega, by omega, ih (b + 1) _ (by omega) (fun n h1 h2 => ?_) ?_ (fun i h1 h2 => ?_)⟩⟩
        · rw [cp_row h2]; exact g1 n h1 h2
        · rw [cp_row (by decide)]; exact g2
        · by_cases e : (b : Int) * 6 ≤ i
          · rw [cp_in (by omega), g1 (65 + b) (by omega) (by omega), hp b _ (by omega) (by omega) (by omega)]
            congr 1; omega
          · rw [cp_out (by omega)]; exact g3 i h1 (by omega)
    refine B_X8_finish_0 ⟨fun c1 => ⟨by omega, loop dep 0 _ (by omega) (fun n h1 h2 => by rw [up_row h1, up_row h1]) rfl (fun i h1 h2 => by omega)⟩, fun c1 => by omega⟩
  · rw [if_neg hlt] at hQ
    exact B_X8_finish_0 ⟨fun c1 => by omega, fun c1 => hQ M (fun _ _ _ => rfl) ⟨t1, t2, t3, t4, t5, t6, t7⟩⟩
