/-! the tree is sound: what weighs a bin's room at most, weighs the fewest bins' room at most -/
theorem sg_add {f g : Int → Int} : ∀ n : Nat, sg (fun j => f j + g j) n = sg f n + sg g n
  | 0 => rfl
  | n + 1 => by
    have := sg_add (f := f) (g := g) n
    show sg (fun j => f j + g j) n + (f n + g n) = sg f n + f n + (sg g n + g n)
    omega
theorem sg_sub {f g : Int → Int} : ∀ n : Nat, sg (fun j => f j - g j) n = sg f n - sg g n
  | 0 => rfl
  | n + 1 => by
    have := sg_sub (f := f) (g := g) n
    show sg (fun j => f j - g j) n + (f n - g n) = sg f n + f n - (sg g n + g n)
    omega
theorem sg_nonpos {f : Int → Int} : ∀ {n : Nat}, (∀ j : Nat, j < n → f j ≤ 0) → sg f n ≤ 0
  | 0, _ => Int.le_refl _
  | n + 1, h => by
    have h1 := sg_nonpos (f := f) (n := n) (fun j hj => h j (by omega))
    have h2 := h n (by omega)
    show sg f n + f n ≤ 0
    omega
/-- every pattern of these goods, or of fewer, weighs C at most -/
def capW (c C : Int) (K : Nat) (sz w od : Int → Int) : Prop := ∀ (lf f : Int → Int) (p : List Int), GLok c K sz lf od → ptR K od p f → isP (zl K sz lf od) c p → sg (fun s => w s * f s) K ≤ C
theorem brT_snd {f : List Int → tS → tS} {C A : Int} {ps : List (List Int)} (hf : ∀ p, p ∈ ps → ∀ st : tS, A ≤ C * st.1 → A ≤ C * (f p st).1) : ∀ st : tS, A ≤ C * st.1 → A ≤ C * (brT f ps st).1 := by
  induction ps with
  | nil => exact fun st h => h
  | cons p ps ih =>
    intro st h
    have h1 := hf p List.mem_cons_self st h
    unfold brT
    split
    · exact ih (fun q hq => hf q (List.mem_cons_of_mem _ hq)) _ h1
    · exact h1
theorem lst_of {K : Nat} : ∀ {p : List Int} (i : Nat), p.length = K → lst (fun j => p.getD (j.toNat - i) 0) K i = p := by
  induction K with
  | zero => intro p i h; cases p with
    | nil => rfl
    | cons a p => simp at h
  | succ K ih =>
    intro p i h
    cases p with
    | nil => simp at h
    | cons a p =>
      show (a :: p).getD ((i : Int).toNat - i) 0 :: lst (fun j => (a :: p).getD (j.toNat - i) 0) K (i + 1) = a :: p
      rw [show (i : Int).toNat - i = 0 by omega]
      have h1 := ih (p := p) (i + 1) (by simp at h; omega)
      have h2 : lst (fun j => (a :: p).getD (j.toNat - i) 0) K (i + 1) = lst (fun j => p.getD (j.toNat - (i + 1)) 0) K (i + 1) := lst_congr (fun j h3 h4 => by
        show (a :: p).getD ((j : Int).toNat - i) 0 = p.getD ((j : Int).toNat - (i + 1)) 0
        obtain ⟨m, hm⟩ : ∃ m, j = i + 1 + m := ⟨j - (i + 1), by omega⟩
        rw [show (j : Int).toNat - i = m + 1 by omega, show (j : Int).toNat - (i + 1) = m by omega]
        rfl)
      rw [h2, h1]; rfl
theorem zl_len {K : Nat} {sz mn od : Int → Int} : (zl K sz mn od).length = K := lst_len
/-- a pattern's numbers by sorts hold it -/
theorem ptR_self {c : Int} {K : Nat} {sz mn od : Int → Int} {p : List Int} (hG : GLok c K sz mn od) (hP : isP (zl K sz mn od) c p) : ptR K od p (rwF od p K) := by
  have hl := isP_len hP
  rw [zl_len] at hl
  refine ⟨?_, fun s h1 h2 => rwF_out (hG.out h1)⟩
  have h1 := lst_of (K := K) (p := p) 0 hl
  refine Eq.trans (lst_congr (fun j h3 h4 => ?_)) h1
  show rwF od p K (od j) = p.getD ((j : Int).toNat - 0) 0
  rw [rwF_at hG.2.2.2.2.2.2.1 j (by omega)]
  congr 1
theorem meetT_snd {c C A : Int} {K : Nat} {sz w od : Int → Int} (hC : 0 ≤ C) (hw : capW c C K sz w od) (hw0 : ∀ s : Nat, s < K → 0 ≤ w s) : ∀ (n dep : Nat) (lf path : Int → Int) (st : tS), GLok c K sz lf od → A ≤ C * st.1 → A ≤ C * dep + sg (fun s => w s * lf s) K → A ≤ C * (meetT c K sz od n dep lf path st).1
  | 0, _, _, _, _, _, h, _ => h
  | n + 1, dep, lf, path, st, hG, h, h2 => by
    have eT : (meetT c K sz od (n + 1) dep lf path st) = (if 60 ≤ st.2.1 then (st.1, st.2.1, st.2.2.1, st.2.2.2.1, st.2.2.2.2.1, 1, st.2.2.2.2.2.2)
      else if flF od lf K 0 = -1 then (if (dep : Int) < st.1 then (dep, st.2.1 + 1, st.2.2.1, st.2.2.2.1 + 1, max st.2.2.2.2.1 dep, st.2.2.2.2.2.1, path) else (st.1, st.2.1 + 1, st.2.2.1, st.2.2.2.1, max st.2.2.2.2.1 dep, st.2.2.2.2.2.1, st.2.2.2.2.2.2))
      else if st.1 - dep ≤ boundF c K sz lf then (st.1, st.2.1 + 1, st.2.2.1 + 1, st.2.2.2.1, max st.2.2.2.2.1 dep, st.2.2.2.2.2.1, st.2.2.2.2.2.2)
      else brT (fun p st => meetT c K sz od n (dep + 1) (lfN od lf K p) (pthN od path K dep p) st) (brL c K sz od lf) (st.1, st.2.1 + 1, st.2.2.1, st.2.2.2.1, max st.2.2.2.2.1 dep, st.2.2.2.2.2.1, st.2.2.2.2.2.2)) := rfl
    rw [eT]
    split
    · exact h
    · split
      · rename_i hfl
        split
        · have h0 : sg (fun s => w s * lf s) K ≤ 0 := by
            refine sg_nonpos (fun j hj => ?_)
            rcases flF_spec (od := od) (lf := lf) (r := K) (i := 0) (fun j h1 h2 => (hG.o (by omega)).1) with ⟨_, h4⟩ | ⟨i, h4, h5, h6, _, _⟩
            · have h7 : lf j ≤ 0 := hG.on (P := fun s => lf s ≤ 0) (fun i hi => h4 i (by omega) (by omega)) j hj
              have h8 : lf j = 0 := by have := hG.2.2.2.1 j hj; omega
              show w j * lf j ≤ 0
              rw [h8, Int.mul_zero]; exact Int.le_refl _
            · have := hG.o (i := i) (by omega)
              omega
          show A ≤ C * (dep : Int)
          omega
        · exact h
      · split
        · exact h
        · refine brT_snd (C := C) (A := A) (fun p hp st' h' => ?_) _ h
          have hmem : p ∈ pats (zl K sz lf od) c := by
            unfold brL mxs at hp
            exact (List.mem_filter.mp (List.mem_filter.mp hp).1).1
          have hP : isP (zl K sz lf od) c p := (pats_mem (hG.zOK (r := K) (i := 0) (by omega)) hG.1.1).mp hmem
          have hR := ptR_self hG hP
          refine meetT_snd hC hw hw0 n (dep + 1) _ _ st' (hG.nxt hR hP) h' ?_
          have h3 := hw lf _ p hG hR hP
          have e : sg (fun s => w s * lfN od lf K p s) K = sg (fun s => w s * lf s) K - sg (fun s => w s * rwF od p K s) K := by
            rw [← sg_sub]
            exact sg_congr (fun j hj => by show w j * (lf j - rwF od p K j) = w j * lf j - w j * rwF od p K j; rw [Int.mul_sub])
          rw [e]
          have e2 : C * ((dep + 1 : Nat) : Int) = C * dep + C := by
            rw [show ((dep + 1 : Nat) : Int) = (dep : Int) + 1 from rfl, Int.mul_add, Int.mul_one]
          rw [e2]
          omega
theorem capW_sz {c : Int} {K : Nat} {sz od : Int → Int} : capW c c K sz sz od := fun lf f p hG hR hP => by
  have h1 := ptR_pw hG hR
  have h2 := isP_pw hP
  rw [h1] at h2
  rw [sg_congr (f := fun s => sz s * f s) (g := fun s => f s * sz s) (fun j _ => Int.mul_comm _ _)]
  exact h2
theorem sg_fset {f : Int → Int} {v : Int} {i : Nat} : ∀ {n : Nat}, sg (fset f i v) n = sg f n + if i < n then v - f i else 0
  | 0 => by simp [sg]
  | n + 1 => by
    have ih := sg_fset (f := f) (v := v) (i := i) (n := n)
    have e : sg (fset f i v) (n + 1) = sg (fset f i v) n + fset f i v n := rfl
    have e2 : sg f (n + 1) = sg f n + f n := rfl
    rw [e, ih, e2]
    by_cases h : i = n
    · subst h
      rw [fset_s, if_neg (by omega), if_pos (by omega)]; omega
    · rw [fset_n (by omega)]
      by_cases h2 : i < n
      · rw [if_pos h2, if_pos (by omega)]; omega
      · rw [if_neg h2, if_neg (by omega)]; omega
theorem pkS_w {c way s z : Int} {P : pkT} : sg (pkS c way s z P).2.2.1 (pkS c way s z P).1 = sg P.2.2.1 P.1 + z := by
  have hb := chF_bd (f := P.2.2.1) (most := c - z) (way := way) (n := P.1)
  unfold pkS
  split
  · show sg (fset P.2.2.1 P.1 z) (P.1 + 1) = _
    rw [sg_fset, if_pos (by omega)]
    show sg P.2.2.1 P.1 + P.2.2.1 P.1 + (z - P.2.2.1 P.1) = _
    omega
  · rename_i hn
    obtain ⟨i, hi⟩ : ∃ i : Nat, chF P.2.2.1 (c - z) way P.1 = i := ⟨(chF P.2.2.1 (c - z) way P.1).toNat, by omega⟩
    show sg (fset P.2.2.1 (chF P.2.2.1 (c - z) way P.1) (P.2.2.1 (chF P.2.2.1 (c - z) way P.1) + z)) P.1 = _
    rw [hi, sg_fset, if_pos (by omega)]
    omega
theorem pkN_w {c way s z : Int} {P : pkT} : ∀ j : Nat, sg (pkN c way s z P j).2.2.1 (pkN c way s z P j).1 = sg P.2.2.1 P.1 + z * j
  | 0 => by show sg P.2.2.1 P.1 = _; simp
  | j + 1 => by
    show sg (pkS c way s z (pkN c way s z P j)).2.2.1 (pkS c way s z (pkN c way s z P j)).1 = _
    rw [pkS_w, pkN_w j, show ((j + 1 : Nat) : Int) = (j : Int) + 1 from rfl, Int.mul_add, Int.mul_one]
    omega
theorem pkA_w {c r : Int} {K : Nat} {sz mn od : Int → Int} (h : PkL c K sz mn od) : ∀ i : Nat, i ≤ K → sg (pkA c r sz mn od i).2.2.1 (pkA c r sz mn od i).1 = sg (fun i => sz (sqF r od i) * mn (sqF r od i)) i
  | 0, _ => rfl
  | i + 1, hi => by
    have h1 := h.sq (r := r) (i := i) (by omega)
    rw [pkA_s, pkN_w, pkA_w h i (by omega)]
    show _ + sz (sqF r od i) * ((mn (sqF r od i)).toNat : Int) = _ + sz (sqF r od i) * mn (sqF r od i)
    rw [Int.toNat_of_nonneg (by omega)]
theorem fewT_wt {c : Int} {K : Nat} {sz mn od : Int → Int} (hG : GLok c K sz mn od) (hP : PkL c K sz mn od) : wtF K sz mn ≤ c * (fewT c K sz mn od).1 := by
  have h1 := pkA_ok hP (r := 5) K (Nat.le_refl _)
  have h2 := pkA_w hP (r := 5) K (Nat.le_refl _)
  have e : sg (fun i => sz (sqF 5 od i) * mn (sqF 5 od i)) K = wtF K sz mn := by
    rw [sg_congr (f := fun i => sz (sqF 5 od i) * mn (sqF 5 od i)) (g := fun i => (fun s => sz s * mn s) (od i)) (fun j _ => by show sz (sqF 5 od j) * mn (sqF 5 od j) = sz (od j) * mn (od j); unfold sqF; rw [if_neg (by decide)])]
    exact hG.2.2.2.2.2.2.2.2 (fun s => sz s * mn s)
  have h3 := sg_bd (f := (pkA c 5 sz mn od K).2.2.1) (c := c) (n := (pkA c 5 sz mn od K).1) h1.1.2.1
  unfold fewT
  refine meetT_snd (A := wtF K sz mn) (w := sz) hG.1.1 capW_sz (fun s hs => by have := hG.2.2.1 s hs; omega) 24 0 mn _ _ hG ?_ ?_
  · rw [← e, ← h2]; exact h3.2
  · show wtF K sz mn ≤ c * ((0 : Nat) : Int) + sg (fun s => sz s * mn s) K
    show wtF K sz mn ≤ c * 0 + wtF K sz mn
    omega
