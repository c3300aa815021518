/-! the first bin of the best packing -/
def fbOK (c : Int) (K : Nat) (sz mn f : Int → Int) : Prop := (∀ s : Nat, s < 6 → 0 ≤ f s ∧ (K ≤ s → f s = 0)) ∧ (∀ s : Nat, s < K → f s ≤ mn s) ∧ sg (fun s => sz s * f s) K ≤ c
theorem fbOK.cg {c : Int} {K : Nat} {sz mn f g : Int → Int} (hK : K ≤ 6) (h : fbOK c K sz mn f) (e : ∀ s : Nat, s < 6 → g s = f s) : fbOK c K sz mn g := ⟨fun s hs => by rw [e s hs]; exact h.1 s hs, fun s hs => by rw [e s (by omega)]; exact h.2.1 s hs, by
  rw [sg_congr (f := fun s => sz s * g s) (g := fun s => sz s * f s) (fun j hj => by show sz j * g j = sz j * f j; rw [e j (by omega)])]
  exact h.2.2⟩
theorem sg_zero {f : Int → Int} : ∀ {n : Nat}, (∀ j : Nat, j < n → f j = 0) → sg f n = 0
  | 0, _ => rfl
  | n + 1, h => by
    show sg f n + f n = 0
    rw [sg_zero (fun j hj => h j (by omega)), h n (by omega)]; rfl
theorem brT_inv {f : List Int → tS → tS} {I : tS → Prop} {ps : List (List Int)} (hf : ∀ p, p ∈ ps → ∀ st : tS, I st → I (f p st)) : ∀ st : tS, I st → I (brT f ps st) := by
  induction ps with
  | nil => exact fun st h => h
  | cons p ps ih =>
    intro st h
    have h1 := hf p List.mem_cons_self st h
    unfold brT
    split
    · exact ih (fun q hq => hf q (List.mem_cons_of_mem _ hq)) _ h1
    · exact h1
theorem meetT_fb {c : Int} {K : Nat} {sz mn od : Int → Int} : ∀ (n dep : Nat) (lf path : Int → Int) (st : tS), GLok c K sz lf od → (dep = 0 → ∀ s : Nat, s < K → lf s ≤ mn s) → fbOK c K sz mn path → fbOK c K sz mn st.2.2.2.2.2.2 → fbOK c K sz mn (meetT c K sz od n dep lf path st).2.2.2.2.2.2
  | 0, _, _, _, _, _, _, _, h => h
  | n + 1, dep, lf, path, st, hG, h0, hp, h => by
    have eT : (meetT c K sz od (n + 1) dep lf path st) = (if 60 ≤ st.2.1 then (st.1, st.2.1, st.2.2.1, st.2.2.2.1, st.2.2.2.2.1, 1, st.2.2.2.2.2.2)
      else if flF od lf K 0 = -1 then (if (dep : Int) < st.1 then (dep, st.2.1 + 1, st.2.2.1, st.2.2.2.1 + 1, max st.2.2.2.2.1 dep, st.2.2.2.2.2.1, path) else (st.1, st.2.1 + 1, st.2.2.1, st.2.2.2.1, max st.2.2.2.2.1 dep, st.2.2.2.2.2.1, st.2.2.2.2.2.2))
      else if st.1 - dep ≤ boundF c K sz lf then (st.1, st.2.1 + 1, st.2.2.1 + 1, st.2.2.2.1, max st.2.2.2.2.1 dep, st.2.2.2.2.2.1, st.2.2.2.2.2.2)
      else brT (fun p st => meetT c K sz od n (dep + 1) (lfN od lf K p) (pthN od path K dep p) st) (brL c K sz od lf) (st.1, st.2.1 + 1, st.2.2.1, st.2.2.2.1, max st.2.2.2.2.1 dep, st.2.2.2.2.2.1, st.2.2.2.2.2.2)) := rfl
    rw [eT]
    split
    · exact h
    · split
      · split
        · exact hp
        · exact h
      · split
        · exact h
        · refine brT_inv (I := fun st => fbOK c K sz mn st.2.2.2.2.2.2) (fun p hpm st' h' => ?_) _ h
          have hmem : p ∈ pats (zl K sz lf od) c := by
            unfold brL mxs at hpm
            exact (List.mem_filter.mp (List.mem_filter.mp hpm).1).1
          have hP : isP (zl K sz lf od) c p := (pats_mem (hG.zOK (r := K) (i := 0) (by omega)) hG.1.1).mp hmem
          have hR := ptR_self hG hP
          refine meetT_fb n (dep + 1) _ _ st' (hG.nxt hR hP) (fun z => by omega) ?_ h'
          by_cases e : dep = 0
          · subst e
            have hb := ptR_bd hG hR hP
            have hK6 := hG.2.1
            have hz := capW_sz lf _ p hG hR hP
            have b : fbOK c K sz mn (rwF od p K) := ⟨fun s hs => by
              by_cases hk : K ≤ s
              · have : rwF od p K s = 0 := rwF_out (hG.out hk)
                rw [this]; exact ⟨by omega, fun _ => rfl⟩
              · exact ⟨(hb s (by omega)).1, fun z => absurd z hk⟩, fun s hs => by have := (hb s hs).2.1; have := h0 rfl s hs; omega, hz⟩
            refine b.cg hK6 (fun s hs => ?_)
            unfold pthN
            rw [if_pos (by omega)]
            congr 1
          · refine hp.cg hG.2.1 (fun s hs => ?_)
            unfold pthN
            rw [if_neg (by omega)]
/-- what a packing knows of its bins -/
def pkI (K : Nat) (sz B : Int → Int) (P : pkT) : Prop := (∀ b : Nat, b < P.1 → P.2.2.1 b = sg (fun s => sz s * cntF P.2.2.2.1 P.2.2.2.2 b s P.2.1) K) ∧ ∀ b s : Nat, cntF P.2.2.2.1 P.2.2.2.2 b s P.2.1 ≤ B s
theorem cntF_0 {wh ts : Int → Int} {b s : Int} : ∀ {t : Nat}, (∀ j : Nat, j < t → wh j ≠ b) → cntF wh ts b s t = 0
  | 0, _ => rfl
  | t + 1, h => by
    show cntF wh ts b s t + (if wh t = b ∧ ts t = s then 1 else 0) = 0
    rw [cntF_0 (fun j hj => h j (by omega)), if_neg (fun z => h t (by omega) z.1)]; rfl
theorem cntF_s {wh ts : Int → Int} {b s x y : Int} {t : Nat} : cntF (fset wh t x) (fset ts t y) b s (t + 1) = cntF wh ts b s t + if x = b ∧ y = s then 1 else 0 := by
  show cntF _ _ _ _ t + (if fset wh t x (t : Int) = b ∧ fset ts t y (t : Int) = s then 1 else 0) = _
  rw [fset_s, fset_s, cntF_congr (wh' := wh) (ts' := ts) (fun j hj => ⟨fset_n (by omega), fset_n (by omega)⟩)]
theorem sg_inc {f g w : Int → Int} {n i : Nat} (hi : i < n) (h : ∀ j : Nat, j < n → g j = f j + if (i : Int) = j then 1 else 0) : sg (fun j => w j * g j) n = sg (fun j => w j * f j) n + w i := by
  have := sg_up1 (f := f) (g := g) (w := w) (x := 1) hi (fun j hj => by
    rw [h j hj]
    by_cases e : j = i
    · rw [if_pos (by omega), if_pos e]
    · rw [if_neg (by omega), if_neg e]; omega)
  rw [this, Int.mul_one]
theorem pkS_I {c way : Int} {K : Nat} {sz B : Int → Int} {s : Nat} {P : pkT} (hs : s < K) (hok : pkOK c P) (h : pkI K sz B P) : pkI K sz (fun t => B t + if (s : Int) = t then 1 else 0) (pkS c way s (sz s) P) := by
  have hb := chF_bd (f := P.2.2.1) (most := c - sz s) (way := way) (n := P.1)
  have hnn : ∀ (x : Int) (t : Nat), (0 : Int) ≤ if (s : Int) = t then 1 else 0 := fun _ t => by split <;> omega
  unfold pkS
  split
  · refine ⟨fun b hb => ?_, fun b t => ?_⟩
    · show fset P.2.2.1 P.1 (sz s) b = sg (fun t => sz t * cntF (fset P.2.2.2.1 P.2.1 P.1) (fset P.2.2.2.2 P.2.1 s) b t (P.2.1 + 1)) K
      have hb' : b < P.1 + 1 := hb
      by_cases e : b = P.1
      · subst e
        have z0 : ∀ t : Int, cntF P.2.2.2.1 P.2.2.2.2 P.1 t P.2.1 = 0 := fun t => cntF_0 (fun j hj => by have := hok.2.2 j hj; omega)
        rw [fset_s, sg_inc (f := fun _ => 0) (i := s) hs (fun j hj => by rw [cntF_s, z0]; simp), sg_zero (fun j _ => Int.mul_zero _)]; omega
      · rw [fset_n (by omega), h.1 b (by omega)]
        exact sg_congr (fun j hj => by
          show sz j * cntF _ _ _ _ _ = sz j * cntF _ _ _ _ _
          rw [cntF_s, if_neg (fun z => e (by omega)), Int.add_zero])
    · show cntF (fset P.2.2.2.1 P.2.1 P.1) (fset P.2.2.2.2 P.2.1 s) b t (P.2.1 + 1) ≤ B t + if (s : Int) = t then 1 else 0
      rw [cntF_s]
      have := h.2 b t
      by_cases e : (s : Int) = t
      · rw [if_pos e]; split <;> omega
      · rw [if_neg e, if_neg (fun z => e z.2)]; omega
  · rename_i hne
    obtain ⟨q, hq⟩ : ∃ q : Nat, chF P.2.2.1 (c - sz s) way P.1 = q := ⟨(chF P.2.2.1 (c - sz s) way P.1).toNat, by omega⟩
    rw [hq]
    refine ⟨fun b hb => ?_, fun b t => ?_⟩
    · show fset P.2.2.1 q (P.2.2.1 q + sz s) b = sg (fun t => sz t * cntF (fset P.2.2.2.1 P.2.1 q) (fset P.2.2.2.2 P.2.1 s) b t (P.2.1 + 1)) K
      have hb' : b < P.1 := hb
      by_cases e : b = q
      · subst e
        rw [fset_s, sg_inc (f := fun t => cntF P.2.2.2.1 P.2.2.2.2 b t P.2.1) (i := s) hs (fun j hj => by rw [cntF_s]; simp), h.1 b hb']
      · rw [fset_n (by omega), h.1 b hb']
        exact sg_congr (fun j hj => by
          show sz j * cntF _ _ _ _ _ = sz j * cntF _ _ _ _ _
          rw [cntF_s, if_neg (fun z => e (by omega)), Int.add_zero])
    · show cntF (fset P.2.2.2.1 P.2.1 q) (fset P.2.2.2.2 P.2.1 s) b t (P.2.1 + 1) ≤ B t + if (s : Int) = t then 1 else 0
      rw [cntF_s]
      have := h.2 b t
      by_cases e : (s : Int) = t
      · rw [if_pos e]; split <;> omega
      · rw [if_neg e, if_neg (fun z => e z.2)]; omega
theorem pkI.mono {K : Nat} {sz B B' : Int → Int} {P : pkT} (h : pkI K sz B P) (hB : ∀ s : Nat, B s ≤ B' s) : pkI K sz B' P := ⟨h.1, fun b s => by have := h.2 b s; have := hB s; omega⟩
theorem pkN_I {c way : Int} {K : Nat} {sz B : Int → Int} {s : Nat} {P : pkT} (hs : s < K) (hK : K ≤ 6) (hz : 0 ≤ sz s ∧ sz s ≤ c) (hok : pkOK c P) (h : pkI K sz B P) : ∀ j : Nat, pkI K sz (fun t => B t + if (s : Int) = t then (j : Int) else 0) (pkN c way s (sz s) P j)
  | 0 => h.mono (fun t => by split <;> omega)
  | j + 1 => by
    have ih := pkN_I hs hK hz hok h (way := way) j
    have o := (pkN_ok hok hz (by omega : 0 ≤ (s : Int) ∧ (s : Int) < 6) (way := way) j).1
    exact (pkS_I (way := way) hs o ih).mono (fun t => by split <;> omega)
theorem pkA_I {c r : Int} {K : Nat} {sz mn od : Int → Int} (h : PkL c K sz mn od) (hr : ¬ r < 4) (hinj : ∀ i j : Nat, i < j → j < K → od i ≠ od j) : ∀ i : Nat, i ≤ K → ∃ B : Int → Int, pkI K sz B (pkA c r sz mn od i) ∧ (∀ s : Nat, s < K → B s ≤ mn s) ∧ (∀ s : Nat, (∀ j : Nat, j < i → od j ≠ s) → B s = 0)
  | 0, _ => ⟨fun _ => 0, ⟨fun b hb => absurd hb (Nat.not_lt_zero b), fun b s => Int.le_refl _⟩, fun s hs => (h.2.2.2.1 s hs).1, fun _ _ => rfl⟩
  | i + 1, hi => by
    obtain ⟨B, g1, g2, g3⟩ := pkA_I h hr hinj i (by omega)
    have hsq := h.sq (r := r) (i := i) (by omega)
    have e : sqF r od i = od i := by unfold sqF; rw [if_neg hr]
    rw [pkA_s]
    rw [e] at hsq ⊢
    obtain ⟨s, hs⟩ : ∃ s : Nat, od i = s := ⟨(od i).toNat, by omega⟩
    rw [hs] at hsq ⊢
    have b0 : B s = 0 := g3 s (fun j hj => by rw [← hs]; exact hinj j i hj (by omega))
    by_cases hm : mn s = 0
    · refine ⟨B, ?_, g2, fun t ht => g3 t (fun j hj => ht j (by omega))⟩
      rw [hm]; exact g1
    · refine ⟨fun t => B t + if (s : Int) = t then ((mn s).toNat : Int) else 0, pkN_I (by omega) h.2.2.1 (by have := hsq.2.2.2.2 (by omega); omega) (pkA_ok h i (by omega)).1 g1 _, fun t ht => ?_, fun t ht => ?_⟩
      · show B t + (if (s : Int) = t then ((mn s).toNat : Int) else 0) ≤ mn t
        by_cases e : (s : Int) = t
        · rw [if_pos e, ← e, b0]; omega
        · rw [if_neg e]; have := g2 t ht; omega
      · show B t + (if (s : Int) = t then ((mn s).toNat : Int) else 0) = 0
        rw [if_neg (fun z => ht i (by omega) (by omega)), g3 t (fun j hj => ht j (by omega))]; rfl
theorem fewT_fb {c : Int} {K : Nat} {sz mn od : Int → Int} (hG : GLok c K sz mn od) (hP : PkL c K sz mn od) : fbOK c K sz mn (fewT c K sz mn od).2.2.2.2.2.2 := by
  have hK6 := hG.2.1
  have hc := hG.1
  have z : fbOK c K sz mn (fun _ => 0) := ⟨fun s _ => ⟨Int.le_refl _, fun _ => rfl⟩, fun s hs => hG.2.2.2.1 s hs, by rw [sg_zero (fun j _ => Int.mul_zero _)]; exact hc.1⟩
  refine meetT_fb 24 0 mn _ _ hG (fun _ s _ => Int.le_refl _) z ?_
  obtain ⟨B, g1, g2, g3⟩ := pkA_I (r := 5) hP (by decide) hG.2.2.2.2.2.2.1 K (Nat.le_refl _)
  have ok := (pkA_ok hP (r := 5) K (Nat.le_refl _)).1
  generalize pkA c 5 sz mn od K = P at *
  have f : fbOK c K sz mn (fun s => cntF P.2.2.2.1 P.2.2.2.2 0 s P.2.1) := by
    refine ⟨fun s hs => ⟨(cntF_bd _).1, fun hk => ?_⟩, fun s hs => ?_, ?_⟩
    · have a := g1.2 0 s
      have b := g3 s (hG.out hk)
      have d := (cntF_bd (wh := P.2.2.2.1) (ts := P.2.2.2.2) (b := 0) (s := s) P.2.1).1
      have a' : cntF P.2.2.2.1 P.2.2.2.2 0 s P.2.1 ≤ B s := a
      show cntF P.2.2.2.1 P.2.2.2.2 0 s P.2.1 = 0
      omega
    · have a : cntF P.2.2.2.1 P.2.2.2.2 0 s P.2.1 ≤ B s := g1.2 0 s
      have := g2 s hs
      show cntF P.2.2.2.1 P.2.2.2.2 0 s P.2.1 ≤ mn s
      omega
    · by_cases e : 0 < P.1
      · have a : P.2.2.1 0 = sg (fun s => sz s * cntF P.2.2.2.1 P.2.2.2.2 0 s P.2.1) K := g1.1 0 e
        have b : 0 ≤ P.2.2.1 0 ∧ P.2.2.1 0 ≤ c := ok.2.1 0 e
        show sg (fun s => sz s * cntF P.2.2.2.1 P.2.2.2.2 0 s P.2.1) K ≤ c
        omega
      · rw [sg_zero (fun j hj => by
          show sz j * cntF P.2.2.2.1 P.2.2.2.2 0 j P.2.1 = 0
          rw [cntF_0 (fun t ht => by have := ok.2.2 t ht; omega), Int.mul_zero])]
        exact hc.1
  refine f.cg hK6 (fun s hs => ?_)
  show cntF P.2.2.2.1 P.2.2.2.2 ((s : Int) / 6) ((s : Int) % 6) P.2.1 = cntF P.2.2.2.1 P.2.2.2.2 0 s P.2.1
  rw [show (s : Int) / 6 = 0 by omega, show (s : Int) % 6 = s by omega]
