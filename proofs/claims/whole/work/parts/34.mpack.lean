/-! packing as the model has it -/
def frM (S F : List Int) (M M' : mM) : Prop := (∀ n, n ∉ S → n ≠ 112 → M' n = M n) ∧ ∀ i, i ∉ F → M' 112 i = M 112 i
theorem frM.rf {S F : List Int} {M : mM} : frM S F M M := ⟨fun _ _ _ => rfl, fun _ _ => rfl⟩
theorem frM.tr {S F : List Int} {M M' M'' : mM} (h : frM S F M M') (h' : frM S F M' M'') : frM S F M M'' := ⟨fun n hn h2 => (h'.1 n hn h2).trans (h.1 n hn h2), fun i hi => (h'.2 i hi).trans (h.2 i hi)⟩
theorem frM.up {S F : List Int} {M M' : mM} {n i v : Int} (h : frM S F M M') (hn : n ∈ S) (h2 : n ≠ 112) : frM S F M (mUp M' n i v) := ⟨fun m hm h3 => by
  have e : m ≠ n := fun e => hm (by rw [e]; exact hn)
  rw [up_row e]; exact h.1 m hm h3, fun i hi => by rw [up_row (fun e => h2 e.symm)]; exact h.2 i hi⟩
theorem frM.fl {S F : List Int} {M M' : mM} {i v : Int} (h : frM S F M M') (hi : i ∈ F) : frM S F M (mUp M' 112 i v) := ⟨fun m hm h3 => by rw [up_row h3]; exact h.1 m hm h3, fun j hj => by
  have e : j ≠ i := fun e => hj (by rw [e]; exact hi)
  rw [up_fld e]; exact h.2 j hj⟩
theorem frM.w {S F S' F' : List Int} {M M' : mM} (h : frM S F M M') (hs : ∀ n, n ∈ S → n ∈ S') (hf : ∀ n, n ∈ F → n ∈ F') : frM S' F' M M' := ⟨fun n hn h2 => h.1 n (fun z => hn (hs n z)) h2, fun i hi => h.2 i (fun z => hi (hf i z))⟩
theorem c_X10_fitting {d k : Nat} {M : mM} {Q : mRes → mM → Prop} {c by_ its : Int} {n : Nat} {f : Int → Int} (hn : M 112 38 = n) (hn2 : n ≤ 100) (hf : ∀ b : Nat, b < n → M 126 b = c - f b) (hw : 0 ≤ by_ ∧ by_ ≤ 3) (hQ : ∀ r, r = chF f (c - its) by_ n → Q (.inl (some (mI r))) M) : V d k qX10_fitting 0 [mR 18 58 112, mI by_, mI its, mE 0, mE 0] [] M Q := by
  have loop : by_ ≠ 0 → ∀ (r j : Nat), j + r = n → V d k qX10_fitting 5 [mR 18 58 112, mI by_, mI its, mI (scn f (c - its) by_ j), mI j] [] M Q := by
    intro h0 r
    induction r with
    | zero =>
      intro j hj
      refine B_X10_fitting_5  ⟨fun c1 => ?_, fun c1 => ⟨?_, fun c2 => ⟨?_, ?_⟩, fun c2 => ⟨fun c3 => ?_, fun c3 => ⟨?_, fun c4 => ?_, fun c4 => ⟨?_, ?_⟩⟩⟩⟩⟩ <;> try omega
      · exact hQ _ (by unfold chF; rw [if_neg h0, show j = n by omega])
    | succ r ih =>
      intro j hj
      have hb := scn_bd (f := f) (most := c - its) (way := by_) j
      have e : scn f (c - its) by_ (j + 1) = if f j ≤ c - its ∧ (scn f (c - its) by_ j < 0 ∨ (by_ = 2 ∧ f (scn f (c - its) by_ j) < f j) ∨ (by_ = 3 ∧ f j < f (scn f (c - its) by_ j))) then (j : Int) else scn f (c - its) by_ j := rfl
      have ih := ih (j + 1) (by omega)
      have hfj := hf j (by omega)
      have hfb : 0 ≤ scn f (c - its) by_ j → M 126 (scn f (c - its) by_ j) = c - f (scn f (c - its) by_ j) := fun z => by
        obtain ⟨b, hb⟩ : ∃ b : Nat, scn f (c - its) by_ j = b := ⟨(scn f (c - its) by_ j).toNat, by omega⟩
        rw [hb]; exact hf b (by omega)
      generalize scn f (c - its) by_ j = x at *
      have h69 : x ≠ -1 → f j ≤ c - its → (by_ = 2 → ¬ f x < f j) → V d k qX10_fitting 69 [mR 18 58 112, mI by_, mI its, mI x, mI j] [] M Q := fun z1 z2 z3 => by
        have hfb := hfb (by omega)
        refine B_X10_fitting_69  ⟨fun c1 => ⟨?_, ?_⟩, fun c1 => ⟨?_, ?_, fun c2 => ⟨?_, ?_⟩, fun c2 => ⟨?_, ?_⟩⟩⟩ <;> try omega
        · rw [e, if_neg (by omega)] at ih; exact ih
        · rw [e, if_neg (by omega)] at ih; exact ih
        · rw [e, if_pos (by omega)] at ih; exact ih
      have h43 : f j ≤ c - its → V d k qX10_fitting 43 [mR 18 58 112, mI by_, mI its, mI x, mI j] [] M Q := fun z => by
        refine B_X10_fitting_43  ⟨fun c1 => ⟨?_, ?_⟩, fun c1 => ⟨fun c2 => ?_, fun c2 => ⟨?_, ?_, fun c3 => ⟨?_, ?_⟩, fun c3 => ?_⟩⟩⟩ <;> try omega
        · rw [e, if_pos (by omega)] at ih; exact ih
        · exact h69 (by omega) z (by omega)
        · have hfb := hfb (by omega)
          rw [e, if_pos (by omega)] at ih; exact ih
        · have hfb := hfb (by omega)
          exact h69 (by omega) z (by omega)
      refine B_X10_fitting_5  ⟨fun c1 => ?_, fun c1 => ⟨?_, fun c2 => ⟨?_, ?_⟩, fun c2 => ⟨fun c3 => ?_, fun c3 => ⟨?_, fun c4 => ?_, fun c4 => ⟨?_, ?_⟩⟩⟩⟩⟩ <;> try omega
      · rw [e, if_neg (by omega)] at ih; exact ih
      · exact h43 (by omega)
  refine B_X10_fitting_0 ?_
  by_cases h0 : by_ = 0
  · subst h0
    have loop0 : ∀ (r j : Nat), j + r + 1 = n → V d k qX10_fitting 5 [mR 18 58 112, mI 0, mI its, mI (-1), mI j] [] M Q := by
      intro r
      induction r with
      | zero =>
        intro j hj
        have hfj := hf j (by omega)
        have ej : (n : Int) - 1 = j := by omega
        have fin : ∀ x : Int, x = chF f (c - its) 0 n → V d k qX10_fitting 5 [mR 18 58 112, mI 0, mI its, mI x, mI ((j : Int) + 1)] [] M Q := fun x hx => by
          refine B_X10_fitting_5  ⟨fun c1 => ?_, fun c1 => ⟨?_, fun c2 => ⟨?_, ?_⟩, fun c2 => ⟨fun c3 => ?_, fun c3 => ⟨?_, fun c4 => ?_, fun c4 => ⟨?_, ?_⟩⟩⟩⟩⟩ <;> try omega
          · exact hQ _ hx
        refine B_X10_fitting_5  ⟨fun c1 => ?_, fun c1 => ⟨?_, fun c2 => ⟨?_, ?_⟩, fun c2 => ⟨fun c3 => ?_, fun c3 => ⟨?_, fun c4 => ?_, fun c4 => ⟨?_, ?_⟩⟩⟩⟩⟩ <;> try omega
        · exact fin _ (by unfold chF; rw [if_pos rfl, if_neg (by omega), ej, if_neg (by omega)])
        · refine B_X10_fitting_43  ⟨fun c1 => ⟨?_, ?_⟩, fun c1 => ⟨fun c2 => ?_, fun c2 => ⟨?_, ?_, fun c3 => ⟨?_, ?_⟩, fun c3 => ?_⟩⟩⟩ <;> try omega
          · exact fin _ (by unfold chF; rw [if_pos rfl, if_neg (by omega), ej, if_pos (by omega)])
      | succ r ih =>
        intro j hj
        refine B_X10_fitting_5  ⟨fun c1 => ?_, fun c1 => ⟨?_, fun c2 => ⟨?_, ?_⟩, fun c2 => ⟨fun c3 => ?_, fun c3 => ⟨?_, fun c4 => ?_, fun c4 => ⟨?_, ?_⟩⟩⟩⟩⟩ <;> try omega
        · exact ih (j + 1) (by omega)
        · exact ih (j + 1) (by omega)
    by_cases hz : n = 0
    · subst hz
      refine B_X10_fitting_5  ⟨fun c1 => ?_, fun c1 => ⟨?_, fun c2 => ⟨?_, ?_⟩, fun c2 => ⟨fun c3 => ?_, fun c3 => ⟨?_, fun c4 => ?_, fun c4 => ⟨?_, ?_⟩⟩⟩⟩⟩ <;> try omega
      · exact hQ _ (by unfold chF; rw [if_pos rfl, if_pos rfl])
    · exact loop0 (n - 1) 0 (by omega)
  · exact loop h0 n 0 (by omega)
/-- the model's bins: n of them, so full, of room c -/
def mbRel (c : Int) (M : mM) (n : Nat) (f : Int → Int) : Prop := M 112 38 = n ∧ M 112 33 = c ∧ ∀ b : Nat, b < n → M 126 b = c - f b
def ciF (c way z : Int) (n : Nat) (f : Int → Int) : Int := if chF f (c - z) way n = -1 then (n : Int) else chF f (c - z) way n
def ciN (c way z : Int) (n : Nat) (f : Int → Int) : Nat := if chF f (c - z) way n = -1 then n + 1 else n
def ciG (c way z : Int) (n : Nat) (f : Int → Int) : Int → Int := if chF f (c - z) way n = -1 then fset f n z else fset f (chF f (c - z) way n) (f (chF f (c - z) way n) + z)
theorem c_X10_comesInto {d k : Nat} {M : mM} {Q : mRes → mM → Prop} {c by_ s : Int} {n : Nat} {f : Int → Int} (hb : mbRel c M n f) (hn2 : n < 100) (hw : 0 ≤ by_ ∧ by_ ≤ 3) (hs : 0 ≤ s ∧ s < 6) (hz : 0 ≤ M 122 s ∧ M 122 s ≤ 99) (hc : 1 ≤ c ∧ c ≤ 99) (hfb : ∀ b : Nat, b < n → 0 ≤ f b ∧ f b ≤ 1000)
    (hQ : ∀ M', frM [126] [38] M M' → mbRel c M' (ciN c by_ (M 122 s) n f) (ciG c by_ (M 122 s) n f) → Q (.inl (some (mI (ciF c by_ (M 122 s) n f)))) M') : V (d + 1) k qX10_comesInto 0 [mR 18 58 112, mI by_, mI s, mE 0] [] M Q := by
  obtain ⟨h1, h2, h3⟩ := hb
  have hrb := chF_bd (f := f) (most := c - M 122 s) (way := by_) (n := n)
  refine B_X10_comesInto_0 ⟨hs, c_X10_fitting h1 (by omega) h3 hw (fun r hr => ?_)⟩
  refine B_X10_comesInto_11  ⟨fun c1 => ?_, fun c1 => ⟨?_, ?_, ?_⟩⟩ <;> try omega
  · obtain ⟨b, hb⟩ : ∃ b : Nat, r = b := ⟨r.toNat, by omega⟩
    subst hb
    have h4 := h3 b (by omega)
    have h5 := hfb b (by omega)
    have e : chF f (c - M 122 s) by_ n ≠ -1 := by omega
    unfold ciF ciN ciG at hQ
    rw [if_neg e, if_neg e, if_neg e, ← hr] at hQ
    refine B_X10_comesInto_42  ⟨?_, ?_, ?_, ?_, ?_⟩ <;> try omega
    · refine hQ _ (frM.rf.up (by simp) (by decide)) ⟨by rw [up_row (by decide)]; exact h1, by rw [up_row (by decide)]; exact h2, fun b' hb' => ?_⟩
      by_cases e2 : (b' : Int) = b
      · rw [e2, up_s, fset_s]; omega
      · rw [up_i e2 rfl, fset_n e2]; exact h3 b' hb'
  · have e : chF f (c - M 122 s) by_ n = -1 := by omega
    unfold ciF ciN ciG at hQ
    rw [if_pos e, if_pos e, if_pos e] at hQ
    rw [h1, h2]
    have e1 : (mUp (mUp M 126 n c) 112 38 ((n : Int) + 1)) 126 (n : Int) = c := by rw [up_row (by decide), up_s]
    have e2 : (mUp (mUp M 126 n c) 112 38 ((n : Int) + 1)) 122 s = M 122 s := by rw [up_row (by decide), up_row (by decide)]
    refine B_X10_comesInto_42  ⟨?_, ?_, ?_, ?_, ?_⟩ <;> try omega
    · rw [e1, e2]
      refine hQ _ (((frM.rf.up (by simp) (by decide)).fl (by simp)).up (by simp) (by decide)) ⟨by rw [up_row (by decide), up_s]; simp, by rw [up_row (by decide), up_fld (by decide), up_row (by decide)]; exact h2, fun b' hb' => ?_⟩
      by_cases e3 : (b' : Int) = n
      · rw [e3, up_s, fset_s]
      · rw [up_i e3 rfl, fset_n e3, up_row (by decide), up_i e3 rfl]; exact h3 b' (by omega)
def mpRel (c : Int) (M : mM) (P : pkT) : Prop := mbRel c M P.1 P.2.2.1 ∧ M 112 37 = P.2.1 ∧ ∀ t : Nat, t < P.2.1 → M 125 t = P.2.2.2.1 t ∧ M 124 t = P.2.2.2.2 t
theorem pkS_ci {c way s z : Int} {P : pkT} : pkS c way s z P = (ciN c way z P.1 P.2.2.1, P.2.1 + 1, ciG c way z P.1 P.2.2.1, fset P.2.2.2.1 P.2.1 (ciF c way z P.1 P.2.2.1), fset P.2.2.2.2 P.2.1 s) := by
  unfold pkS ciN ciG ciF
  split <;> rfl
set_option maxHeartbeats 1000000 in
theorem c_X10_packs {d k : Nat} {M : mM} {Q : mRes → mM → Prop} {c r : Int} {K : Nat} (hc : M 112 33 = c) (hK : M 112 7 = K) (h : PkL c K (M 122) (M 121) (M 123)) (hr : 0 ≤ r ∧ r ≤ 7)
    (hQ : ∀ M', frM [124, 125, 126] [37, 38] M M' → mpRel c M' (pkA c r (M 122) (M 121) (M 123) K) → Q (.inl (some (mI (pkA c r (M 122) (M 121) (M 123) K).1))) M') : V (d + 2) k qX10_packs 0 [mR 18 58 112, mI r, mE 0, mE 0, mE 0] [] M Q := by
  have h6 := h.2.2.1
  have hsum := h.sum (r := r)
  have out : ∀ {M' : mM}, frM [124, 125, 126] [37, 38] M M' → M' 121 = M 121 ∧ M' 122 = M 122 ∧ M' 123 = M 123 ∧ M' 112 7 = M 112 7 := fun g => ⟨g.1 121 (by simp) (by decide), g.1 122 (by simp) (by decide), g.1 123 (by simp) (by decide), g.2 7 (by simp)⟩
  have outer : ∀ (ri i : Nat) (u3 u4 : mV) (M' : mM), i + ri = K → frM [124, 125, 126] [37, 38] M M' → mpRel c M' (pkA c r (M 122) (M 121) (M 123) i) → V (d + 2) k qX10_packs 12 [mR 18 58 112, mI r, mI i, u3, u4] [] M' Q := by
    intro ri
    induction ri with
    | zero =>
      intro i u3 u4 M' hi g1 g2
      obtain ⟨o1, o2, o3, o4⟩ := out g1
      have e : i = K := by omega
      subst e
      refine B_X10_packs_12  ⟨fun c1 => ?_, fun c1 => ⟨fun c2 => ⟨?_, ?_⟩, fun c2 => ?_⟩⟩ <;> try omega
      · rw [g2.1.1]; exact hQ M' g1 g2
    | succ ri ih =>
      intro i u3 u4 M' hi g1 g2
      obtain ⟨o1, o2, o3, o4⟩ := out g1
      have hsq := h.sq (r := r) (i := i) (by omega)
      have hA := pkA_ok h (r := r) i (by omega)
      have hle := sg_le (f := fun i => M 121 (sqF r (M 123) i)) (n := i + 1) (m := K) (by omega) (fun j hj => (h.sq (r := r) hj).2.2.1)
      have hle2 : sg (fun i => M 121 (sqF r (M 123) i)) (i + 1) = sg (fun i => M 121 (sqF r (M 123) i)) i + M 121 (sqF r (M 123) i) := rfl
      have inner : ∀ (rj j : Nat) (M' : mM), (j : Int) + rj = M 121 (sqF r (M 123) i) → frM [124, 125, 126] [37, 38] M M' → mpRel c M' (pkN c (r % 4) (sqF r (M 123) i) (M 122 (sqF r (M 123) i)) (pkA c r (M 122) (M 121) (M 123) i) j) → V (d + 2) k qX10_packs 39 [mR 18 58 112, mI r, mI i, mI (sqF r (M 123) i), mI j] [] M' Q := by
        intro rj
        induction rj with
        | zero =>
          intro j M' hj g1 g2
          obtain ⟨o1, o2, o3, o4⟩ := out g1
          refine B_X10_packs_39  ⟨?_, fun c1 => ⟨?_, ?_⟩, fun c1 => ⟨?_, ?_, ?_⟩⟩ <;> try omega
          · refine ih (i + 1) _ _ M' (by omega) g1 ?_
            rw [pkA_s, show (M 121 (sqF r (M 123) i)).toNat = j by omega]
            exact g2
          all_goals (rw [o1] at c1; omega)
        | succ rj ihj =>
          intro j M' hj g1 g2
          obtain ⟨o1, o2, o3, o4⟩ := out g1
          have hz := hsq.2.2.2.2 (by omega)
          have hN := pkN_ok (way := r % 4) (s := sqF r (M 123) i) (z := M 122 (sqF r (M 123) i)) hA.1 (by omega) (by omega) j
          have ihj := ihj (j + 1)
          rw [show pkN c (r % 4) (sqF r (M 123) i) (M 122 (sqF r (M 123) i)) (pkA c r (M 122) (M 121) (M 123) i) (j + 1) = _ from pkS_ci] at ihj
          generalize pkN c (r % 4) (sqF r (M 123) i) (M 122 (sqF r (M 123) i)) (pkA c r (M 122) (M 121) (M 123) i) j = P at *
          obtain ⟨⟨b1, b2, b3⟩, b4, b5⟩ := g2
          have hP1 := hN.1.1
          have hP2 := hN.2
          have eM : (mUp M' 124 (M' 112 37) (sqF r (M 123) i)) 122 (sqF r (M 123) i) = M 122 (sqF r (M 123) i) := by rw [up_row (by decide), o2]
          refine B_X10_packs_39  ⟨?_, fun c1 => ⟨?_, ?_⟩, fun c1 => ⟨?_, ?_, ?_⟩⟩ <;> try omega
          · rw [o1] at c1; omega
          · refine c_X10_comesInto (c := c) (n := P.1) (f := P.2.2.1) ⟨by rw [up_row (by decide)]; exact b1, by rw [up_row (by decide)]; exact b2, fun b hb => by rw [up_row (by decide)]; exact b3 b hb⟩ (by omega) (by omega) (by omega) (by rw [eM]; have := h.2.1; omega) ⟨h.1, h.2.1⟩ (fun b hb => by have := hN.1.2.1 b hb; have := h.2.1; omega) (fun M2 f1 f2 => ?_)
            rw [eM] at f2 ⊢
            have e37 : M2 112 37 = P.2.1 := by rw [f1.2 37 (by simp), up_row (by decide)]; exact b4
            refine B_X10_packs_76  ⟨?_, ?_, ?_, ?_⟩ <;> try omega
            · rw [b4, e37]
              refine ihj _ (by omega) ((((g1.up (by simp) (by decide)).tr (f1.w (by simp) (by simp))).up (by simp) (by decide)).fl (by simp)) ⟨⟨?_, ?_, fun b hb => ?_⟩, ?_, fun t ht => ?_⟩
              · rw [up_fld (by decide), up_row (by decide)]; exact f2.1
              · rw [up_fld (by decide), up_row (by decide)]; exact f2.2.1
              · rw [up_row (by decide), up_row (by decide)]; exact f2.2.2 b hb
              · rw [up_s]; simp
              · have ht : t < P.2.1 + 1 := ht
                refine ⟨?_, ?_⟩
                · show _ = fset P.2.2.2.1 _ _ _
                  rw [up_row (show (125 : Int) ≠ 112 by decide)]
                  by_cases e : t = P.2.1
                  · subst e; rw [up_s, fset_s]
                  · rw [up_i (by omega) rfl, fset_n (by omega), f1.1 125 (by simp) (by decide), up_row (by decide)]
                    exact (b5 t (by omega)).1
                · show _ = fset P.2.2.2.2 _ _ _
                  rw [up_row (show (124 : Int) ≠ 112 by decide), up_row (show (124 : Int) ≠ 125 by decide), f1.1 124 (by simp) (by decide), b4]
                  by_cases e : t = P.2.1
                  · subst e; rw [up_s, fset_s]
                  · rw [up_i (by omega) rfl, fset_n (by omega)]
                    exact (b5 t (by omega)).2
      have i0 := inner (M 121 (sqF r (M 123) i)).toNat 0 M' (by omega) g1 g2
      unfold sqF at i0
      refine B_X10_packs_12  ⟨fun c1 => ?_, fun c1 => ⟨fun c2 => ⟨?_, ?_⟩, fun c2 => ?_⟩⟩ <;> try omega
      · rw [if_neg (by omega)] at i0
        rw [o3]; exact i0
      · rw [if_pos (by omega)] at i0
        exact i0
  refine B_X10_packs_0 (outer K 0 _ _ _ (by omega) ((frM.rf.fl (by simp)).fl (by simp)) ⟨⟨by rw [up_fld (by decide), up_s]; rfl, by rw [up_fld (by decide), up_fld (by decide)]; exact hc, fun b hb => absurd hb (Nat.not_lt_zero b)⟩, by rw [up_s]; rfl, fun t ht => absurd ht (Nat.not_lt_zero t)⟩)
