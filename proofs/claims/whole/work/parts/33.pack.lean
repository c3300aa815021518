/-! packing by a rule: pure, and the class's -/
def scn (f : Int → Int) (most way : Int) : Nat → Int
  | 0 => -1
  | n + 1 => if f n ≤ most ∧ (scn f most way n < 0 ∨ (way = 2 ∧ f (scn f most way n) < f n) ∨ (way = 3 ∧ f n < f (scn f most way n))) then (n : Int) else scn f most way n
theorem scn_bd {f : Int → Int} {most way : Int} : ∀ n, -1 ≤ scn f most way n ∧ scn f most way n < n
  | 0 => by simp [scn]
  | n + 1 => by
    have ih := scn_bd (f := f) (most := most) (way := way) n
    unfold scn
    split <;> omega
theorem scn_one {f : Int → Int} {most way : Int} (hw : way ≠ 2 ∧ way ≠ 3) {n : Nat} (h : 0 ≤ scn f most way n) : ∀ m, scn f most way (n + m) = scn f most way n
  | 0 => rfl
  | m + 1 => by
    have ih := scn_one hw h m
    show (if f ((n + m : Nat) : Int) ≤ most ∧ (scn f most way (n + m) < 0 ∨ (way = 2 ∧ f (scn f most way (n + m)) < f ((n + m : Nat) : Int)) ∨ (way = 3 ∧ f ((n + m : Nat) : Int) < f (scn f most way (n + m)))) then ((n + m : Nat) : Int) else scn f most way (n + m)) = _
    rw [if_neg (by rw [ih]; omega)]
    exact ih
theorem scn_congr {f g : Int → Int} {most way : Int} : ∀ {n : Nat}, (∀ j : Nat, j < n → f j = g j) → scn f most way n = scn g most way n
  | 0, _ => rfl
  | n + 1, h => by
    have ih := scn_congr (most := most) (way := way) (n := n) (fun j hj => h j (by omega))
    have hb := scn_bd (f := g) (most := most) (way := way) n
    unfold scn
    rw [ih, h n (by omega)]
    by_cases h0 : scn g most way n < 0
    · simp [h0]
    · have e : f (scn g most way n) = g (scn g most way n) := by
        obtain ⟨j, hj⟩ : ∃ j : Nat, scn g most way n = j := ⟨(scn g most way n).toNat, by omega⟩
        rw [hj]
        exact h j (by omega)
      rw [e]
/-- into which of n bins, so full, that may be filled up to most before; -1: none -/
def chF (f : Int → Int) (most way : Int) (n : Nat) : Int := if way = 0 then (if n = 0 then -1 else if f ((n : Int) - 1) ≤ most then (n : Int) - 1 else -1) else scn f most way n
theorem chF_bd {f : Int → Int} {most way : Int} {n : Nat} : -1 ≤ chF f most way n ∧ chF f most way n < n := by
  have := scn_bd (f := f) (most := most) (way := way) n
  unfold chF
  split
  · split
    · omega
    · split <;> omega
  · omega
theorem chF_congr {f g : Int → Int} {most way : Int} {n : Nat} (h : ∀ j : Nat, j < n → f j = g j) : chF f most way n = chF g most way n := by
  unfold chF
  rw [scn_congr h]
  split
  · split
    · rfl
    · have := h (n - 1) (by omega)
      rw [show ((n - 1 : Nat) : Int) = (n : Int) - 1 by omega] at this
      rw [this]
  · rfl
theorem c_X4_isLiked {d k : Nat} {M : mM} {Q : mRes → mM → Prop} {x y w : Int} (hQ : ∀ r, r = (if (w = 2 ∧ y < x) ∨ (w = 3 ∧ x < y) then 1 else 0) → Q (.inl (some (mI r))) M) : V d k qX4_isLiked 0 [mI x, mI y, mI w] [] M Q := by
  have h10 : ¬ (w = 2 ∧ y < x) → V d k qX4_isLiked 10 [mI x, mI y, mI w] [] M Q := fun h => by
    refine B_X4_isLiked_10  ⟨fun c1 => ?_, fun c1 => ⟨fun c2 => ?_, fun c2 => ?_⟩⟩ <;> try omega
    · exact hQ _ (by rw [if_neg (by omega)])
    · exact hQ _ (by rw [if_neg (by omega)])
    · exact hQ _ (by rw [if_pos (by omega)])
  refine B_X4_isLiked_0  ⟨fun c1 => ?_, fun c1 => ⟨fun c2 => ?_, fun c2 => ?_⟩⟩ <;> try omega
  · exact h10 (by omega)
  · exact hQ _ (by rw [if_pos (by omega)])
  · exact h10 (by omega)
theorem c_X4_choose {d k : Nat} {M : mM} {Q : mRes → mM → Prop} {a1 most way : Int} {l1 n : Nat} (hl : l1 ≤ 1000) (hn : n ≤ l1) (hw : 0 ≤ way ∧ way ≤ 3) (hQ : ∀ r, r = chF (M a1) most way n → Q (.inl (some (mI r))) M) : V (d + 1) k qX4_choose 0 [mR 0 l1 a1, mI n, mI most, mI way, mE 0, mE 0, mE 0] [] M Q := by
  have loop : way ≠ 0 → ∀ (r j : Nat) (x4 : Int), j + r = n → V (d + 1) k qX4_choose 24 [mR 0 l1 a1, mI n, mI most, mI way, mI x4, mI (scn (M a1) most way j), mI j] [] M Q := by
    intro hw0 r
    induction r with
    | zero =>
      intro j x4 hj
      have e : scn (M a1) most way j = chF (M a1) most way n := by unfold chF; rw [if_neg hw0, show j = n by omega]
      refine B_X4_choose_24  ⟨fun c1 => ?_, fun c1 => ⟨?_, fun c2 => ?_, fun c2 => ⟨?_, fun c3 => ⟨?_, ?_⟩, fun c3 => ⟨fun c4 => ?_, fun c4 => ⟨?_, ?_, ?_⟩⟩⟩⟩⟩ <;> try omega
      all_goals exact hQ _ e
    | succ r ih =>
      intro j x4 hj
      have hb := scn_bd (f := M a1) (most := most) (way := way) j
      have e : scn (M a1) most way (j + 1) = if M a1 j ≤ most ∧ (scn (M a1) most way j < 0 ∨ (way = 2 ∧ M a1 (scn (M a1) most way j) < M a1 j) ∨ (way = 3 ∧ M a1 j < M a1 (scn (M a1) most way j))) then (j : Int) else scn (M a1) most way j := rfl
      have ih := ih (j + 1) x4 (by omega)
      have h65 : scn (M a1) most way (j + 1) = j → V (d + 1) k qX4_choose 65 [mR 0 l1 a1, mI n, mI most, mI way, mI x4, mI (scn (M a1) most way j), mI j] [] M Q := fun he => by
        rw [he] at ih
        refine B_X4_choose_65  ⟨fun c1 => ⟨?_, ?_⟩, fun c1 => ?_⟩ <;> try omega
        · exact ih
        · refine hQ _ ?_
          unfold chF
          rw [if_neg hw0]
          have := scn_one (f := M a1) (most := most) (way := way) (by omega) (n := j + 1) (by omega) r
          rw [show j + 1 + r = n by omega] at this
          rw [this, he]
      refine B_X4_choose_24  ⟨fun c1 => ?_, fun c1 => ⟨?_, fun c2 => ?_, fun c2 => ⟨?_, fun c3 => ⟨?_, ?_⟩, fun c3 => ⟨fun c4 => ?_, fun c4 => ⟨?_, ?_, ?_⟩⟩⟩⟩⟩ <;> try omega
      · rw [e, if_neg (by omega)] at ih
        exact ih
      · exact h65 (by rw [e, if_pos (by omega)])
      · refine c_X4_isLiked (fun r2 hr2 => ?_)
        refine B_X4_choose_62  ⟨fun c1 => ⟨?_, ?_⟩, fun c1 => ?_⟩ <;> try omega
        · rw [e, if_neg (by intro z; rw [if_pos (by omega)] at hr2; omega)] at ih
          exact ih
        · refine h65 ?_
          rw [e, if_pos]
          by_cases z : (way = 2 ∧ M a1 (scn (M a1) most way j) < M a1 j) ∨ (way = 3 ∧ M a1 j < M a1 (scn (M a1) most way j))
          · exact ⟨by omega, Or.inr z⟩
          · rw [if_neg z] at hr2; omega
  refine B_X4_choose_0  ⟨fun c1 => ?_, fun c1 => ⟨?_, ?_⟩⟩ <;> try omega
  · exact loop (by omega) n 0 0 (by omega)
  · by_cases h0 : n = 0
    · subst h0
      refine B_X4_choose_24  ⟨fun c1 => ?_, fun c1 => ⟨?_, fun c2 => ?_, fun c2 => ⟨?_, fun c3 => ⟨?_, ?_⟩, fun c3 => ⟨fun c4 => ?_, fun c4 => ⟨?_, ?_, ?_⟩⟩⟩⟩⟩ <;> try omega
      · exact hQ _ (by unfold chF; rw [if_pos (by omega), if_pos rfl])
    · have hmx : max ((n : Int) - 1) 0 = (n : Int) - 1 := by omega
      rw [hmx]
      refine B_X4_choose_24  ⟨fun c1 => ?_, fun c1 => ⟨?_, fun c2 => ?_, fun c2 => ⟨?_, fun c3 => ⟨?_, ?_⟩, fun c3 => ⟨fun c4 => ?_, fun c4 => ⟨?_, ?_, ?_⟩⟩⟩⟩⟩ <;> try omega
      · refine B_X4_choose_24  ⟨fun c1 => ?_, fun c1 => ⟨?_, fun c2 => ?_, fun c2 => ⟨?_, fun c3 => ⟨?_, ?_⟩, fun c3 => ⟨fun c4 => ?_, fun c4 => ⟨?_, ?_, ?_⟩⟩⟩⟩⟩ <;> try omega
        · exact hQ _ (by unfold chF; rw [if_pos (by omega), if_neg h0, if_neg (by omega)])
      · refine B_X4_choose_65  ⟨fun c1 => ⟨?_, ?_⟩, fun c1 => ?_⟩ <;> try omega
        · exact hQ _ (by unfold chF; rw [if_pos (by omega), if_neg h0, if_pos (by omega)])
/-- what is packed: bins, things, how full, in which bin a thing is, of which sort it is -/
abbrev pkT : Type := Nat × Nat × (Int → Int) × (Int → Int) × (Int → Int)
def fset (f : Int → Int) (i v : Int) : Int → Int := fun j => if j = i then v else f j
def pkS (c way s z : Int) (P : pkT) : pkT :=
  if chF P.2.2.1 (c - z) way P.1 = -1 then (P.1 + 1, P.2.1 + 1, fset P.2.2.1 P.1 z, fset P.2.2.2.1 P.2.1 P.1, fset P.2.2.2.2 P.2.1 s)
  else (P.1, P.2.1 + 1, fset P.2.2.1 (chF P.2.2.1 (c - z) way P.1) (P.2.2.1 (chF P.2.2.1 (c - z) way P.1) + z), fset P.2.2.2.1 P.2.1 (chF P.2.2.1 (c - z) way P.1), fset P.2.2.2.2 P.2.1 s)
def pkN (c way s z : Int) (P : pkT) : Nat → pkT
  | 0 => P
  | j + 1 => pkS c way s z (pkN c way s z P j)
def pk0 : pkT := (0, 0, fun _ => 0, fun _ => 0, fun _ => 0)
def pkA (c r : Int) (sz mn od : Int → Int) : Nat → pkT
  | 0 => pk0
  | i + 1 => pkN c (r % 4) (if r < 4 then (i : Int) else od i) (sz (if r < 4 then (i : Int) else od i)) (pkA c r sz mn od i) (mn (if r < 4 then (i : Int) else od i)).toNat
/-- how many of sort s are in bin b, of the first t things -/
def cntF (wh ts : Int → Int) (b s : Int) : Nat → Int
  | 0 => 0
  | t + 1 => cntF wh ts b s t + if wh t = b ∧ ts t = s then 1 else 0
theorem cntF_bd {wh ts : Int → Int} {b s : Int} : ∀ t, 0 ≤ cntF wh ts b s t ∧ cntF wh ts b s t ≤ t
  | 0 => by simp [cntF]
  | t + 1 => by
    have ih := cntF_bd (wh := wh) (ts := ts) (b := b) (s := s) t
    unfold cntF
    split <;> omega
theorem cntF_congr {wh ts wh' ts' : Int → Int} {b s : Int} : ∀ {t : Nat}, (∀ j : Nat, j < t → wh j = wh' j ∧ ts j = ts' j) → cntF wh ts b s t = cntF wh' ts' b s t
  | 0, _ => rfl
  | t + 1, h => by
    unfold cntF
    rw [cntF_congr (fun j hj => h j (by omega)), (h t (by omega)).1, (h t (by omega)).2]
/-- sound: as many bins as things at most, a thing's bin is there, no bin is more than full -/
def pkOK (c : Int) (P : pkT) : Prop := P.1 ≤ P.2.1 ∧ (∀ b : Nat, b < P.1 → 0 ≤ P.2.2.1 b ∧ P.2.2.1 b ≤ c) ∧ (∀ t : Nat, t < P.2.1 → 0 ≤ P.2.2.2.1 t ∧ P.2.2.2.1 t < P.1 ∧ 0 ≤ P.2.2.2.2 t ∧ P.2.2.2.2 t < 6)
theorem scn_fit {f : Int → Int} {most way : Int} : ∀ n, 0 ≤ scn f most way n → f (scn f most way n) ≤ most
  | 0, h => by simp [scn] at h
  | n + 1, h => by
    unfold scn at h ⊢
    split at h
    · rename_i hc
      rw [if_pos hc]; exact hc.1
    · rename_i hc
      rw [if_neg hc]; exact scn_fit n h
theorem chF_fit {f : Int → Int} {most way : Int} {n : Nat} (h : 0 ≤ chF f most way n) : f (chF f most way n) ≤ most := by
  unfold chF at h ⊢
  split at h
  · rename_i h0
    rw [if_pos h0]
    split at h
    · omega
    · rename_i h1
      rw [if_neg h1]
      split at h
      · rename_i h2
        rw [if_pos h2]; exact h2
      · omega
  · rename_i h0
    rw [if_neg h0]
    exact scn_fit n h
theorem fset_s {f : Int → Int} {i v : Int} : fset f i v i = v := by unfold fset; rw [if_pos rfl]
theorem fset_n {f : Int → Int} {i v j : Int} (h : j ≠ i) : fset f i v j = f j := by unfold fset; rw [if_neg h]
theorem pkS_ok {c way s z : Int} {P : pkT} (h : pkOK c P) (hz : 0 ≤ z ∧ z ≤ c) (hs : 0 ≤ s ∧ s < 6) : pkOK c (pkS c way s z P) ∧ (pkS c way s z P).2.1 = P.2.1 + 1 := by
  obtain ⟨h1, h2, h3⟩ := h
  have hb := chF_bd (f := P.2.2.1) (most := c - z) (way := way) (n := P.1)
  unfold pkS
  split
  · refine ⟨⟨by simp only []; omega, fun b hb => ?_, fun t ht => ?_⟩, rfl⟩
    · simp only [] at hb ⊢
      by_cases e : b = P.1
      · subst e; rw [fset_s]; omega
      · rw [fset_n (by omega)]; exact h2 b (by omega)
    · simp only [] at ht ⊢
      by_cases e : t = P.2.1
      · subst e; rw [fset_s, fset_s]; omega
      · rw [fset_n (by omega), fset_n (by omega)]
        have := h3 t (by omega)
        omega
  · rename_i hne
    have hfit := chF_fit (f := P.2.2.1) (most := c - z) (way := way) (n := P.1) (by omega)
    refine ⟨⟨by simp only []; omega, fun b hb9 => ?_, fun t ht => ?_⟩, rfl⟩
    · simp only [] at hb9 ⊢
      by_cases e : (b : Int) = chF P.2.2.1 (c - z) way P.1
      · rw [← e] at hfit ⊢
        rw [fset_s]
        have := h2 b hb9
        omega
      · rw [fset_n e]; exact h2 b hb9
    · simp only [] at ht ⊢
      by_cases e : t = P.2.1
      · subst e; rw [fset_s, fset_s]; omega
      · rw [fset_n (by omega), fset_n (by omega)]
        exact h3 t (by omega)
theorem pkN_ok {c way s z : Int} {P : pkT} (h : pkOK c P) (hz : 0 ≤ z ∧ z ≤ c) (hs : 0 ≤ s ∧ s < 6) : ∀ j, pkOK c (pkN c way s z P j) ∧ (pkN c way s z P j).2.1 = P.2.1 + j
  | 0 => ⟨h, rfl⟩
  | j + 1 => by
    have ih := pkN_ok h hz hs (way := way) j
    have h1 := pkS_ok (way := way) ih.1 hz hs
    exact ⟨h1.1, by show (pkS c way s z (pkN c way s z P j)).2.1 = _; rw [h1.2, ih.2]; omega⟩
/-- nothing changes but these names -/
def frN (S : List Int) (M M' : mM) : Prop := ∀ n, n ∉ S → M' n = M n
theorem frN.rf {S : List Int} {M : mM} : frN S M M := fun _ _ => rfl
theorem frN.tr {S : List Int} {M M' M'' : mM} (h : frN S M M') (h' : frN S M' M'') : frN S M M'' := fun n hn => (h' n hn).trans (h n hn)
theorem frN.up {S : List Int} {M M' : mM} {n i v : Int} (h : frN S M M') (hn : n ∈ S) : frN S M (mUp M' n i v) := fun m hm => by
  have e : m ≠ n := fun e => hm (by rw [e]; exact hn)
  rw [up_row e]
  exact h m hm
theorem frN.w {S T : List Int} {M M' : mM} (h : frN S M M') (hs : ∀ n, n ∈ S → n ∈ T) : frN T M M' := fun n hn => h n (fun z => hn (hs n z))
def pkRel (n0 : Int) (M : mM) (P : pkT) : Prop := M n0 3 = P.1 ∧ M n0 2 = P.2.1 ∧ (∀ b : Nat, b < P.1 → M (n0 + 3) b = P.2.2.1 b) ∧ (∀ t : Nat, t < P.2.1 → M (n0 + 1) t = P.2.2.2.1 t) ∧ ∀ b : Nat, b < P.1 → ∀ s : Nat, s < 6 → M (n0 + 2) ((b : Int) * 6 + s) = cntF P.2.2.2.1 P.2.2.2.2 b s P.2.1
theorem c_X4_openBin {d k : Nat} {M : mM} {Q : mRes → mM → Prop} {n0 : Int} {b : Nat} (hn0 : n0 = 28 ∨ n0 = 34) (hb : M n0 3 = b) (hb2 : b < 24)
    (hQ : ∀ M', frN [n0, n0 + 2, n0 + 3] M M' → M' n0 3 = b + 1 → M' n0 2 = M n0 2 → (∀ j, M' (n0 + 3) j = if j = b then 0 else M (n0 + 3) j) → (∀ j, M' (n0 + 2) j = if (b : Int) * 6 ≤ j ∧ j < (b : Int) * 6 + 6 then 0 else M (n0 + 2) j) → Q (.inl (some (mI b))) M') : V d k qX4_openBin 0 [mR 13 5 n0, mE 0] [] M Q := by
  have loop : ∀ (r i : Nat) (M' : mM), i + r = 6 → frN [n0, n0 + 2, n0 + 3] M M' → M' n0 3 = b → M' n0 2 = M n0 2 → (∀ j, M' (n0 + 3) j = if j = b then 0 else M (n0 + 3) j) → (∀ j, M' (n0 + 2) j = if (b : Int) * 6 ≤ j ∧ j < (b : Int) * 6 + i then 0 else M (n0 + 2) j) → V d k qX4_openBin 12 [mR 13 5 n0, mI i] [] M' Q := by
    intro r
    induction r with
    | zero =>
      intro i M' hi h1 h2 h3 h4 h5
      refine B_X4_openBin_12 hn0 ⟨fun c1 => ⟨?_, ?_, ?_⟩, fun c1 => ⟨?_, ?_, ?_, ?_, ?_⟩⟩ <;> try omega
      · rw [show M' n0 3 + 1 - 1 = (b : Int) by omega]
        refine hQ _ (h1.up (by simp)) (by rw [up_s]; omega) (by rw [up_fld (by decide)]; exact h3) (fun j => ?_) (fun j => ?_)
        · rw [up_row (by omega)]; exact h4 j
        · rw [up_row (by omega), h5 j, show (b : Int) * 6 + i = (b : Int) * 6 + 6 by omega]
    | succ r ih =>
      intro i M' hi h1 h2 h3 h4 h5
      refine B_X4_openBin_12 hn0 ⟨fun c1 => ⟨?_, ?_, ?_⟩, fun c1 => ⟨?_, ?_, ?_, ?_, ?_⟩⟩ <;> try omega
      · refine ih (i + 1) _ (by omega) (h1.up (by simp)) (by rw [up_row (by omega)]; exact h2) (by rw [up_row (by omega)]; exact h3) (fun j => ?_) (fun j => ?_)
        · rw [up_row (by omega)]; exact h4 j
        · rw [h2]
          by_cases e : j = (b : Int) * 6 + i
          · subst e; rw [up_s, if_pos (by omega)]
          · rw [up_i e rfl, h5 j]
            by_cases e2 : (b : Int) * 6 ≤ j ∧ j < (b : Int) * 6 + i
            · rw [if_pos e2, if_pos (by omega)]
            · rw [if_neg e2, if_neg (by omega)]
  refine B_X4_openBin_0 hn0 ⟨by omega, ?_⟩
  refine loop 6 0 _ (by omega) (frN.rf.up (by simp)) (by rw [up_row (by omega)]; exact hb) (by rw [up_row (by omega)]) (fun j => ?_) (fun j => ?_)
  · rw [hb]
    by_cases e : j = (b : Int)
    · subst e; rw [up_s, if_pos rfl]
    · rw [up_i e rfl, if_neg e]
  · rw [up_row (by omega), if_neg (by omega)]
set_option maxHeartbeats 1000000 in
theorem c_X4_packOne {d k : Nat} {M : mM} {Q : mRes → mM → Prop} {n0 c way s z : Int} {P : pkT} (hn0 : n0 = 28 ∨ n0 = 34) (hP : pkRel n0 M P) (hok : pkOK c P) (hc : 1 ≤ c ∧ c ≤ 99) (hz : 0 ≤ z ∧ z ≤ c) (hs : 0 ≤ s ∧ s < 6) (hw : 0 ≤ way ∧ way ≤ 3) (ht : P.2.1 < 24)
    (hQ : ∀ M', frN [n0, n0 + 1, n0 + 2, n0 + 3] M M' → pkRel n0 M' (pkS c way s z P) → Q (.inl none) M') : V (d + 2) k qX4_packOne 0 [mR 13 5 n0, mI s, mI z, mI c, mI way, mE 0] [] M Q := by
  obtain ⟨h1, h2, h3, h4, h5⟩ := hP
  have hbt := hok.1
  have last : ∀ (M' : mM) (b n : Nat), b < n → n ≤ 24 → frN [n0, n0 + 1, n0 + 2, n0 + 3] M M' → M' n0 3 = n → M' n0 2 = P.2.1 → (0 ≤ M' (n0 + 3) b ∧ M' (n0 + 3) b ≤ c) → (∀ t : Nat, t < P.2.1 → M' (n0 + 1) t = P.2.2.2.1 t) → (∀ b' : Nat, b' < n → ∀ s : Nat, s < 6 → M' (n0 + 2) ((b' : Int) * 6 + s) = cntF P.2.2.2.1 P.2.2.2.2 b' s P.2.1) →
      pkS c way s z P = (n, P.2.1 + 1, fset (M' (n0 + 3)) b (M' (n0 + 3) b + z), fset P.2.2.2.1 P.2.1 b, fset P.2.2.2.2 P.2.1 s) ∨ (pkS c way s z P).1 = n ∧ (pkS c way s z P).2.1 = P.2.1 + 1 ∧ (∀ b' : Nat, b' < n → (pkS c way s z P).2.2.1 b' = fset (M' (n0 + 3)) b (M' (n0 + 3) b + z) b') ∧ (pkS c way s z P).2.2.2.1 = fset P.2.2.2.1 P.2.1 b ∧ (pkS c way s z P).2.2.2.2 = fset P.2.2.2.2 P.2.1 s → V (d + 2) k qX4_packOne 39 [mR 13 5 n0, mI s, mI z, mI c, mI way, mI b] [] M' Q := by
    intro M' b n hbn hn24 g1 g2 g3 g4 g5 g6 gS
    obtain ⟨S, hS⟩ : ∃ S : Nat, s = S := ⟨s.toNat, by omega⟩
    have gS2 : (pkS c way s z P).1 = n ∧ (pkS c way s z P).2.1 = P.2.1 + 1 ∧ (∀ b' : Nat, b' < n → (pkS c way s z P).2.2.1 b' = fset (M' (n0 + 3)) b (M' (n0 + 3) b + z) b') ∧ (pkS c way s z P).2.2.2.1 = fset P.2.2.2.1 P.2.1 b ∧ (pkS c way s z P).2.2.2.2 = fset P.2.2.2.2 P.2.1 s := by
      rcases gS with e | e
      · rw [e]; exact ⟨rfl, rfl, fun _ _ => rfl, rfl, rfl⟩
      · exact e
    obtain ⟨e1, e2, e3, e4, e5⟩ := gS2
    have hcell := g6 b hbn S (by omega)
    have hcb := cntF_bd (wh := P.2.2.2.1) (ts := P.2.2.2.2) (b := b) (s := S) P.2.1
    subst hS
    refine B_X4_packOne_39 hn0 ⟨fun c1 => ?_, fun c1 => ⟨fun c2 => ?_, fun c2 => ⟨?_, ?_, ?_, ?_, ?_, ?_, ?_, ?_, ?_, ?_, ?_⟩⟩⟩ <;> try omega
    · refine hQ _ ((((g1.up (by simp)).up (by simp)).up (by simp)).up (by simp)) ⟨?_, ?_, fun b' hb' => ?_, fun t ht => ?_, fun b' hb' s' hs' => ?_⟩
      · rw [up_fld (by decide), up_row (by omega), up_row (by omega), up_row (by omega), g2, e1]
      · rw [up_s, g3, e2]; simp
      · rw [e1] at hb'
        rw [up_row (by omega), up_row (by omega), up_row (by omega), e3 b' hb']
        by_cases e : (b' : Int) = b
        · rw [e, up_s, fset_s]
        · rw [up_i e rfl, fset_n e]
      · rw [e2] at ht
        rw [up_row (by omega), e4, g3]
        by_cases e : t = P.2.1
        · subst e; rw [up_s, fset_s]
        · rw [up_i (by omega) rfl, up_row (by omega), up_row (by omega), fset_n (by omega)]
          exact g5 t (by omega)
      · rw [e1] at hb'
        rw [up_row (by omega), up_row (by omega), e2, e4, e5]
        have ec : cntF (fset P.2.2.2.1 P.2.1 b) (fset P.2.2.2.2 P.2.1 S) b' s' (P.2.1 + 1) = cntF P.2.2.2.1 P.2.2.2.2 b' s' P.2.1 + if (b : Int) = b' ∧ (S : Int) = s' then 1 else 0 := by
          show cntF _ _ _ _ P.2.1 + (if fset P.2.2.2.1 P.2.1 b (P.2.1 : Int) = b' ∧ fset P.2.2.2.2 P.2.1 S (P.2.1 : Int) = s' then 1 else 0) = _
          rw [fset_s, fset_s, cntF_congr (wh' := P.2.2.2.1) (ts' := P.2.2.2.2) (fun j hj => ⟨fset_n (by omega), fset_n (by omega)⟩)]
        rw [ec]
        by_cases e : (b : Int) = b' ∧ (S : Int) = s'
        · rw [if_pos e, ← e.1, ← e.2, up_s, hcell]
        · rw [if_neg e, up_i (by omega) rfl, up_row (by omega), g6 b' hb' s' hs']
          omega
  refine B_X4_packOne_0 hn0 ⟨by omega, ?_⟩
  rw [h1]
  refine c_X4_choose (by omega) (by omega) hw (fun r hr => ?_)
  rw [chF_congr (g := P.2.2.1) (fun j hj => h3 j hj)] at hr
  have hrb := chF_bd (f := P.2.2.1) (most := c - z) (way := way) (n := P.1)
  refine B_X4_packOne_16 hn0 ⟨fun c1 => ?_, fun c1 => ⟨fun c2 => ?_, fun c2 => ?_⟩⟩ <;> try omega
  · obtain ⟨b, hb⟩ : ∃ b : Nat, r = b := ⟨r.toNat, by omega⟩
    subst hb
    refine last M b P.1 (by omega) (by omega) frN.rf h1 h2 (by rw [h3 b (by omega)]; exact hok.2.1 b (by omega)) h4 h5 (Or.inr ?_)
    unfold pkS
    rw [if_neg (by omega), ← hr]
    refine ⟨rfl, rfl, fun b' hb' => ?_, rfl, rfl⟩
    by_cases e : (b' : Int) = b
    · show fset P.2.2.1 b (P.2.2.1 b + z) b' = _
      rw [e, fset_s, fset_s, h3 b (by omega)]
    · show fset P.2.2.1 b (P.2.2.1 b + z) b' = _
      rw [fset_n e, fset_n e, h3 b' hb']
  · refine c_X4_openBin hn0 h1 (by omega) (fun M' g1 g2 g3 g4 g5 => B_X4_packOne_37 hn0 ?_)
    refine last M' P.1 (P.1 + 1) (by omega) (by omega) (g1.w (by simp)) (by rw [g2]; omega) (by rw [g3, h2]) (by rw [g4, if_pos rfl]; omega) (fun t ht => by rw [g1 (n0 + 1) (by simp; omega)]; exact h4 t ht) (fun b' hb' s' hs' => ?_) (Or.inr ?_)
    · rw [g5]
      by_cases e : b' = P.1
      · subst e
        rw [if_pos (by omega)]
        have z0 : ∀ t : Nat, t ≤ P.2.1 → cntF P.2.2.2.1 P.2.2.2.2 P.1 s' t = 0 := by
          intro t
          induction t with
          | zero => intro _; rfl
          | succ t iht =>
            intro htt
            have := hok.2.2 t (by omega)
            show cntF _ _ _ _ t + _ = 0
            rw [iht (by omega), if_neg (by omega)]
            rfl
        exact (z0 P.2.1 (Nat.le_refl _)).symm
      · rw [if_neg (by omega)]
        exact h5 b' (by omega) s' hs'
    · unfold pkS
      rw [if_pos (by omega)]
      refine ⟨rfl, rfl, fun b' hb' => ?_, rfl, rfl⟩
      show fset P.2.2.1 P.1 z b' = _
      rw [g4 P.1, if_pos rfl]
      by_cases e : (b' : Int) = P.1
      · rw [e, fset_s, fset_s]; omega
      · rw [fset_n e, fset_n e, g4 b', if_neg e, h3 b' (by omega)]
/-- which sort comes i-th -/
def sqF (r : Int) (od : Int → Int) (i : Int) : Int := if r < 4 then i else od i
/-- goods that can be packed -/
def PkL (c : Int) (K : Nat) (sz mn od : Int → Int) : Prop := 1 ≤ c ∧ c ≤ 99 ∧ K ≤ 6 ∧ (∀ j : Nat, j < K → 0 ≤ mn j ∧ mn j ≤ 24 ∧ (0 < mn j → 1 ≤ sz j ∧ sz j ≤ c)) ∧ (∀ i : Nat, i < K → 0 ≤ od i ∧ od i < K) ∧ sg mn K ≤ 24 ∧ sg (fun i => mn (od i)) K ≤ 24
theorem PkL.sq {c r : Int} {K : Nat} {sz mn od : Int → Int} (h : PkL c K sz mn od) {i : Nat} (hi : i < K) : 0 ≤ sqF r od i ∧ sqF r od i < K ∧ 0 ≤ mn (sqF r od i) ∧ mn (sqF r od i) ≤ 24 ∧ (0 < mn (sqF r od i) → 1 ≤ sz (sqF r od i) ∧ sz (sqF r od i) ≤ c) := by
  have h1 : 0 ≤ sqF r od i ∧ sqF r od i < K := by
    unfold sqF
    split
    · omega
    · exact h.2.2.2.2.1 i hi
  obtain ⟨j, hj⟩ : ∃ j : Nat, sqF r od i = j := ⟨(sqF r od i).toNat, by omega⟩
  rw [hj] at h1 ⊢
  have h2 := h.2.2.2.1 j (by omega)
  exact ⟨h1.1, h1.2, h2.1, h2.2.1, h2.2.2⟩
theorem PkL.sum {c r : Int} {K : Nat} {sz mn od : Int → Int} (h : PkL c K sz mn od) : sg (fun i => mn (sqF r od i)) K ≤ 24 := by
  by_cases hr : r < 4
  · rw [show (fun i => mn (sqF r od i)) = mn by funext i; unfold sqF; rw [if_pos hr]]
    exact h.2.2.2.2.2.1
  · rw [show (fun i => mn (sqF r od i)) = fun i => mn (od i) by funext i; unfold sqF; rw [if_neg hr]]
    exact h.2.2.2.2.2.2
theorem pk0_ok {c : Int} : pkOK c pk0 := ⟨Nat.le_refl _, fun b hb => absurd hb (Nat.not_lt_zero b), fun t ht => absurd ht (Nat.not_lt_zero t)⟩
theorem pkA_s {c r : Int} {sz mn od : Int → Int} {i : Nat} : pkA c r sz mn od (i + 1) = pkN c (r % 4) (sqF r od i) (sz (sqF r od i)) (pkA c r sz mn od i) (mn (sqF r od i)).toNat := rfl
theorem pkA_ok {c r : Int} {K : Nat} {sz mn od : Int → Int} (h : PkL c K sz mn od) : ∀ i, i ≤ K → pkOK c (pkA c r sz mn od i) ∧ ((pkA c r sz mn od i).2.1 : Int) = sg (fun i => mn (sqF r od i)) i
  | 0, _ => ⟨pk0_ok, rfl⟩
  | i + 1, hi => by
    have ih := pkA_ok h (r := r) i (by omega)
    have h1 := h.sq (r := r) (i := i) (by omega)
    rw [pkA_s]
    have h6 := h.2.2.1
    by_cases h0 : mn (sqF r od i) = 0
    · rw [h0]
      refine ⟨ih.1, ?_⟩
      show ((pkA c r sz mn od i).2.1 : Int) = sg (fun i => mn (sqF r od i)) i + mn (sqF r od i)
      omega
    · have h2 := pkN_ok (way := r % 4) (s := sqF r od i) (z := sz (sqF r od i)) ih.1 (by have := h1.2.2.2.2 (by omega); omega) (by omega) (mn (sqF r od i)).toNat
      refine ⟨h2.1, ?_⟩
      rw [h2.2]
      show _ = sg (fun i => mn (sqF r od i)) i + mn (sqF r od i)
      omega
set_option maxHeartbeats 1000000 in
theorem c_X4_packAll {d k : Nat} {M : mM} {Q : mRes → mM → Prop} {n0 c r : Int} {K : Nat} (hn0 : n0 = 28 ∨ n0 = 34) (hc : M 12 0 = c) (hK : M 12 1 = K) (h : PkL c K (M 13) (M 14) (M 15)) (hr : 0 ≤ r ∧ r ≤ 7)
    (hQ : ∀ M', frN [n0, n0 + 1, n0 + 2, n0 + 3] M M' → pkRel n0 M' (pkA c r (M 13) (M 14) (M 15) K) → Q (.inl (some (mI (pkA c r (M 13) (M 14) (M 15) K).1))) M') : V (d + 3) k qX4_packAll 0 [mR 13 5 n0, mR 11 5 12, mI r, mE 0, mE 0, mE 0] [] M Q := by
  have h6 := h.2.2.1
  have hsum := h.sum (r := r)
  have out : ∀ {M' : mM}, frN [n0, n0 + 1, n0 + 2, n0 + 3] M M' → M' 12 = M 12 ∧ M' 13 = M 13 ∧ M' 14 = M 14 ∧ M' 15 = M 15 := fun g => ⟨g 12 (by simp; omega), g 13 (by simp; omega), g 14 (by simp; omega), g 15 (by simp; omega)⟩
  have outer : ∀ (ri i : Nat) (u4 u5 : mV) (M' : mM), i + ri = K → frN [n0, n0 + 1, n0 + 2, n0 + 3] M M' → pkRel n0 M' (pkA c r (M 13) (M 14) (M 15) i) → V (d + 3) k qX4_packAll 12 [mR 13 5 n0, mR 11 5 12, mI r, mI i, u4, u5] [] M' Q := by
    intro ri
    induction ri with
    | zero =>
      intro i u4 u5 M' hi g1 g2
      obtain ⟨o1, o2, o3, o4⟩ := out g1
      have e : i = K := by omega
      subst e
      rw [← o1] at hK
      refine B_X4_packAll_12 hn0 ⟨fun c1 => ?_, fun c1 => ⟨fun c2 => ⟨?_, ?_⟩, fun c2 => ?_⟩⟩ <;> try omega
      · rw [g2.1]; exact hQ M' g1 g2
    | succ ri ih =>
      intro i u4 u5 M' hi g1 g2
      obtain ⟨o1, o2, o3, o4⟩ := out g1
      have hsq := h.sq (r := r) (i := i) (by omega)
      have hA := pkA_ok h (r := r) i (by omega)
      have hA1 := pkA_ok h (r := r) (i + 1) (by omega)
      have hle := sg_le (f := fun i => M 14 (sqF r (M 15) i)) (n := i + 1) (m := K) (by omega) (fun j hj => (h.sq (r := r) hj).2.2.1)
      have hle2 : sg (fun i => M 14 (sqF r (M 15) i)) (i + 1) = sg (fun i => M 14 (sqF r (M 15) i)) i + M 14 (sqF r (M 15) i) := rfl
      have inner : ∀ (rj j : Nat) (M' : mM), (j : Int) + rj = M 14 (sqF r (M 15) i) → frN [n0, n0 + 1, n0 + 2, n0 + 3] M M' → pkRel n0 M' (pkN c (r % 4) (sqF r (M 15) i) (M 13 (sqF r (M 15) i)) (pkA c r (M 13) (M 14) (M 15) i) j) → V (d + 3) k qX4_packAll 40 [mR 13 5 n0, mR 11 5 12, mI r, mI i, mI (sqF r (M 15) i), mI j] [] M' Q := by
        intro rj
        induction rj with
        | zero =>
          intro j M' hj g1 g2
          obtain ⟨o1, o2, o3, o4⟩ := out g1
          refine B_X4_packAll_40 hn0 ⟨?_, fun c1 => ⟨?_, ?_⟩, fun c1 => ⟨?_, ?_, ?_⟩⟩ <;> try omega
          · refine ih (i + 1) _ _ M' (by omega) g1 ?_
            rw [pkA_s, show (M 14 (sqF r (M 15) i)).toNat = j by omega]
            exact g2
          · rw [o3] at c1; omega
        | succ rj ihj =>
          intro j M' hj g1 g2
          obtain ⟨o1, o2, o3, o4⟩ := out g1
          have hz := hsq.2.2.2.2 (by omega)
          have hN := pkN_ok (way := r % 4) (s := sqF r (M 15) i) (z := M 13 (sqF r (M 15) i)) hA.1 (by omega) (by omega) j
          refine B_X4_packAll_40 hn0 ⟨?_, fun c1 => ⟨?_, ?_⟩, fun c1 => ⟨?_, ?_, ?_⟩⟩ <;> try omega
          · rw [o3] at c1; omega
          · rw [o1, o2, hc]
            refine c_X4_packOne hn0 g2 hN.1 ⟨h.1, h.2.1⟩ (by omega) (by omega) (by omega) (by rw [hN.2]; omega) (fun M2 f1 f2 => ?_)
            refine B_X4_packAll_72 hn0 ⟨by omega, ihj (j + 1) M2 (by omega) (g1.tr f1) f2⟩
      have i0 := inner (M 14 (sqF r (M 15) i)).toNat 0 M' (by omega) g1 g2
      unfold sqF at i0
      rw [← o1] at hK
      refine B_X4_packAll_12 hn0 ⟨fun c1 => ?_, fun c1 => ⟨fun c2 => ⟨?_, ?_⟩, fun c2 => ?_⟩⟩ <;> try omega
      · rw [if_neg (by omega)] at i0
        rw [o4]; exact i0
      · rw [if_pos (by omega)] at i0
        exact i0
  refine B_X4_packAll_0 hn0 (outer K 0 _ _ _ (by omega) ((frN.rf.up (by simp)).up (by simp)) ⟨by rw [up_s]; rfl, by rw [up_fld (by decide), up_s]; rfl, fun b hb => absurd hb (Nat.not_lt_zero b), fun t ht => absurd ht (Nat.not_lt_zero t), fun b hb => absurd hb (Nat.not_lt_zero b)⟩)
