/-! of one sort alone: as many bins as its number by what goes into a bin, rounded up -/
theorem scn_none {f : Int → Int} {most way : Int} : ∀ {n : Nat}, (∀ b : Nat, b < n → most < f b) → scn f most way n = -1
  | 0, _ => rfl
  | n + 1, h => by
    have ih := scn_none (f := f) (most := most) (way := way) (n := n) (fun b hb => h b (by omega))
    have h1 := h n (by omega)
    unfold scn
    rw [if_neg (by omega)]
    exact ih
/-- P holds t things of size z, q to a bin, bin by bin -/
def oneI (q z : Int) (P : pkT) (t : Nat) : Prop := (q * (P.1 : Int) - q < t ∧ (t : Int) ≤ q * P.1) ∧ ∀ b : Nat, b < P.1 → P.2.2.1 b = z * min q (t - q * b)
theorem oneI_s {c q s z : Int} {P : pkT} {t : Nat} (hz : 1 ≤ z) (hq : q = c / z) (hq1 : 1 ≤ q) (h : oneI q z P t) : oneI q z (pkS c 1 s z P) (t + 1) := by
  obtain ⟨⟨h1, h2⟩, h3⟩ := h
  have hqz : z * q ≤ c := by rw [hq, Int.mul_comm]; exact Int.ediv_mul_le c (by omega)
  have hqz2 : c < z * q + z := by
    have := Int.lt_ediv_add_one_mul_self c (show 0 < z by omega)
    rw [← hq, Int.add_mul, Int.one_mul, Int.mul_comm] at this
    exact this
  have hmul : ∀ b : Nat, b + 1 < P.1 → q * (b : Int) + 2 * q ≤ q * P.1 := fun b hb => by
    have := Int.mul_le_mul_of_nonneg_left (show (b : Int) + 2 ≤ P.1 by omega) (show 0 ≤ q by omega)
    rw [Int.mul_add] at this
    omega
  have hfull : ∀ b : Nat, b + 1 < P.1 → P.2.2.1 b = z * q := fun b hb => by
    have := hmul b hb
    rw [h3 b (by omega), show min q (t - q * (b : Int)) = q by omega]
  have ech : chF P.2.2.1 (c - z) 1 P.1 = scn P.2.2.1 (c - z) 1 P.1 := by unfold chF; rw [if_neg (by decide)]
  by_cases hf : (t : Int) = q * P.1
  · -- all are full
    have hall : ∀ b : Nat, b < P.1 → P.2.2.1 b = z * q := fun b hb => by
      have := Int.mul_le_mul_of_nonneg_left (show (b : Int) + 1 ≤ P.1 by omega) (show 0 ≤ q by omega)
      rw [Int.mul_add] at this
      rw [h3 b hb, show min q (t - q * (b : Int)) = q by omega]
    have hn : chF P.2.2.1 (c - z) 1 P.1 = -1 := by
      rw [ech]
      exact scn_none (fun b hb => by rw [hall b hb]; omega)
    unfold pkS
    rw [if_pos hn]
    refine ⟨?_, fun b hb => ?_⟩
    · show q * ((P.1 + 1 : Nat) : Int) - q < ((t + 1 : Nat) : Int) ∧ ((t + 1 : Nat) : Int) ≤ q * ((P.1 + 1 : Nat) : Int)
      rw [show q * ((P.1 + 1 : Nat) : Int) = q * P.1 + q by rw [show ((P.1 + 1 : Nat) : Int) = (P.1 : Int) + 1 from rfl, Int.mul_add, Int.mul_one]]
      omega
    · show fset P.2.2.1 P.1 z b = z * min q (((t + 1 : Nat) : Int) - q * (b : Int))
      have hb' : b < P.1 + 1 := hb
      by_cases e : b = P.1
      · subst e
        rw [fset_s, show min q (((t + 1 : Nat) : Int) - q * (P.1 : Int)) = 1 by omega, Int.mul_one]
      · rw [fset_n (by omega), hall b (by omega)]
        have := Int.mul_le_mul_of_nonneg_left (show (b : Int) + 1 ≤ P.1 by omega) (show 0 ≤ q by omega)
        rw [Int.mul_add] at this
        rw [show min q (((t + 1 : Nat) : Int) - q * (b : Int)) = q by omega]
  · -- the last one has room
    have hp : 1 ≤ P.1 := by
      rcases Nat.eq_zero_or_pos P.1 with e | e
      · rw [e] at h2 hf; simp at h2 hf; omega
      · exact e
    obtain ⟨n, hn⟩ : ∃ n, P.1 = n + 1 := ⟨P.1 - 1, by omega⟩
    have e1 : q * (P.1 : Int) = q * n + q := by rw [hn, show ((n + 1 : Nat) : Int) = (n : Int) + 1 from rfl, Int.mul_add, Int.mul_one]
    have hl := h3 n (by omega)
    rw [show min q (t - q * (n : Int)) = t - q * n by omega] at hl
    have hr : z * (t - q * n) + z ≤ z * q := by
      have := Int.mul_le_mul_of_nonneg_left (show (t : Int) - q * n + 1 ≤ q by omega) (show 0 ≤ z by omega)
      rw [Int.mul_add, Int.mul_one] at this
      exact this
    have hch : chF P.2.2.1 (c - z) 1 P.1 = n := by
      rw [ech, hn]
      have h0 : scn P.2.2.1 (c - z) 1 n = -1 := scn_none (fun b hb => by rw [hfull b (by omega)]; omega)
      show (if P.2.2.1 n ≤ c - z ∧ (scn P.2.2.1 (c - z) 1 n < 0 ∨ _ ∨ _) then (n : Int) else _) = n
      rw [if_pos ⟨by omega, Or.inl (by omega)⟩]
    unfold pkS
    rw [hch, if_neg (by omega)]
    refine ⟨?_, fun b hb => ?_⟩
    · show q * (P.1 : Int) - q < ((t + 1 : Nat) : Int) ∧ ((t + 1 : Nat) : Int) ≤ q * (P.1 : Int)
      omega
    · show fset P.2.2.1 n (P.2.2.1 n + z) b = z * min q (((t + 1 : Nat) : Int) - q * (b : Int))
      have hb' : b < P.1 := hb
      by_cases e : b = n
      · subst e
        rw [fset_s, hl, show min q (((t + 1 : Nat) : Int) - q * (b : Int)) = (t - q * b) + 1 by omega, Int.mul_add, Int.mul_one]
      · have := hmul b (by omega)
        rw [fset_n (by omega), hfull b (by omega), show min q (((t + 1 : Nat) : Int) - q * (b : Int)) = q by omega]
theorem oneI_n {c q s z : Int} (hz : 1 ≤ z) (hq : q = c / z) (hq1 : 1 ≤ q) : ∀ t : Nat, oneI q z (pkN c 1 s z pk0 t) t
  | 0 => ⟨by show q * ((0 : Nat) : Int) - q < ((0 : Nat) : Int) ∧ ((0 : Nat) : Int) ≤ q * ((0 : Nat) : Int); simp; omega, fun b hb => absurd hb (Nat.not_lt_zero b)⟩
  | t + 1 => oneI_s hz hq hq1 (oneI_n hz hq hq1 t)
theorem oneI_up {q z : Int} {P : pkT} {t : Nat} (hq1 : 1 ≤ q) (h : oneI q z P t) {x : Int} (h1 : (t : Int) ≤ q * x) (h2 : x ≤ P.1) : x = rUp t q := by
  obtain ⟨⟨a, b⟩, _⟩ := h
  have e : x = P.1 := by
    rcases (by omega : x < P.1 ∨ (P.1 : Int) ≤ x) with e | e
    · have := Int.mul_le_mul_of_nonneg_left (show x + 1 ≤ P.1 by omega) (show 0 ≤ q by omega)
      rw [Int.mul_add] at this
      omega
    · omega
  subst e
  unfold rUp
  by_cases h0 : (t : Int) < 1 ∨ q < 1
  · rw [if_pos h0]
    have ht : (t : Int) = 0 := by omega
    rcases (by omega : 0 < (P.1 : Int) ∨ (P.1 : Int) ≤ 0) with e | e
    · have := Int.mul_le_mul_of_nonneg_left (show (1 : Int) ≤ P.1 by omega) (show 0 ≤ q by omega)
      rw [Int.mul_one] at this
      omega
    · omega
  · rw [if_neg h0]
    have h3 : ((t : Int) - 1) / q = P.1 - 1 := by
      have e2 : q * ((P.1 : Int) - 1) = q * P.1 - q := by rw [Int.mul_sub, Int.mul_one]
      have h4 : (P.1 : Int) - 1 ≤ ((t : Int) - 1) / q := Int.le_ediv_of_mul_le (by omega) (by rw [Int.mul_comm]; omega)
      have h5 : ((t : Int) - 1) / q < P.1 := Int.ediv_lt_of_lt_mul (by omega) (by rw [Int.mul_comm]; omega)
      omega
    omega
/-- all but one sort away -/
def onl (s : Nat) (m : Int) : Int → Int := fun j => if j = s then m else 0
theorem onl_at {s : Nat} {m : Int} : onl s m s = m := by unfold onl; rw [if_pos rfl]
theorem onl_ne {s : Nat} {m j : Int} (h : j ≠ s) : onl s m j = 0 := by unfold onl; rw [if_neg h]
theorem sg_onl {g : Int → Int} {s : Nat} {m : Int} : ∀ {n : Nat}, sg (fun j => g j * onl s m j) n = if s < n then g s * m else 0
  | 0 => by simp [sg]
  | n + 1 => by
    have ih := sg_onl (g := g) (s := s) (m := m) (n := n)
    show sg (fun j => g j * onl s m j) n + g n * onl s m n = _
    rw [ih]
    by_cases h : s = n
    · subst h; rw [onl_at, if_neg (by omega), if_pos (by omega)]; omega
    · rw [onl_ne (by omega), Int.mul_zero]
      by_cases h2 : s < n
      · rw [if_pos h2, if_pos (by omega)]; omega
      · rw [if_neg h2, if_neg (by omega)]; omega
theorem pkA_onl {c : Int} {sz od : Int → Int} {s i0 : Nat} {m : Int} {K : Nat} (hi0 : i0 < K) (ho : od i0 = s) (hn : ∀ i : Nat, i < K → i ≠ i0 → od i ≠ s) : ∀ i : Nat, i ≤ K → pkA c 5 sz (onl s m) od i = if i ≤ i0 then pk0 else pkN c 1 s (sz s) pk0 m.toNat
  | 0, _ => by rw [if_pos (by omega)]; rfl
  | i + 1, hi => by
    have ih := pkA_onl (c := c) (sz := sz) (m := m) hi0 ho hn i (by omega)
    have e : sqF 5 od i = od i := by unfold sqF; rw [if_neg (by decide)]
    rw [pkA_s, e, ih]
    by_cases h : i = i0
    · subst h
      rw [ho, onl_at, if_pos (by omega), if_neg (by omega)]
      rfl
    · rw [onl_ne (hn i (by omega) h)]
      show (if i ≤ i0 then pk0 else pkN c 1 s (sz s) pk0 m.toNat) = _
      by_cases h2 : i ≤ i0
      · rw [if_pos h2, if_pos (by omega)]
      · rw [if_neg h2, if_neg (by omega)]
theorem GLok.one {c : Int} {K s : Nat} {sz mn od : Int → Int} (hG : GLok c K sz mn od) (hs : s < K) : GLok c K sz (onl s (mn s)) od := by
  have h0 := hG.2.2.2.1 s hs
  refine ⟨hG.1, hG.2.1, hG.2.2.1, fun j hj => ?_, ?_, hG.2.2.2.2.2⟩
  · by_cases e : j = s
    · subst e; rw [onl_at]; exact h0
    · rw [onl_ne (by omega)]; exact Int.le_refl _
  · have e := sg_onl (g := fun _ => 1) (s := s) (m := mn s) (n := K)
    rw [if_pos hs] at e
    rw [sg_congr (g := fun j => 1 * onl s (mn s) j) (fun j _ => by show onl s (mn s) j = 1 * onl s (mn s) j; rw [Int.one_mul]), e, Int.one_mul]
    have h2 := sg_term (f := mn) (n := K) hG.2.2.2.1 s hs
    have h4 := hG.2.2.2.2.1
    omega
theorem GLok.pkL {c : Int} {K : Nat} {sz mn od : Int → Int} (hG : GLok c K sz mn od) (hc : 1 ≤ c) (hz : ∀ s : Nat, s < K → 0 < mn s → sz s ≤ c) : PkL c K sz mn od := ⟨hc, hG.1.2, hG.2.1, fun j hj => by
  have h1 := (hG.lot hc).2.2.2 j hj
  exact ⟨h1.2.2.1, h1.2.2.2, fun h => ⟨h1.1, hz j hj h⟩⟩, hG.2.2.2.2.2.1, hG.2.2.2.2.1, by rw [hG.2.2.2.2.2.2.2.2 mn]; exact hG.2.2.2.2.1⟩
theorem fewT_one {c : Int} {K s : Nat} {sz mn od : Int → Int} (hG : GLok c K sz mn od) (hc : 1 ≤ c) (hs : s < K) (hz : sz s ≤ c) : (fewT c K sz (onl s (mn s)) od).1 = rUp (mn s) (c / sz s) := by
  have hz1 := hG.2.2.1 s hs
  have hm0 := hG.2.2.2.1 s hs
  have hG1 := hG.one hs
  have hP1 : PkL c K sz (onl s (mn s)) od := hG1.pkL hc (fun j hj h => by
    by_cases e : j = s
    · subst e; exact hz
    · rw [onl_ne (by omega)] at h; omega)
  obtain ⟨i0, hi0, ho⟩ := hG.2.2.2.2.2.2.2.1 s hs
  have hpk := pkA_onl (c := c) (sz := sz) (m := mn s) hi0 ho (fun i h1 h2 h3 => (hG.n h1 hi0 h2) (by rw [h3, ho])) K (Nat.le_refl _)
  rw [if_neg (by omega)] at hpk
  have hq1 : 1 ≤ c / sz s := Int.le_ediv_of_mul_le (by omega) (by omega)
  have hI := oneI_n (c := c) (s := s) (z := sz s) (by omega) rfl hq1 (mn s).toNat
  have hm1 : ((mn s).toNat : Int) = mn s := Int.toNat_of_nonneg hm0
  have hst := st0_ok hP1
  have hok := meetT_ok (c := c) (K := K) (sz := sz) (od := od) 24 0 (onl s (mn s)) (fun _ => 0) (st0 (pkA c 5 sz (onl s (mn s)) od K)) (by omega) hst rfl
  have hup : (fewT c K sz (onl s (mn s)) od).1 ≤ (pkA c 5 sz (onl s (mn s)) od K).1 := hok.2.1
  rw [hpk] at hup
  have hcap : capW c (c / sz s) K sz (onl s 1) od := fun lf f p hG' hR hP => by
    rw [sg_congr (f := fun j => onl s 1 j * f j) (g := fun j => f j * onl s 1 j) (fun j _ => Int.mul_comm _ _), sg_onl, if_pos hs, Int.mul_one]
    have := (ptR_bd hG' hR hP s hs).2.2.2
    exact Int.le_ediv_of_mul_le (by omega) this
  have hlow : mn s ≤ c / sz s * (fewT c K sz (onl s (mn s)) od).1 := by
    unfold fewT
    refine meetT_snd (A := mn s) (w := onl s 1) (by omega) hcap (fun j _ => ?_) 24 0 _ _ _ hG1 ?_ ?_
    · by_cases e : j = s
      · subst e; rw [onl_at]; decide
      · rw [onl_ne (by omega)]; exact Int.le_refl _
    · show mn s ≤ c / sz s * ((pkA c 5 sz (onl s (mn s)) od K).1 : Int)
      rw [hpk]
      have := hI.1.2
      omega
    · rw [sg_onl, if_pos hs, onl_at]
      show mn s ≤ c / sz s * 0 + 1 * mn s
      omega
  have := oneI_up hq1 hI (x := (fewT c K sz (onl s (mn s)) od).1) (by rw [hm1]; exact hlow) hup
  rw [this, hm1]
