/-! questions: other -/
/-- the first notes agree with these sizes -/
def agF (c : Int) (K : Nat) (M : mM) (sz : Int → Int) : Nat → Int
  | 0 => 1
  | j + 1 => if agF c K M sz j = 1 ∧ ((pkA c (M 115 j) sz (M 113) (orF sz K) K).1 : Int) = M 116 j then 1 else 0
theorem agF_01 {c : Int} {K : Nat} {M : mM} {sz : Int → Int} : ∀ j : Nat, agF c K M sz j = 0 ∨ agF c K M sz j = 1
  | 0 => Or.inr rfl
  | j + 1 => by
    unfold agF
    split
    · exact Or.inr rfl
    · exact Or.inl rfl
theorem agF_0 {c : Int} {K : Nat} {M : mM} {sz : Int → Int} {j : Nat} (h : agF c K M sz j = 0) : ∀ m : Nat, agF c K M sz (j + m) = 0
  | 0 => h
  | m + 1 => by
    show (if agF c K M sz (j + m) = 1 ∧ _ then (1 : Int) else 0) = 0
    rw [if_neg (fun z => by have := agF_0 h m; omega)]
theorem agF_cg {c : Int} {K : Nat} {M M' : mM} {sz : Int → Int} (e3 : M' 113 = M 113) (e5 : M' 115 = M 115) (e6 : M' 116 = M 116) : ∀ j : Nat, agF c K M' sz j = agF c K M sz j
  | 0 => rfl
  | j + 1 => by
    unfold agF
    rw [agF_cg e3 e5 e6 j, e3, e5, e6]
theorem St.any {c : Int} {K : Nat} {N : Int} {M : mM} {sz : Int → Int} (h : St c K N M) (hz : ∀ s : Nat, s < K → 1 ≤ sz s ∧ sz s ≤ c) : GLok c K sz (M 113) (orF sz K) := by
  have hr := h.row.2
  have hc := h.1.1
  exact ⟨by omega, h.1.2.1, fun s hs => by have := hz s hs; omega, fun s hs => (hr.1 s (by have := h.1.2.1; omega)).1, hr.2.1, fun i hi => orF_rg K i hi, fun i j h1 h2 => orF_inj K i j h1 h2, fun s hs => orF_on K s hs, fun g => orF_sum K⟩
theorem St.anyP {c : Int} {K : Nat} {N : Int} {M : mM} {sz : Int → Int} (h : St c K N M) (hz : ∀ s : Nat, s < K → 1 ≤ sz s ∧ sz s ≤ c) : PkL c K sz (M 113) (orF sz K) := (h.any hz).pkL h.1.1.1 (fun s hs _ => (hz s hs).2)
theorem St.nt {c : Int} {K : Nat} {N : Int} {M : mM} (h : St c K N M) {i : Nat} (hi : (i : Int) < M 112 10) : M 20 i = M 115 i ∧ M 21 i = M 116 i ∧ (0 ≤ M 115 i ∧ M 115 i ≤ 7) ∧ (0 ≤ M 116 i ∧ M 116 i ≤ 24) := by
  have a := h.2.1.2.2.2.1 i hi
  rw [Int.zero_add] at a
  have a1 : M 20 i = M 115 i := a.1
  have a2 : M 21 i = M 116 i := a.2.1
  have a3 : 0 ≤ M 20 i ∧ M 20 i ≤ 7 := a.2.2.1
  have a4 : 0 ≤ M 21 i ∧ M 21 i ≤ 24 := a.2.2.2
  exact ⟨a1, a2, by omega, by omega⟩
theorem c_X1_agrees {d k : Nat} {c : Int} {K : Nat} {N : Int} {M M1 : mM} {sz : Int → Int} {Q : mRes → mM → Prop} {n : Nat} (hS : St c K N M) (hn : M 112 10 = n) (k1 : kpX M M1) (h0 : M1 12 0 = c) (h1 : M1 12 1 = K) (hl : lotE K (M1 13) (M1 14) (M1 15) sz (M 113) (orF sz K)) (hz : ∀ s : Nat, s < K → 1 ≤ sz s ∧ sz s ≤ c) (hQ : ∀ M2, frN [28, 29, 30, 31] M1 M2 → Q (.inl (some (mI (agF c K M sz n)))) M2) : V (d + 4) k qX1_agrees 0 [mR 10 3 108, mR 11 5 12, mR 15 7 16, mR 13 5 28, mE 0] [] M1 Q := by
  have hA := hS.A
  have hP := hl.PL (hS.any hz) (hS.anyP hz)
  have loop : ∀ (r j : Nat) (M' : mM), j + r = n → frN [28, 29, 30, 31] M1 M' → agF c K M sz j = 1 → V (d + 4) k qX1_agrees 3 [mR 10 3 108, mR 11 5 12, mR 15 7 16, mR 13 5 28, mI j] [] M' Q := by
    intro r
    induction r with
    | zero =>
      intro j M' hj g1 g2
      have e3 : M' 16 3 = n := by rw [g1 16 (by simp), k1 16 (by omega)]; omega
      have Bk := B_X1_agrees_3 (d := d + 3) (k := k) (M := M') (Q := Q) (x4 := j)
      rw [e3] at Bk
      refine Bk ⟨fun _ => ?_, fun z => by omega⟩
      have := hQ M' g1
      rw [show n = j by omega, g2] at this
      exact this
    | succ r ih =>
      intro j M' hj g1 g2
      have e3 : M' 16 3 = n := by rw [g1 16 (by simp), k1 16 (by omega)]; omega
      have nt := hS.nt (i := j) (by omega)
      have e20 : M' (16 + 4) j = M 115 j := by
        show M' 20 j = _
        rw [g1 20 (by simp), k1 20 (by omega)]; exact nt.1
      have Bk := B_X1_agrees_3 (d := d + 3) (k := k) (M := M') (Q := Q) (x4 := j)
      rw [e3] at Bk
      refine Bk ⟨fun z => by omega, fun _ => B_X7_ruleOfNote_0 (Or.inl rfl) ⟨fun z => by omega, fun _ => ⟨fun z => by omega, fun _ => ⟨by omega, ?_⟩⟩⟩⟩
      rw [e20]
      have f13 : M' 13 = M1 13 := g1 13 (by simp)
      have f14 : M' 14 = M1 14 := g1 14 (by simp)
      have f15 : M' 15 = M1 15 := g1 15 (by simp)
      have f12 : M' 12 = M1 12 := g1 12 (by simp)
      refine B_X1_agrees_20 (c_X4_packAll (n0 := 28) (c := c) (K := K) (by omega) (by rw [f12]; exact h0) (by rw [f12]; exact h1) (by rw [f13, f14, f15]; exact hP) nt.2.2.1 (fun M2 q1 q2 => ?_))
      rw [f13, f14, f15, hl.pk]
      have g3 : frN [28, 29, 30, 31] M1 M2 := g1.tr (fun t ht => q1 t (by simp at ht ⊢; omega))
      have e21 : M2 (16 + 5) j = M 116 j := by
        show M2 21 j = _
        rw [g3 21 (by simp), k1 21 (by omega)]; exact nt.2.1
      refine B_X1_agrees_23 (B_X7_binsOfNote_0 (Or.inl rfl) ⟨fun z => by omega, fun _ => ⟨fun z => by omega, fun _ => ⟨by omega, ?_⟩⟩⟩)
      rw [e21]
      refine B_X1_agrees_29 ⟨fun z => ⟨by omega, ih (j + 1) M2 (by omega) g3 ?_⟩, fun z => ?_⟩
      · unfold agF; rw [if_pos ⟨g2, z⟩]
      · have a0 : agF c K M sz (j + 1) = 0 := by unfold agF; rw [if_neg (fun y => z y.2)]
        have := agF_0 a0 r
        rw [show j + 1 + r = n by omega] at this
        have h := hQ M2 g3
        rw [this] at h
        exact h
  exact B_X1_agrees_0 (loop n 0 M1 (by omega) frN.rf rfl)
/-- guesses: how many, the first -/
def gsV (c : Int) (K : Nat) (M : mM) (n : Nat) (s : Nat) (st : Int × Int) : Nat → Int × Int
  | 0 => st
  | v + 1 => if ((v + 1 : Nat) : Int) ≠ M 9 s ∧ agF c K M (fset (M 9) s ((v + 1 : Nat) : Int)) n = 1 then ((gsV c K M n s st v).1 + 1, if (gsV c K M n s st v).1 = 0 then 100 * s + ((v + 1 : Nat) : Int) else (gsV c K M n s st v).2) else gsV c K M n s st v
def gsS (c : Int) (K : Nat) (M : mM) (n : Nat) : Nat → Int × Int
  | 0 => (0, -1)
  | s + 1 => gsV c K M n s (gsS c K M n s) c.toNat
theorem gsV_bd {c : Int} {K : Nat} {M : mM} {n s : Nat} {st : Int × Int} {b : Int} (h : 0 ≤ st.1 ∧ st.1 ≤ b) : ∀ v : Nat, 0 ≤ (gsV c K M n s st v).1 ∧ (gsV c K M n s st v).1 ≤ b + v
  | 0 => by show 0 ≤ st.1 ∧ st.1 ≤ b + ((0 : Nat) : Int); omega
  | v + 1 => by
    have ih := gsV_bd (c := c) (K := K) (M := M) (n := n) (s := s) h v
    unfold gsV
    split
    · show 0 ≤ (gsV c K M n s st v).1 + 1 ∧ (gsV c K M n s st v).1 + 1 ≤ b + ((v + 1 : Nat) : Int)
      omega
    · omega
theorem gsS_bd {c : Int} {K : Nat} {M : mM} {n : Nat} (hc : 1 ≤ c ∧ c ≤ 99) : ∀ s : Nat, 0 ≤ (gsS c K M n s).1 ∧ (gsS c K M n s).1 ≤ 100 * s
  | 0 => by show (0 : Int) ≤ 0 ∧ (0 : Int) ≤ 100 * ((0 : Nat) : Int); omega
  | s + 1 => by
    have := gsV_bd (c := c) (K := K) (M := M) (n := n) (s := s) (gsS_bd (K := K) (M := M) (n := n) hc s) c.toNat
    show 0 ≤ (gsV c K M n s (gsS c K M n s) c.toNat).1 ∧ (gsV c K M n s (gsS c K M n s) c.toNat).1 ≤ _
    omega
/-- the class while it searches: all but the size of sort s is as it was -/
def sxR (c : Int) (K : Nat) (M M' : mM) (s : Nat) (st : Int × Int) : Prop := kpX M M' ∧ M' 12 0 = c ∧ M' 12 1 = K ∧ (∀ t : Nat, t < K → t ≠ s → M' 13 t = M 9 t) ∧ (∀ t : Nat, t < K → M' 14 t = M 113 t) ∧ M' 108 0 = st.1 ∧ M' 108 1 = st.2
theorem c_X1_search0 {d k : Nat} {c : Int} {K : Nat} {N : Int} {M M1 : mM} {Q : mRes → mM → Prop} {n : Nat} (hS : St c K N M) (hn : M 112 10 = n) (q : askX c K M M1) (hQ : ∀ M2, kpX M M2 → M2 108 0 = (gsS c K M n K).1 → M2 108 1 = (gsS c K M n K).2 → Q (.inl none) M2) : V (d + 5) k qX1_search 0 [mR 10 3 108, mR 11 5 12, mR 15 7 16, mR 13 5 28, mI 0, mE 0, mE 0, mE 0] [] M1 Q := by
  have hL := hS.1
  have hK6 := hL.2.1
  have hc := hL.1
  obtain ⟨cn, hcn⟩ : ∃ m : Nat, c = m := ⟨c.toNat, by omega⟩
  have inner : ∀ (s : Nat) (st : Int × Int), s < K → (0 ≤ st.1 ∧ st.1 ≤ 100 * s) → (∀ M', sxR c K M M' K (gsV c K M n s st cn) → ∀ u6 u7, V (d + 5) k qX1_search 37 [mR 10 3 108, mR 11 5 12, mR 15 7 16, mR 13 5 28, mI 0, mI ((s : Int) + 1), u6, u7] [] M' Q) → ∀ (r v : Nat) (M' : mM), v + r = cn → sxR c K M M' s (gsV c K M n s st v) → V (d + 5) k qX1_search 58 [mR 10 3 108, mR 11 5 12, mR 15 7 16, mR 13 5 28, mI 0, mI s, mI (M 9 s), mI ((v : Int) + 1)] [] M' Q := by
    intro s st hs hst nxt r
    induction r with
    | zero =>
      intro v M' hv g
      obtain ⟨g1, g2, g3, g4, g5, g6, g7⟩ := g
      have Bk := B_X1_search_58 (d := d + 4) (k := k) (M := M') (Q := Q) (x4 := 0) (x5 := s) (x6 := M 9 s) (x7 := (v : Int) + 1)
      rw [g2] at Bk
      refine Bk ⟨fun _ => ⟨by omega, by omega, nxt _ ⟨g1.tr (fun t ht => up_row (by omega)), by rw [up_row (by decide)]; exact g2, by rw [up_row (by decide)]; exact g3, fun t ht _ => ?_, fun t ht => by rw [up_row (by decide)]; exact g5 t ht, by rw [up_row (by decide), ← show v = cn by omega]; exact g6, by rw [up_row (by decide), ← show v = cn by omega]; exact g7⟩ _ _⟩, fun z => by omega⟩
      by_cases e : t = s
      · subst e; rw [up_s]
      · rw [up_fld (by omega)]; exact g4 t ht e
    | succ r ih =>
      intro v M' hv g
      obtain ⟨g1, g2, g3, g4, g5, g6, g7⟩ := g
      have hbd := gsV_bd (c := c) (K := K) (M := M) (n := n) (s := s) hst v
      have eV : gsV c K M n s st (v + 1) = if ((v + 1 : Nat) : Int) ≠ M 9 s ∧ agF c K M (fset (M 9) s ((v + 1 : Nat) : Int)) n = 1 then ((gsV c K M n s st v).1 + 1, if (gsV c K M n s st v).1 = 0 then 100 * s + ((v + 1 : Nat) : Int) else (gsV c K M n s st v).2) else gsV c K M n s st v := rfl
      have ev : (v : Int) + 1 = ((v + 1 : Nat) : Int) := rfl
      have Bk := B_X1_search_58 (d := d + 4) (k := k) (M := M') (Q := Q) (x4 := 0) (x5 := s) (x6 := M 9 s) (x7 := (v : Int) + 1)
      rw [g2] at Bk
      refine Bk ⟨fun z => by omega, fun _ => ⟨by omega, c_X2_arrange (n0 := 12) (K := K) (by omega) (by rw [up_row (by decide)]; exact g3) hK6 (fun M2 p1 p2 => ?_)⟩⟩
      have f13 : ∀ t : Nat, t < K → M2 13 t = fset (M 9) s ((v + 1 : Nat) : Int) t := fun t ht => by
        rw [p1 13 (by simp)]
        by_cases e : t = s
        · subst e; rw [up_s, fset_s]; rfl
        · rw [up_fld (by omega), fset_n (by omega)]; exact g4 t ht e
      have hr : ∀ m, m ≠ 13 → m ≠ 15 → M2 m = M' m := fun m a b => by rw [p1 m (by simp; omega), up_row a]
      have kp2 : kpX M M2 := g1.tr (fun t ht => hr t (by omega) (by omega))
      have g2' : M2 12 0 = c := by rw [hr 12 (by decide) (by decide)]; exact g2
      have g3' : M2 12 1 = K := by rw [hr 12 (by decide) (by decide)]; exact g3
      have hl : lotE K (M2 13) (M2 14) (M2 15) (fset (M 9) s ((v + 1 : Nat) : Int)) (M 113) (orF (fset (M 9) s ((v + 1 : Nat) : Int)) K) := ⟨fun t ht => ⟨f13 t ht, by rw [hr 14 (by decide) (by decide)]; exact g5 t ht⟩, fun i hi => by
        have e : M2 15 i = orF (fset (M 9) s ((v + 1 : Nat) : Int)) K i := by
          show M2 (12 + 3) i = _
          rw [p2 i hi]
          refine congrFun (orF_congr (fun t ht => ?_)) _
          show mUp M' 13 s ((v : Int) + 1) 13 t = _
          have := f13 t ht
          rw [p1 13 (by simp)] at this
          exact this
        have := orF_rg (sz := fset (M 9) s ((v + 1 : Nat) : Int)) K i hi
        rw [e]; exact ⟨rfl, this⟩⟩
      have hz : ∀ t : Nat, t < K → 1 ≤ fset (M 9) s ((v + 1 : Nat) : Int) t ∧ fset (M 9) s ((v + 1 : Nat) : Int) t ≤ c := fun t ht => by
        by_cases e : (t : Int) = s
        · rw [e, fset_s]; omega
        · rw [fset_n e]; exact (hS.sz ht).2
      have go : ∀ M3 : mM, kpX M M3 → M3 12 0 = c → M3 12 1 = K → (∀ t : Nat, t < K → t ≠ s → M3 13 t = M 9 t) → (∀ t : Nat, t < K → M3 14 t = M 113 t) → M3 108 0 = (gsV c K M n s st (v + 1)).1 → M3 108 1 = (gsV c K M n s st (v + 1)).2 → V (d + 5) k qX1_search 144 [mR 10 3 108, mR 11 5 12, mR 15 7 16, mR 13 5 28, mI 0, mI s, mI (M 9 s), mI ((v : Int) + 1)] [] M3 Q := fun M3 a1 a2 a3 a4 a5 a6 a7 => B_X1_search_144 ⟨by omega, ih (v + 1) M3 (by omega) ⟨a1, a2, a3, a4, a5, a6, a7⟩⟩
      have m4 : ∀ t : Nat, t < K → t ≠ s → M2 13 t = M 9 t := fun t ht e => by rw [f13 t ht, fset_n (by omega)]
      have m5 : ∀ t : Nat, t < K → M2 14 t = M 113 t := fun t ht => by rw [hr 14 (by decide) (by decide)]; exact g5 t ht
      have m6 : M2 108 0 = (gsV c K M n s st v).1 := by rw [hr 108 (by decide) (by decide)]; exact g6
      have m7 : M2 108 1 = (gsV c K M n s st v).2 := by rw [hr 108 (by decide) (by decide)]; exact g7
      refine B_X1_search_80 ⟨fun z => ?_, fun z => ?_⟩
      · rw [if_neg (fun y => y.1 (by omega))] at eV
        exact go M2 kp2 g2' g3' m4 m5 (by rw [eV]; exact m6) (by rw [eV]; exact m7)
      · refine c_X1_agrees hS hn kp2 g2' g3' hl hz (fun M3 w => ?_)
        have kp3 : kpX M M3 := kp2.tr (fun t ht => w t (by simp; omega))
        have h12 : M3 12 = M2 12 := w 12 (by simp)
        have h13 : M3 13 = M2 13 := w 13 (by simp)
        have h14 : M3 14 = M2 14 := w 14 (by simp)
        have h108 : M3 108 = M2 108 := w 108 (by simp)
        have Bk := B_X1_search_94 (d := d + 4) (k := k) (M := M3) (Q := Q) (x4 := 0) (x5 := s) (x6 := M 9 s) (x7 := (v : Int) + 1) (sx0 := agF c K M (fset (M 9) s ((v + 1 : Nat) : Int)) n)
        rw [h108, m6, m7] at Bk
        have last : ∀ x : Int, x = (gsV c K M n s st (v + 1)).2 → (gsV c K M n s st (v + 1)).1 = (gsV c K M n s st v).1 + 1 → V (d + 5) k qX1_search 120 [mR 10 3 108, mR 11 5 12, mR 15 7 16, mR 13 5 28, mI 0, mI s, mI (M 9 s), mI ((v : Int) + 1)] [mI x, mR 10 3 108] M3 Q := fun x hx h1 => by
          have Bk := B_X1_search_120 (d := d + 4) (k := k) (M := M3) (Q := Q) (x4 := 0) (x5 := s) (x6 := M 9 s) (x7 := (v : Int) + 1) (sx0 := x)
          rw [h108, m6] at Bk
          refine Bk ⟨by omega, fun _ => go _ (kp3.tr (fun t ht => by rw [up_row (by omega), up_row (by omega)])) (by rw [up_row (by decide), up_row (by decide), h12]; exact g2') (by rw [up_row (by decide), up_row (by decide), h12]; exact g3') (fun t a b => by rw [up_row (by decide), up_row (by decide), h13]; exact m4 t a b) (fun t a => by rw [up_row (by decide), up_row (by decide), h14]; exact m5 t a) (by rw [up_s, h1]) (by rw [up_fld (by decide), up_s, hx]), fun y => (y rfl).elim⟩
        refine Bk ⟨fun y => ?_, fun y => ?_⟩
        · rw [if_neg (fun x => by have := x.2; omega)] at eV
          exact go M3 kp3 (by rw [h12]; exact g2') (by rw [h12]; exact g3') (fun t a b => by rw [h13]; exact m4 t a b) (fun t a => by rw [h14]; exact m5 t a) (by rw [eV, h108]; exact m6) (by rw [eV, h108]; exact m7)
        · have y1 : agF c K M (fset (M 9) s ((v + 1 : Nat) : Int)) n = 1 := by
            rcases agF_01 (c := c) (K := K) (M := M) (sz := fset (M 9) s ((v + 1 : Nat) : Int)) n with y2 | y2
            · exact (y y2).elim
            · exact y2
          rw [if_pos ⟨by omega, y1⟩] at eV
          refine ⟨fun x => last _ ?_ (by rw [eV]), fun x => ⟨by omega, by omega, last _ ?_ (by rw [eV])⟩⟩
          · rw [eV]; show _ = if _ then _ else _; rw [if_neg x]
          · rw [eV]; show _ = if _ then _ else _; rw [if_pos x]; rfl
  have outer : ∀ (r s : Nat) (M' : mM) (u6 u7 : mV), s + r = K → sxR c K M M' K (gsS c K M n s) → V (d + 5) k qX1_search 37 [mR 10 3 108, mR 11 5 12, mR 15 7 16, mR 13 5 28, mI 0, mI s, u6, u7] [] M' Q := by
    intro r
    induction r with
    | zero =>
      intro s M' u6 u7 hs g
      have e : s = K := by omega
      subst e
      have Bk := B_X1_search_37 (d := d + 4) (k := k) (M := M') (Q := Q) (x4 := 0) (x5 := s) (u6 := u6) (u7 := u7)
      rw [g.2.2.1] at Bk
      exact Bk ⟨fun _ => hQ M' g.1 g.2.2.2.2.2.1 g.2.2.2.2.2.2, fun z => by omega⟩
    | succ r ih =>
      intro s M' u6 u7 hs g
      have Bk := B_X1_search_37 (d := d + 4) (k := k) (M := M') (Q := Q) (x4 := 0) (x5 := s) (u6 := u6) (u7 := u7)
      rw [g.2.2.1, g.2.2.2.1 s (by omega) (by omega)] at Bk
      refine Bk ⟨fun z => by omega, fun _ => ⟨by omega, ?_⟩⟩
      have hb := gsS_bd (K := K) (M := M) (n := n) hc s
      refine inner s (gsS c K M n s) (by omega) hb (fun M'' g' u6 u7 => ?_) cn 0 M' (by omega) ⟨g.1, g.2.1, g.2.2.1, fun t ht _ => g.2.2.2.1 t ht (by omega), g.2.2.2.2⟩
      have := ih (s + 1) M'' u6 u7 (by omega) (by
        have e : gsS c K M n (s + 1) = gsV c K M n s (gsS c K M n s) cn := by show gsV c K M n s (gsS c K M n s) c.toNat = _; rw [hcn]; rfl
        rw [e]; exact g')
      exact this
  refine B_X1_search_0 ?_
  have wipe : ∀ (r j : Nat) (M' : mM), j + r = 8 → (∀ t, t ≠ 109 → M' t = mUp (mUp M1 108 0 0) 108 1 (-1) t) → V (d + 5) k qX1_search 13 [mR 10 3 108, mR 11 5 12, mR 15 7 16, mR 13 5 28, mI 0, mI j, mE 0, mE 0] [] M' Q := by
    intro r
    induction r with
    | zero =>
      intro j M' hj g
      have g' : ∀ t, t ≠ 109 → t ≠ 108 → M' t = M1 t := fun t a b => by rw [g t a, up_row b, up_row b]
      refine B_X1_search_13 ⟨fun _ => outer K 0 M' _ _ (by omega) ⟨q.kp.tr (fun t ht => g' t (by omega) (by omega)), by rw [g' 12 (by decide) (by decide)]; exact q.1, by rw [g' 12 (by decide) (by decide)]; exact q.2.1, fun t ht _ => by rw [g' 13 (by decide) (by decide)]; exact (q.2.2.1.1 t ht).1, fun t ht => by rw [g' 14 (by decide) (by decide)]; exact (q.2.2.1.1 t ht).2, by rw [g 108 (by decide), up_fld (by decide), up_s]; rfl, by rw [g 108 (by decide), up_s]; rfl⟩, fun z => by omega⟩
    | succ r ih =>
      intro j M' hj g
      exact B_X1_search_13 ⟨fun z => by omega, fun _ => ⟨by omega, by omega, ih (j + 1) _ (by omega) (fun t ht => by rw [up_row ht]; exact g t ht)⟩⟩
  exact wipe 8 0 _ (by omega) (fun _ _ => rfl)
def an_other (c : Int) (K : Nat) (M : mM) (w : Int) : An := if 0 ≤ w ∧ w ≤ 2 then .inl (if w = 2 then agF c K M (M 9) (M 112 10).toNat else if w = 0 then (gsS c K M (M 112 10).toNat K).1 else (gsS c K M (M 112 10).toNat K).2) else .inr 1
theorem xq_other {d : Nat} {c : Int} {K : Nat} {N : Int} {M : mM} {Q : mRes → mM → Prop} {w : Int} (hS : St c K N M) (hQ : ∀ M', kpX M M' → Q (xr (an_other c K M w)) M') : V (d + 60) 3 qX9_other 0 [mR 17 15 0, mI w, mE 0] [] M Q := by
  unfold an_other at hQ
  have hL := hS.1
  have hA := hS.A
  have no : ¬ (0 ≤ w ∧ w ≤ 2) → Q (.inr 1) M := fun h => by have := hQ M kpX.rf; rw [if_neg h] at this; exact this
  obtain ⟨n, hn⟩ : ∃ n : Nat, M 112 10 = n := ⟨(M 112 10).toNat, by omega⟩
  refine B_X9_other_0 ⟨fun z => ⟨by omega, by omega, no (by omega)⟩, fun z => ⟨fun y => c_X9_restNow hS (fun M1 q => ?_), fun y => ⟨by omega, by omega, no (by omega)⟩⟩⟩
  rw [if_pos ⟨by omega, y⟩, hn, show ((n : Int)).toNat = n by omega] at hQ
  refine B_X9_other_24 ⟨fun a => c_X1_search0 hS hn q (fun M2 k2 h1 h2 => ?_), fun a => c_X1_agrees hS hn q.kp q.1 q.2.1 q.2.2.1 (fun s hs => (hS.sz hs).2) (fun M2 g => ?_)⟩
  · have h := hQ M2 k2
    rw [if_neg a] at h
    have Bk := B_X9_other_72 (d := d + 59) (k := 3) (M := M2) (Q := Q) (x1 := w)
    rw [h1, h2] at Bk
    refine Bk ⟨fun b => ?_, fun b => ?_⟩
    · rw [if_neg b] at h; exact h
    · rw [if_pos b] at h; exact h
  · have h := hQ M2 (q.kp.tr (fun t ht => g t (by simp; omega)))
    rw [if_pos a] at h
    rcases agF_01 (c := c) (K := K) (M := M) (sz := M 9) n with e | e
    · rw [e] at h ⊢
      exact B_X9_other_46 ⟨fun _ => h, fun b => (b rfl).elim⟩
    · rw [e] at h ⊢
      exact B_X9_other_46 ⟨fun b => by omega, fun _ => h⟩
