/-! the class's net: layers, what can come on -/
def lyR (M : mM) (LS : List Int) : Prop := M 90 3 = LS.length ∧ ∀ l : Nat, l < LS.length → M 107 l = LS.getD l 0
theorem ly_in {c : Int} {K : Nat} {sz mn od : Int → Int} (hG : GLok c K sz mn od) (hc : 1 ≤ c) {s : Int} (h : s ∈ lyL od mn K 0) : (0 ≤ s ∧ s < K) ∧ (1 ≤ sz s ∧ sz s ≤ 99) ∧ (1 ≤ mn s ∧ mn s ≤ 24) := by
  obtain ⟨j, _, h2, h3, h4⟩ := lyL_mem h
  have ho := hG.o (i := j) (by omega)
  rw [← h3] at ho h4
  obtain ⟨n, hn⟩ : ∃ n : Nat, s = n := ⟨s.toNat, by omega⟩
  have h5 := (hG.lot hc).2.2.2 n (by omega)
  rw [← hn] at h5
  omega
theorem ly_at {c : Int} {K : Nat} {sz mn od : Int → Int} (hG : GLok c K sz mn od) (hc : 1 ≤ c) {l : Nat} (hl : l < (lyL od mn K 0).length) : (0 ≤ (lyL od mn K 0).getD l 0 ∧ (lyL od mn K 0).getD l 0 < K) ∧ (1 ≤ sz ((lyL od mn K 0).getD l 0) ∧ sz ((lyL od mn K 0).getD l 0) ≤ 99) ∧ (1 ≤ mn ((lyL od mn K 0).getD l 0) ∧ mn ((lyL od mn K 0).getD l 0) ≤ 24) ∧ (nzL sz mn (lyL od mn K 0)).getD l (1, 0) = (sz ((lyL od mn K 0).getD l 0), mn ((lyL od mn K 0).getD l 0)) := by
  have e : (lyL od mn K 0).getD l 0 = (lyL od mn K 0)[l] := by rw [List.getD_eq_getElem?_getD, List.getElem?_eq_getElem hl]; rfl
  have hm : (lyL od mn K 0).getD l 0 ∈ lyL od mn K 0 := by rw [e]; exact List.getElem_mem _
  have h := ly_in hG hc hm
  refine ⟨h.1, h.2.1, h.2.2, ?_⟩
  rw [e, List.getD_eq_getElem?_getD]
  unfold nzL
  rw [List.getElem?_map, List.getElem?_eq_getElem hl]; rfl
theorem nz_ok {c : Int} {K : Nat} {sz mn od : Int → Int} (hG : GLok c K sz mn od) (hc : 1 ≤ c) : zOK (nzL sz mn (lyL od mn K 0)) := fun x hx => by
  unfold nzL at hx
  rw [List.mem_map] at hx
  obtain ⟨s, hs, rfl⟩ := hx
  have := ly_in hG hc hs
  exact ⟨this.2.1.1, by show 0 ≤ mn s; omega⟩
theorem nz_len {sz mn : Int → Int} {L : List Int} : (nzL sz mn L).length = L.length := by unfold nzL; rw [List.length_map]
theorem c_X3_reachOf {d k : Nat} {M : mM} {Q : mRes → mM → Prop} {c : Int} {K l f : Nat} {sz mn od : Int → Int} (h13 : M 13 = sz) (h14 : M 14 = mn) (hG : GLok c K sz mn od) (hc : 1 ≤ c) (hl : l < (lyL od mn K 0).length) (h107 : M 107 l = (lyL od mn K 0).getD l 0) (hf : f < 100) (hr : ∀ g : Nat, g < 100 → M (100 + ((l : Int) + 1)) g = rc ((nzL sz mn (lyL od mn K 0)).drop (l + 1)) g)
    (hQ : Q (.inl (some (mI (rc ((nzL sz mn (lyL od mn K 0)).drop l) f)))) M) : V (d + 1) k qX3_reachOf 0 [mR 12 4 90, mR 11 5 12, mI l, mI f, mE 0, mE 0, mE 0, mE 0] [] M Q := by
  have hK6 := hG.2.1
  have hL := lyL_len (od := od) (mn := mn) (r := K) (i := 0)
  have ha := ly_at hG hc hl
  have hzk := nz_ok hG hc
  have hd := drop_cons (L := nzL sz mn (lyL od mn K 0)) (l := l) (by rw [nz_len]; exact hl)
  generalize (lyL od mn K 0).getD l 0 = s at *
  rw [ha.2.2.2] at hd
  have hzd := hzk.d (l := l + 1)
  generalize (nzL sz mn (lyL od mn K 0)).drop (l + 1) = R at *
  rw [hd] at hQ
  have loop : ∀ (r n : Nat) (u7 : mV), n + r = arN (sz s) (mn s) f → V (d + 1) k qX3_reachOf 14 [mR 12 4 90, mR 11 5 12, mI l, mI f, mI s, mI (mxF (fun n => n * sz s + rc R (f - n * sz s)) n), mI n, u7] [] M Q := by
    intro r
    induction r with
    | zero =>
      intro n u7 hn
      have hi := arN_iff (z := sz s) (m := mn s) (f := f) ha.2.1.1 (by omega) (by omega) (n := n)
      have hi1 := arN_iff (z := sz s) (m := mn s) (f := f) ha.2.1.1 (by omega) (by omega) (n := n - 1)
      have hn1 : 1 ≤ n := by unfold arN at hn; omega
      have hn25 : (n : Int) ≤ 25 := by omega
      have hp := mulp (x := n) (y := sz s) (a := 25) (b := 99) (by omega) (by omega)
      have Bk := B_X3_reachOf_14 (d := d) (k := k) (M := M) (Q := Q) (x2 := l) (x3 := f) (x4 := s) (x5 := mxF (fun n => n * sz s + rc R (f - n * sz s)) n) (x6 := n) (u7 := u7)
      rw [h14, h13] at Bk
      have hQ' : Q (.inl (some (mI (mxF (fun n => n * sz s + rc R (f - n * sz s)) n)))) M := by
        rw [show n = arN (sz s) (mn s) f by omega]; exact hQ
      refine Bk ⟨by omega, fun _ => hQ', fun c1 => ⟨by omega, by omega, fun _ => hQ', fun c2 => by omega⟩⟩
    | succ r ih =>
      intro n u7 hn
      have hi := (arN_iff (z := sz s) (m := mn s) (f := f) ha.2.1.1 (by omega) (by omega) (n := n)).mp (by omega)
      have hp := mulp (x := n) (y := sz s) (a := 25) (b := 99) (by omega) (by omega)
      obtain ⟨g, hg⟩ : ∃ g : Nat, (f : Int) - n * sz s = g := ⟨((f : Int) - n * sz s).toNat, by omega⟩
      have hrg := hr g (by omega)
      have hrb := rc_bd (l := R) (f := g) hzd (by omega)
      have Bk := B_X3_reachOf_14 (d := d) (k := k) (M := M) (Q := Q) (x2 := l) (x3 := f) (x4 := s) (x5 := mxF (fun n => n * sz s + rc R (f - n * sz s)) n) (x6 := n) (u7 := u7)
      rw [h14, h13, hg, hrg] at Bk
      refine Bk ⟨by omega, fun c1 => by omega, fun c1 => ⟨by omega, by omega, fun c2 => by omega, fun c2 => ⟨by omega, by omega, by omega, by omega, by omega, by omega, by omega, by omega, ?_⟩⟩⟩
      have := ih (n + 1) (mI (n * sz s)) (by omega)
      rw [show mxF (fun n => n * sz s + rc R (f - n * sz s)) (n + 1) = max (mxF (fun n => n * sz s + rc R (f - n * sz s)) n) (n * sz s + rc R g) by rw [← hg]; rfl] at this
      exact this
  refine B_X3_reachOf_0 ⟨by omega, ?_⟩
  rw [h107]
  exact loop (arN (sz s) (mn s) f) 0 _ (by omega)
def frL (M M' : mM) : Prop := ∀ n, n ≠ 90 → n ≠ 107 → ¬ (100 ≤ n ∧ n < 107) → M' n = M n
theorem frL.tr {M M' M'' : mM} (h : frL M M') (h' : frL M' M'') : frL M M'' := fun n a b c => (h' n a b c).trans (h n a b c)
def rcR (M : mM) (NZ : zL) (l0 : Nat) : Prop := ∀ l : Nat, l0 ≤ l → l ≤ NZ.length → ∀ f : Nat, f < 100 → M (100 + l) f = rc (NZ.drop l) f
theorem dropL {LS : List Int} {j : Nat} {s : Int} {R : List Int} (h : LS.drop j = s :: R) : LS.getD j 0 = s ∧ LS.drop (j + 1) = R ∧ j < LS.length := by
  have h1 : j < LS.length := by
    rcases (by omega : j < LS.length ∨ LS.length ≤ j) with e | e
    · exact e
    · rw [List.drop_eq_nil_of_le e] at h; cases h
  rw [List.drop_eq_getElem_cons h1] at h
  injection h with h2 h3
  exact ⟨by rw [List.getD_eq_getElem?_getD, List.getElem?_eq_getElem h1]; exact h2, h3, h1⟩
set_option maxHeartbeats 1000000 in
theorem c_X3_lay {d k : Nat} {M : mM} {Q : mRes → mM → Prop} {c : Int} {K : Nat} {sz mn od : Int → Int} (hK : M 12 1 = K) (h13 : M 13 = sz) (h14 : M 14 = mn) (h15 : M 15 = od) (hG : GLok c K sz mn od) (hc : 1 ≤ c)
    (hQ : ∀ M', frL M M' → lyR M' (lyL od mn K 0) → rcR M' (nzL sz mn (lyL od mn K 0)) 0 → Q (.inl none) M') : V (d + 2) k qX3_lay 0 [mR 12 4 90, mR 11 5 12, mE 0, mE 0] [] M Q := by
  have hK6 := hG.2.1
  have hL := lyL_len (od := od) (mn := mn) (r := K) (i := 0)
  have hzk := nz_ok hG hc
  have hnl := nz_len (sz := sz) (mn := mn) (L := lyL od mn K 0)
  have hat := fun l (hl : l < (lyL od mn K 0).length) => ly_at (sz := sz) hG hc hl
  have hreach := fun (l f : Nat) (M' : mM) (Q' : mRes → mM → Prop) (a1 : M' 13 = sz) (a2 : M' 14 = mn) (hl : l < (lyL od mn K 0).length) => c_X3_reachOf (d := d) (k := 0) (M := M') (Q := Q') (f := f) a1 a2 hG hc hl
  generalize hLS : lyL od mn K 0 = LS at *
  generalize hNZ : nzL sz mn LS = NZ at *
  -- rows of what can come on, from the last layer down
  have rows : ∀ (r f : Nat) (l : Nat) (M' : mM), f + r = 100 → l < LS.length → frL M M' → lyR M' LS → rcR M' NZ (l + 1) → (∀ g : Nat, g < f → M' (100 + l) g = rc (NZ.drop l) g) →
      (∀ M'' u3, frL M M'' → lyR M'' LS → rcR M'' NZ l → V (d + 2) k qX3_lay 102 [mR 12 4 90, mR 11 5 12, mI ((l : Int) + (-1)), u3] [] M'' Q) → V (d + 2) k qX3_lay 108 [mR 12 4 90, mR 11 5 12, mI l, mI f] [] M' Q := by
    intro r
    induction r with
    | zero =>
      intro f l M' hf hl g1 g2 g3 g4 hk
      refine B_X3_lay_108 ⟨fun _ => ⟨by omega, hk M' _ g1 g2 (fun l' h1 h2 f' h3 => ?_)⟩, fun z => by omega⟩
      by_cases e : l' = l
      · subst e; exact g4 f' (by omega)
      · exact g3 l' (by omega) h2 f' h3
    | succ r ih =>
      intro f l M' hf hl g1 g2 g3 g4 hk
      refine B_X3_lay_108 ⟨fun z => by omega, fun _ => ⟨by omega, ?_⟩⟩
      refine hreach l f M' _ (by rw [g1 13 (by decide) (by decide) (by omega)]; exact h13) (by rw [g1 14 (by decide) (by decide) (by omega)]; exact h14) hl (g2.2 l hl) (by omega) (fun g hg => ?_) (B_X3_lay_128 ⟨by omega, by omega, ?_⟩)
      · exact g3 (l + 1) (by omega) (by omega) g hg
      · refine ih (f + 1) l _ (by omega) hl (fun n a b e => by rw [up_row (by omega)]; exact g1 n a b e) ⟨by rw [up_row (by omega)]; exact g2.1, fun l' h' => by rw [up_row (by omega)]; exact g2.2 l' h'⟩ (fun l' h1 h2 f' h3 => by rw [up_row (by omega)]; exact g3 l' h1 h2 f' h3) (fun g hg => ?_) hk
        by_cases e : g = f
        · subst e; rw [up_s]
        · rw [up_fld (by omega)]; exact g4 g (by omega)
  have down : ∀ (l : Nat) (M' : mM) (u3 : mV), l ≤ LS.length → frL M M' → lyR M' LS → rcR M' NZ l → V (d + 2) k qX3_lay 102 [mR 12 4 90, mR 11 5 12, mI ((l : Int) - 1), u3] [] M' Q := by
    intro l
    induction l with
    | zero =>
      intro M' u3 hl g1 g2 g3
      exact B_X3_lay_102 ⟨fun _ => hQ M' g1 g2 g3, fun z => by omega⟩
    | succ l ih =>
      intro M' u3 hl g1 g2 g3
      rw [show ((l + 1 : Nat) : Int) - 1 = l by omega]
      refine B_X3_lay_102 ⟨fun z => by omega, fun _ => rows 100 0 l M' (by omega) (by omega) g1 g2 g3 (fun g hg => by omega) (fun M'' u3 a b e => ?_)⟩
      rw [show (l : Int) + (-1) = (l : Int) - 1 by omega]
      exact ih M'' u3 (by omega) a b e
  have last : ∀ (r f : Nat) (M' : mM) (u3 : mV), f + r = 100 → frL M M' → lyR M' LS → (∀ g : Nat, g < f → M' (100 + LS.length) g = 0) → V (d + 2) k qX3_lay 71 [mR 12 4 90, mR 11 5 12, mI f, u3] [] M' Q := by
    intro r
    induction r with
    | zero =>
      intro f M' u3 hf g1 g2 g3
      have Bk := B_X3_lay_71 (d := d + 1) (k := k) (M := M') (Q := Q) (x2 := f) (u3 := u3)
      rw [g2.1] at Bk
      refine Bk ⟨fun _ => ⟨by omega, down LS.length M' u3 (Nat.le_refl _) g1 g2 (fun l h1 h2 f' h3 => ?_)⟩, fun z => by omega⟩
      have e : l = LS.length := by omega
      subst e
      rw [g3 f' (by omega), List.drop_eq_nil_of_le (by omega)]; rfl
    | succ r ih =>
      intro f M' u3 hf g1 g2 g3
      have Bk := B_X3_lay_71 (d := d + 1) (k := k) (M := M') (Q := Q) (x2 := f) (u3 := u3)
      rw [g2.1] at Bk
      refine Bk ⟨fun z => by omega, fun _ => ⟨by omega, by omega, by omega, ih (f + 1) _ u3 (by omega) (fun n a b e => by rw [up_row (by omega)]; exact g1 n a b e) ⟨by rw [up_row (by omega)]; exact g2.1, fun l' h' => by rw [up_row (by omega)]; exact g2.2 l' h'⟩ (fun g hg => ?_)⟩⟩
      by_cases e : g = f
      · subst e; rw [up_s]
      · rw [up_fld (by omega)]; exact g3 g (by omega)
  have lays : ∀ (r i j : Nat) (M' : mM) (u3 : mV), i + r = K → j ≤ i → frL M M' → M' 90 3 = j → LS.drop j = lyL od mn r i → j ≤ LS.length → (∀ t : Nat, t < j → M' 107 t = LS.getD t 0) → V (d + 2) k qX3_lay 7 [mR 12 4 90, mR 11 5 12, mI i, u3] [] M' Q := by
    intro r
    induction r with
    | zero =>
      intro i j M' u3 hi hj g1 g2 g3 gl g4
      have hjl : LS.length ≤ j := List.drop_eq_nil_iff.mp g3
      have hjl2 : j = LS.length := by omega
      have Bk := B_X3_lay_7 (d := d + 1) (k := k) (M := M') (Q := Q) (x2 := i) (u3 := u3)
      rw [g1 12 (by decide) (by decide) (by omega), hK, g2] at Bk
      subst hjl2
      exact Bk ⟨fun _ => last 100 0 M' u3 (by omega) g1 ⟨g2, g4⟩ (fun g hg => by omega), fun z => by omega⟩
    | succ r ih =>
      intro i j M' u3 hi hj g1 g2 g3 gl g4
      have ho := hG.o (i := i) (by omega)
      have Bk := B_X3_lay_7 (d := d + 1) (k := k) (M := M') (Q := Q) (x2 := i) (u3 := u3)
      rw [g1 12 (by decide) (by decide) (by omega), hK, g2, g1 15 (by decide) (by decide) (by omega), h15, g1 14 (by decide) (by decide) (by omega), h14] at Bk
      refine Bk ⟨fun z => by omega, fun _ => ⟨fun z => by omega, fun _ => ⟨by omega, by omega, fun c1 => ⟨by omega, ?_⟩, fun c1 => ⟨by omega, by omega, by omega, by omega, ?_⟩⟩⟩⟩
      · refine ih (i + 1) j M' u3 (by omega) (by omega) g1 g2 ?_ gl g4
        rw [g3]; exact if_neg (by omega)
      · have g3' : LS.drop j = od i :: lyL od mn r (i + 1) := by rw [g3]; exact if_pos (by omega)
        obtain ⟨q1, q2, q3⟩ := dropL g3'
        refine ih (i + 1) (j + 1) _ u3 (by omega) (by omega) (fun n a b e => by rw [up_row a, up_row b]; exact g1 n a b e) (by rw [up_s]; rfl) q2 (by omega) (fun t ht => ?_)
        rw [up_row (by decide)]
        by_cases e : t = j
        · subst e; rw [up_s, q1]
        · rw [up_fld (by omega)]; exact g4 t (by omega)
  exact B_X3_lay_0 (lays K 0 0 _ _ (by omega) (by omega) (fun n a _ _ => up_row a) up_s hLS.symm (by omega) (fun t ht => by omega))
