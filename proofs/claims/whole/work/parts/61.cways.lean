/-! the class's net: ways -/
theorem arN_le {z m f : Int} (hm : 0 ≤ m) : (arN z m f : Int) ≤ m + 1 := by unfold arN; omega
theorem c_X3_arcsFrom {d k : Nat} {M : mM} {Q : mRes → mM → Prop} {c : Int} {K l : Nat} {p : Int} {sz mn od : Int → Int} (hc0 : M 12 0 = c) (h13 : M 13 = sz) (h14 : M 14 = mn) (hG : GLok c K sz mn od) (hc : 1 ≤ c) (hl : l < (lyL od mn K 0).length) (h107 : M 107 l = (lyL od mn K 0).getD l 0) (hp : 0 ≤ p ∧ p ≤ c)
    (hQ : Q (.inl (some (mI (arN (sz ((lyL od mn K 0).getD l 0)) (mn ((lyL od mn K 0).getD l 0)) (c - p))))) M) : V (d + 1) k qX3_arcsFrom 0 [mR 12 4 90, mR 11 5 12, mI l, mI p, mE 0] [] M Q := by
  have hK6 := hG.2.1
  have hc9 := hG.1
  have hL := lyL_len (od := od) (mn := mn) (r := K) (i := 0)
  have ha := ly_at hG hc hl
  generalize (lyL od mn K 0).getD l 0 = s at *
  have Bk := B_X3_arcsFrom_0 (d := d) (k := k) (M := M) (Q := Q) (x2 := l) (x3 := p)
  rw [hc0, h107, h13, h14] at Bk
  refine Bk ⟨by omega, by omega, by omega, by omega, c_X2_cut (by omega) (fun r hr => ?_)⟩
  rw [if_neg (by omega)] at hr
  have hd := dvc (x := c - p) (c := sz s) (by omega) (by omega)
  refine B_X3_arcsFrom_31 ⟨by omega, ?_⟩
  rw [show min (mn s) r + 1 = (arN (sz s) (mn s) (c - p) : Int) by rw [hr]; unfold arN; omega]
  exact hQ
set_option maxHeartbeats 1000000 in
theorem c_X3_goFrom {d k : Nat} {M : mM} {Q : mRes → mM → Prop} {c : Int} {K l : Nat} {sz mn od : Int → Int} (hc0 : M 12 0 = c) (h13 : M 13 = sz) (h14 : M 14 = mn) (hG : GLok c K sz mn od) (hc : 1 ≤ c) (hl : l < (lyL od mn K 0).length) (h107 : M 107 l = (lyL od mn K 0).getD l 0)
    (hw : ∀ p : Nat, p < 100 → M (92 + l) p = wyF c (nzL sz mn (lyL od mn K 0)) l p) (h0 : ∀ p : Nat, p < 100 → M (92 + ((l : Int) + 1)) p = 0)
    (hQ : ∀ M', (∀ n, n ≠ 92 + ((l : Int) + 1) → M' n = M n) → (∀ p : Nat, p < 100 → M' (92 + ((l : Int) + 1)) p = wyF c (nzL sz mn (lyL od mn K 0)) (l + 1) p) → Q (.inl none) M') : V (d + 2) k qX3_goFrom 0 [mR 12 4 90, mR 11 5 12, mI l, mE 0, mE 0, mE 0, mE 0, mE 0] [] M Q := by
  have hK6 := hG.2.1
  have hc9 := hG.1
  have hL := lyL_len (od := od) (mn := mn) (r := K) (i := 0)
  have ha := ly_at hG hc hl
  have hzk := nz_ok hG hc
  have hnl := nz_len (sz := sz) (mn := mn) (L := lyL od mn K 0)
  have hbd := fun (p n : Nat) (hp : (p : Int) ≤ c) (hn : n ≤ arN ((nzL sz mn (lyL od mn K 0)).getD l (1, 0)).1 ((nzL sz mn (lyL od mn K 0)).getD l (1, 0)).2 (c - p)) => scN_bd hzk (by omega) (l := l) (by omega) hp hn
  have hwb := fun q => wyF_bd hzk (by omega) (c := c) (l := l) (by omega) q
  have harc := fun (p : Int) (M' : mM) (Q' : mRes → mM → Prop) (a0 : M' 12 0 = c) (a1 : M' 13 = sz) (a2 : M' 14 = mn) => c_X3_arcsFrom (d := d) (k := 0) (M := M') (Q := Q') (p := p) a0 a1 a2 hG hc hl
  have hcn : cn (nzL sz mn (lyL od mn K 0)) c < 100000 := by
    have e := (ly_cn (sz := sz) (mn := mn) (od := od) (r := K) (i := 0) (f := c) (fun j _ h2 => ⟨hG.m (by omega), (hG.z (by omega)).1⟩) (by omega)).1
    rw [e]
    have := hG.plen
    have e2 : cn (lst (zmF (fun j => sz (od j)) (fun j => mn (od j))) K 0) c = ((pats (zl K sz mn od) c).length : Int) := rfl
    omega
  generalize hNZ : nzL sz mn (lyL od mn K 0) = NZ at *
  generalize (lyL od mn K 0).getD l 0 = s at *
  rw [ha.2.2.2] at hbd
  dsimp only at hbd
  have eW : wyF c NZ (l + 1) = scP (wyF c NZ l) (sz s) (mn s) c (c.toNat + 1) := by
    show scP (wyF c NZ l) (NZ.getD l (1, 0)).1 (NZ.getD l (1, 0)).2 c (c.toNat + 1) = _
    rw [ha.2.2.2]
  rw [eW] at hQ
  have place : ∀ (r p : Nat) (u5 u6 u7 : mV) (M' : mM), (p : Int) + r = c + 1 → (∀ n, n ≠ 92 + ((l : Int) + 1) → M' n = M n) → (∀ q : Nat, q < 100 → M' (92 + ((l : Int) + 1)) q = scP (wyF c NZ l) (sz s) (mn s) c p q) → V (d + 2) k qX3_goFrom 10 [mR 12 4 90, mR 11 5 12, mI l, mI s, mI p, u5, u6, u7] [] M' Q := by
    intro r
    induction r with
    | zero =>
      intro p u5 u6 u7 M' hp g1 g2
      have Bk := B_X3_goFrom_10 (d := d + 1) (k := k) (M := M') (Q := Q) (x2 := l) (x3 := s) (x4 := p) (u5 := u5) (u6 := u6) (u7 := u7)
      rw [g1 12 (by omega), hc0] at Bk
      refine Bk ⟨fun _ => hQ M' g1 (fun q hq => ?_), fun z => by omega⟩
      rw [g2 q hq, show p = c.toNat + 1 by omega]
    | succ r ih =>
      intro p u5 u6 u7 M' hp g1 g2
      have hz := hwb p
      have Bk := B_X3_goFrom_10 (d := d + 1) (k := k) (M := M') (Q := Q) (x2 := l) (x3 := s) (x4 := p) (u5 := u5) (u6 := u6) (u7 := u7)
      rw [g1 12 (by omega), hc0, g1 (92 + l) (by omega), hw p (by omega)] at Bk
      refine Bk ⟨fun z => by omega, fun _ => ⟨fun z => by omega, fun _ => ⟨by omega, by omega, fun c1 => ?_, fun c1 => ?_⟩⟩⟩
      · have e0 : wyF c NZ l p = 0 := by omega
        refine B_X3_goFrom_55 ⟨fun _ => ⟨by omega, ih (p + 1) _ _ _ M' (by omega) g1 (fun q hq => ?_)⟩, fun z => by omega⟩
        rw [g2 q hq]
        show _ = scN (wyF c NZ l p) (sz s) p (scP (wyF c NZ l) (sz s) (mn s) c p) (arN (sz s) (mn s) (c - p)) q
        rw [e0, scN_0]
      · refine harc p M' _ (by rw [g1 12 (by omega)]; exact hc0) (by rw [g1 13 (by omega)]; exact h13) (by rw [g1 14 (by omega)]; exact h14) (by rw [g1 107 (by omega)]; exact h107) (by omega) (B_X3_goFrom_46 ?_)
        have har := arN_le (z := sz s) (m := mn s) (f := c - p) (by omega)
        have arcs : ∀ (rr n : Nat) (u7 : mV) (M2 : mM), n + rr = arN (sz s) (mn s) (c - p) → (∀ n, n ≠ 92 + ((l : Int) + 1) → M2 n = M n) → (∀ q : Nat, q < 100 → M2 (92 + ((l : Int) + 1)) q = scN (wyF c NZ l p) (sz s) p (scP (wyF c NZ l) (sz s) (mn s) c p) n q) → V (d + 2) k qX3_goFrom 55 [mR 12 4 90, mR 11 5 12, mI l, mI s, mI p, mI (arN (sz s) (mn s) (c - p)), mI n, u7] [] M2 Q := by
          intro rr
          induction rr with
          | zero =>
            intro n u7 M2 hn f1 f2
            refine B_X3_goFrom_55 ⟨fun _ => ⟨by omega, ih (p + 1) _ _ _ M2 (by omega) f1 (fun q hq => ?_)⟩, fun z => by omega⟩
            rw [f2 q hq, show n = arN (sz s) (mn s) (c - p) by omega]; rfl
          | succ rr ihr =>
            intro n u7 M2 hn f1 f2
            have hi := (arN_iff (z := sz s) (m := mn s) (f := c - p) ha.2.1.1 (by omega) (by omega) (n := n)).mp (by omega)
            have hpr := mulp (x := n) (y := sz s) (a := 25) (b := 99) (by omega) (by omega)
            obtain ⟨q0, hq0⟩ : ∃ q : Nat, (p : Int) + n * sz s = q := ⟨((p : Int) + n * sz s).toNat, by omega⟩
            have b1 := hbd p n (by omega) (by omega) q0
            have Bk := B_X3_goFrom_55 (d := d + 1) (k := k) (M := M2) (Q := Q) (x2 := l) (x3 := s) (x4 := p) (x5 := arN (sz s) (mn s) (c - p)) (x6 := n) (u7 := u7)
            rw [f1 13 (by omega), h13, hq0, f2 q0 (by omega), f1 (92 + l) (by omega), hw p (by omega)] at Bk
            refine Bk ⟨fun z => by omega, fun _ => ⟨by omega, by omega, by omega, fun z => by omega, fun _ => ⟨by omega, by omega, by omega, by omega, by omega, by omega, by omega, by omega, ihr (n + 1) _ _ (by omega) (fun n hn => by rw [up_row hn]; exact f1 n hn) (fun q hq => ?_)⟩⟩⟩
            show _ = fset (scN (wyF c NZ l p) (sz s) p (scP (wyF c NZ l) (sz s) (mn s) c p) n) (p + n * sz s) (scN (wyF c NZ l p) (sz s) p (scP (wyF c NZ l) (sz s) (mn s) c p) n (p + n * sz s) + wyF c NZ l p) q
            rw [hq0]
            by_cases e : (q : Int) = q0
            · rw [e, up_s, fset_s]
            · rw [up_fld e, fset_n e]; exact f2 q hq
        exact arcs (arN (sz s) (mn s) (c - p)) 0 _ M' (by omega) g1 g2
  refine B_X3_goFrom_0 ⟨by omega, ?_⟩
  rw [h107]
  exact place (c.toNat + 1) 0 _ _ _ M (by omega) (fun _ _ => rfl) (fun q hq => h0 q hq)
/-- the class's net, laid -/
def netC (c : Int) (LS : List Int) (NZ : zL) (M : mM) : Prop := lyR M LS ∧ rcR M NZ 0 ∧ ∀ l : Nat, l ≤ LS.length → ∀ p : Nat, p < 100 → M (92 + l) p = wyF c NZ l p
def frW (M M' : mM) : Prop := ∀ n, ¬ (90 ≤ n ∧ n < 108) → M' n = M n
theorem cn_paths {c : Int} {NZ : zL} (hz : zOK NZ) (hc : 0 ≤ c ∧ c ≤ 99) : sg (wyF c NZ NZ.length) 100 = cn NZ c := by
  obtain ⟨N, hN⟩ : ∃ N : Nat, (N : Int) = c + 1 := ⟨(c + 1).toNat, by omega⟩
  have h1 := wyF_phi hz hN hc.1 (l := NZ.length) (Nat.le_refl _)
  rw [sg_ext (n := N) (m := 100) (by omega) (fun j h2 h3 => wyF_out hz hc.1 (by omega) (Nat.le_refl _)), ← h1]
  refine sg_congr (fun j hj => ?_)
  rw [List.drop_eq_nil_of_le (Nat.le_refl _)]
  show _ = _ * 1
  omega
set_option maxHeartbeats 1000000 in
theorem c_X3_waysThrough {d k : Nat} {M : mM} {Q : mRes → mM → Prop} {c : Int} {K : Nat} {sz mn od : Int → Int} (hc0 : M 12 0 = c) (hK : M 12 1 = K) (h13 : M 13 = sz) (h14 : M 14 = mn) (h15 : M 15 = od) (hG : GLok c K sz mn od) (hc : 1 ≤ c)
    (hQ : ∀ M', frW M M' → netC c (lyL od mn K 0) (nzL sz mn (lyL od mn K 0)) M' → Q (.inl (some (mI ((pats (zl K sz mn od) c).length : Int)))) M') : V (d + 3) k qX3_waysThrough 0 [mR 12 4 90, mR 11 5 12, mE 0, mE 0] [] M Q := by
  have hK6 := hG.2.1
  have hc9 := hG.1
  have hL := lyL_len (od := od) (mn := mn) (r := K) (i := 0)
  have hzk := nz_ok hG hc
  have hnl := nz_len (sz := sz) (mn := mn) (L := lyL od mn K 0)
  have e := (ly_cn (sz := sz) (mn := mn) (od := od) (r := K) (i := 0) (f := c) (fun j _ h2 => ⟨hG.m (by omega), (hG.z (by omega)).1⟩) (by omega)).1
  have e2 : cn (lst (zmF (fun j => sz (od j)) (fun j => mn (od j))) K 0) c = ((pats (zl K sz mn od) c).length : Int) := rfl
  have hpl := hG.plen
  rw [e2] at e
  rw [← e] at hQ
  have hgo := fun (l : Nat) (M' : mM) (Q' : mRes → mM → Prop) (a0 : M' 12 0 = c) (a1 : M' 13 = sz) (a2 : M' 14 = mn) (hl : l < (lyL od mn K 0).length) => c_X3_goFrom (d := d) (k := 0) (M := M') (Q := Q') a0 a1 a2 hG hc hl
  refine B_X3_waysThrough_0 (c_X3_lay hK h13 h14 h15 hG hc (fun M1 q1 q2 q3 => B_X3_waysThrough_5 ?_))
  have hsum := cn_paths (c := c) hzk (by omega)
  rw [hnl] at hsum
  have hcn : cn (nzL sz mn (lyL od mn K 0)) c < 100000 := by omega
  generalize hNZ : nzL sz mn (lyL od mn K 0) = NZ at *
  generalize hLS : lyL od mn K 0 = LS at *
  have fr1 : frW M M1 := fun n hn => q1 n (by omega) (by omega) (by omega)
  have keep : ∀ {M' : mM}, (∀ n, ¬ (92 ≤ n ∧ n < 99) → M' n = M1 n) → frW M M' ∧ lyR M' LS ∧ rcR M' NZ 0 ∧ M' 12 = M 12 ∧ M' 13 = sz ∧ M' 14 = mn ∧ M' 107 = M1 107 := fun g => ⟨fun n hn => by rw [g n (by omega)]; exact fr1 n hn, ⟨by rw [g 90 (by omega)]; exact q2.1, fun l hl => by rw [g 107 (by omega)]; exact q2.2 l hl⟩, fun l h1 h2 f hf => by rw [g (100 + l) (by omega)]; exact q3 l h1 h2 f hf, by rw [g 12 (by omega)]; exact fr1 12 (by omega), by rw [g 13 (by omega), fr1 13 (by omega)]; exact h13, by rw [g 14 (by omega), fr1 14 (by omega)]; exact h14, g 107 (by omega)⟩
  -- the sum
  have sum : ∀ (r p : Nat) (M' : mM), p + r = 100 → (∀ n, ¬ (92 ≤ n ∧ n < 99) → M' n = M1 n) → (∀ l : Nat, l ≤ LS.length → ∀ p : Nat, p < 100 → M' (92 + l) p = wyF c NZ l p) → V (d + 3) k qX3_waysThrough 79 [mR 12 4 90, mR 11 5 12, mI (sg (wyF c NZ LS.length) p), mI p] [] M' Q := by
    intro r
    induction r with
    | zero =>
      intro p M' hp g1 g2
      obtain ⟨k1, k2, k3, _⟩ := keep g1
      refine B_X3_waysThrough_79 ⟨fun _ => ?_, fun z => by omega⟩
      rw [show p = 100 by omega, hsum]
      exact hQ M' k1 ⟨k2, k3, g2⟩
    | succ r ih =>
      intro p M' hp g1 g2
      obtain ⟨k1, k2, k3, _⟩ := keep g1
      have h1 := sg_le (f := wyF c NZ LS.length) (n := p) (m := 100) (by omega) (fun j _ => wyF_nn _ _)
      have h2 := sg_le (f := wyF c NZ LS.length) (n := p + 1) (m := 100) (by omega) (fun j _ => wyF_nn _ _)
      have h3 := sg_le (f := wyF c NZ LS.length) (n := 0) (m := p) (by omega) (fun j _ => wyF_nn _ _)
      have e3 : sg (wyF c NZ LS.length) (p + 1) = sg (wyF c NZ LS.length) p + wyF c NZ LS.length p := rfl
      have e4 : sg (wyF c NZ LS.length) 0 = 0 := rfl
      have h5 := wyF_nn (c := c) (L := NZ) LS.length p
      have Bk := B_X3_waysThrough_79 (d := d + 2) (k := k) (M := M') (Q := Q) (x2 := sg (wyF c NZ LS.length) p) (x3 := p)
      rw [k2.1, g2 LS.length (Nat.le_refl _) p (by omega)] at Bk
      exact Bk ⟨fun z => by omega, fun _ => ⟨by omega, by omega, by omega, by omega, ih (p + 1) M' (by omega) g1 g2⟩⟩
  have go : ∀ (r l : Nat) (u3 : mV) (M' : mM), l + r = LS.length → (∀ n, ¬ (92 ≤ n ∧ n < 99) → M' n = M1 n) → (∀ l' : Nat, l' ≤ l → ∀ p : Nat, p < 100 → M' (92 + l') p = wyF c NZ l' p) → (∀ l' : Nat, l < l' → l' ≤ LS.length → ∀ p : Nat, p < 100 → M' (92 + l') p = 0) → V (d + 3) k qX3_waysThrough 55 [mR 12 4 90, mR 11 5 12, mI l, u3] [] M' Q := by
    intro r
    induction r with
    | zero =>
      intro l u3 M' hl g1 g2 g3
      obtain ⟨k1, k2, k3, _⟩ := keep g1
      have Bk := B_X3_waysThrough_55 (d := d + 2) (k := k) (M := M') (Q := Q) (x2 := l) (u3 := u3)
      rw [k2.1] at Bk
      exact Bk ⟨fun _ => sum 100 0 M' (by omega) g1 (fun l' h1 => g2 l' (by omega)), fun z => by omega⟩
    | succ r ih =>
      intro l u3 M' hl g1 g2 g3
      obtain ⟨k1, k2, k3, k4, k5, k6, k7⟩ := keep g1
      have Bk := B_X3_waysThrough_55 (d := d + 2) (k := k) (M := M') (Q := Q) (x2 := l) (u3 := u3)
      rw [k2.1] at Bk
      refine Bk ⟨fun z => by omega, fun _ => hgo l M' _ (by rw [k4]; exact hc0) k5 k6 (by omega) (k2.2 l (by omega)) (g2 l (Nat.le_refl _)) (fun p hp => g3 (l + 1) (by omega) (by omega) p hp) (fun M2 f1 f2 => B_X3_waysThrough_69 ⟨by omega, ih (l + 1) _ M2 (by omega) (fun n hn => by rw [f1 n (by omega)]; exact g1 n hn) (fun l' h1 p hp => ?_) (fun l' h1 h2 p hp => ?_)⟩)⟩
      · by_cases e : l' = l + 1
        · subst e; exact f2 p hp
        · rw [f1 (92 + l') (by omega)]; exact g2 l' (by omega) p hp
      · rw [f1 (92 + l') (by omega)]; exact g3 l' (by omega) h2 p hp
  have zr : ∀ (rl l : Nat) (u3 : mV) (M' : mM), l + rl = LS.length + 1 → (∀ n, ¬ (92 ≤ n ∧ n < 99) → M' n = M1 n) → (∀ l' : Nat, l' < l → ∀ p : Nat, p < 100 → M' (92 + l') p = 0) → V (d + 3) k qX3_waysThrough 7 [mR 12 4 90, mR 11 5 12, mI l, u3] [] M' Q := by
    intro rl
    induction rl with
    | zero =>
      intro l u3 M' hl g1 g2
      obtain ⟨k1, k2, k3, _⟩ := keep g1
      have Bk := B_X3_waysThrough_7 (d := d + 2) (k := k) (M := M') (Q := Q) (x2 := l) (u3 := u3)
      rw [k2.1] at Bk
      refine Bk ⟨fun _ => go LS.length 0 _ _ (by omega) (fun n hn => by rw [up_row (by omega)]; exact g1 n hn) (fun l' h1 p hp => ?_) (fun l' h1 h2 p hp => ?_), fun z => by omega⟩
      · have e0 : l' = 0 := by omega
        subst e0
        show mUp M' 92 0 1 92 p = fset (fun _ => 0) 0 1 p
        by_cases e : p = 0
        · subst e; exact up_s.trans fset_s.symm
        · rw [up_fld (by omega), fset_n (by omega)]; exact g2 0 (by omega) p hp
      · rw [up_row (by omega)]; exact g2 l' (by omega) p hp
    | succ rl ih =>
      intro l u3 M' hl g1 g2
      obtain ⟨k1, k2, k3, _⟩ := keep g1
      have Bk := B_X3_waysThrough_7 (d := d + 2) (k := k) (M := M') (Q := Q) (x2 := l) (u3 := u3)
      rw [k2.1] at Bk
      refine Bk ⟨fun z => by omega, fun _ => ?_⟩
      have pl : ∀ (rp p : Nat) (M2 : mM), p + rp = 100 → (∀ n, ¬ (92 ≤ n ∧ n < 99) → M2 n = M1 n) → (∀ l' : Nat, l' < l → ∀ p : Nat, p < 100 → M2 (92 + l') p = 0) → (∀ q : Nat, q < p → M2 (92 + l) q = 0) → V (d + 3) k qX3_waysThrough 17 [mR 12 4 90, mR 11 5 12, mI l, mI p] [] M2 Q := by
        intro rp
        induction rp with
        | zero =>
          intro p M2 hp f1 f2 f3
          refine B_X3_waysThrough_17 ⟨fun _ => ⟨by omega, ih (l + 1) _ M2 (by omega) f1 (fun l' h1 q hq => ?_)⟩, fun z => by omega⟩
          by_cases e : l' = l
          · subst e; exact f3 q (by omega)
          · exact f2 l' (by omega) q hq
        | succ rp ihp =>
          intro p M2 hp f1 f2 f3
          refine B_X3_waysThrough_17 ⟨fun z => by omega, fun _ => ⟨by omega, by omega, by omega, ihp (p + 1) _ (by omega) (fun n hn => by rw [up_row (by omega)]; exact f1 n hn) (fun l' h1 q hq => by rw [up_row (by omega)]; exact f2 l' h1 q hq) (fun q hq => ?_)⟩⟩
          by_cases e : q = p
          · subst e; rw [up_s]
          · rw [up_fld (by omega)]; exact f3 q (by omega)
      exact pl 100 0 M' (by omega) g1 g2 (fun q hq => by omega)
  exact zr (LS.length + 1) 0 _ M1 (by omega) (fun _ _ => rfl) (fun l' h1 => by omega)
