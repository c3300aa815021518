/-! acts: pack -/
theorem XA.kp {M M0 M1 : mM} {R : Int → Int} (k : kpX M M0) (h : XA M0 M1 R) : XA M M1 R := by
  obtain ⟨h1, h2, h3, h4, h5⟩ := h
  have e16 := k 16 (by omega)
  have e17 := k 17 (by omega)
  have e19 := k 19 (by omega)
  rw [e16] at h2 h3 h4
  rw [e17, e19] at h4
  exact ⟨fun n a b c d => by rw [h1 n a b c d]; exact k n d, h2, h3, h4, h5⟩
def pkCh (c : Int) (K : Nat) (M : mM) (s w : Int) : Int := chF (wtB K M) (c - M 9 s) w (M 113 6).toNat
def pkBn (c : Int) (K : Nat) (M : mM) (s w : Int) : Int := if pkCh c K M s w = -1 then M 113 6 else pkCh c K M s w
def pkR0 (c : Int) (K : Nat) (M : mM) (s w : Int) : Int → Int := if pkCh c K M s w = -1 then fset (M 113) 6 (M 113 6 + 1) else M 113
def okPk (c : Int) (K : Nat) (M : mM) (s w : Int) : Prop := (0 ≤ s ∧ s < K) ∧ (0 ≤ w ∧ w ≤ 3) ∧ 1 ≤ M 113 s ∧ ¬ (pkCh c K M s w = -1 ∧ M 113 6 = 12)
def rPk (c : Int) (K : Nat) (M : mM) (s w : Int) : Int → Int := rMv (pkR0 c K M s w) s (pkBn c K M s w) 1
theorem rNew_ok {c : Int} {K : Nat} {sz R : Int → Int} (h : rowOK c K sz R) (hK : K ≤ 6) (h6 : R 6 < 12) : rowOK c K sz (fset R 6 (R 6 + 1)) := by
  obtain ⟨g1, g2, g3, g4, g5⟩ := h
  have hi : ∀ b s : Nat, fset R 6 (R 6 + 1) (7 + 6 * (b : Int) + s) = R (7 + 6 * (b : Int) + s) := fun b s => fset_n (by omega)
  refine ⟨fun s hs => by rw [fset_n (by omega)]; exact g1 s hs, by rw [sg_congr (g := R) (fun j hj => fset_n (by omega))]; exact g2, by rw [fset_s]; omega, fun b s hb hs => ?_, fun b hb => ?_⟩
  · rw [hi, fset_s]
    have := g4 b s hb hs
    exact ⟨this.1, this.2.1, this.2.2.1, fun z => this.2.2.2 (by omega)⟩
  · rw [sg_congr (f := fun s => sz s * fset R 6 (R 6 + 1) (7 + 6 * b + s)) (g := fun s => sz s * R (7 + 6 * b + s)) (fun j hj => by show sz j * fset R 6 (R 6 + 1) _ = sz j * R _; rw [hi])]
    exact g5 b hb
theorem wt_new {c : Int} {K : Nat} {sz R : Int → Int} {b : Nat} (h : rowOK c K sz R) (hK : K ≤ 6) (hb : b < 12) (h6 : R 6 ≤ b) : wtR K sz R b = 0 := by
  have z : ∀ n : Nat, n ≤ 6 → sg (fun s => sz s * R (7 + 6 * b + s)) n = 0 := fun n => by
    induction n with
    | zero => intro _; rfl
    | succ n ih =>
      intro hn
      show sg (fun s => sz s * R (7 + 6 * b + s)) n + sz n * R (7 + 6 * b + n) = 0
      rw [ih (by omega), (h.2.2.2.1 b n hb (by omega)).2.2.2 h6, Int.mul_zero]; omega
  exact z K hK
theorem pk_all {c : Int} {K : Nat} {N : Int} {M : mM} {s : Nat} {w : Int} (hS : St c K N M) (h : okPk c K M s w) : rowOK c K (M 9) (pkR0 c K M s w) ∧ (0 ≤ pkBn c K M s w ∧ pkBn c K M s w < pkR0 c K M s w 6 ∧ pkBn c K M s w < 12) ∧ rowOK c K (M 9) (rPk c K M s w) := by
  have hL := hS.1
  have hK6 := hL.2.1
  have h13 := hS.b13
  have hrow := hS.row.2
  have hz := hS.sz (s := s) (by have := h.1; omega)
  have hm := hS.mn s (by have := h.1; omega)
  have hzz : ∀ t : Nat, t < K → 1 ≤ M 9 t := fun t ht => (hS.sz ht).2.1
  have hsum := hrow.2.1
  have hbd := chF_bd (f := wtB K M) (most := c - M 9 s) (way := w) (n := (M 113 6).toNat)
  have hfit := chF_fit (f := wtB K M) (most := c - M 9 s) (way := w) (n := (M 113 6).toNat)
  have en : chF (wtB K M) (c - M 9 s) w (M 113 6).toNat = pkCh c K M s w := rfl
  rw [en] at hbd hfit
  unfold rPk
  by_cases e : pkCh c K M s w = -1
  · have e1 : pkBn c K M s w = M 113 6 := if_pos e
    have e2 : pkR0 c K M s w = fset (M 113) 6 (M 113 6 + 1) := if_pos e
    have h12 : M 113 6 < 12 := by
      have := h.2.2.2
      have : ¬ M 113 6 = 12 := fun z => this ⟨e, z⟩
      omega
    have r0 := rNew_ok hrow hK6 h12
    rw [e1, e2]
    obtain ⟨n, hn⟩ : ∃ n : Nat, M 113 6 = n := ⟨(M 113 6).toNat, by omega⟩
    refine ⟨r0, ⟨by omega, by rw [fset_s]; omega, h12⟩, ?_⟩
    rw [hn] at r0 ⊢
    have e3 : fset (M 113) 6 ((n : Int) + 1) (7 + 6 * (n : Int) + s) = M 113 (7 + 6 * (n : Int) + s) := fset_n (by omega)
    have e4 : M 113 (7 + 6 * (n : Int) + s) = 0 := (hrow.2.2.2.1 n s (by omega) (by have := h.1; omega)).2.2.2 (by omega)
    have e5 : fset (M 113) 6 ((n : Int) + 1) s = M 113 s := fset_n (by have := h.1; omega)
    have e6 : sg (fset (M 113) 6 ((n : Int) + 1)) K = sg (M 113) K := sg_congr (fun j hj => fset_n (by omega))
    have e7 : wtR K (M 9) (fset (M 113) 6 ((n : Int) + 1)) n = 0 := by
      have : wtR K (M 9) (fset (M 113) 6 ((n : Int) + 1)) n = wtR K (M 9) (M 113) n := sg_congr (fun j hj => by
        show M 9 j * fset (M 113) 6 ((n : Int) + 1) _ = M 9 j * M 113 _
        rw [fset_n (by omega)])
      rw [this]; exact wt_new hrow hK6 (by omega) (by omega)
    have h1 := h.2.2.1
    exact rMv_ok hL.1.2 hK6 hzz r0 (by have := h.1; omega) (by rw [fset_s]; omega) (by rw [e5]; omega) (by rw [e6]; omega) (by rw [e3, e4]; omega) (by rw [e7]; omega)
  · have e1 : pkBn c K M s w = pkCh c K M s w := if_neg e
    have e2 : pkR0 c K M s w = M 113 := if_neg e
    rw [e1, e2]
    obtain ⟨n, hn⟩ : ∃ n : Nat, pkCh c K M s w = n := ⟨(pkCh c K M s w).toNat, by omega⟩
    refine ⟨hrow, ⟨by omega, by omega, by omega⟩, ?_⟩
    have hf := hfit (by omega)
    rw [hn] at hf ⊢
    have e4 := hrow.2.2.2.1 n s (by omega) (by have := h.1; omega)
    have h1 := h.2.2.1
    have e5 : wtR K (M 9) (M 113) n = wtB K M n := rfl
    exact rMv_ok hL.1.2 hK6 hzz hrow (by have := h.1; omega) (by omega) (by omega) (by omega) (by omega) (by rw [e5]; omega)
theorem c_X7_addBin {d k : Nat} {M : mM} {Q : mRes → mM → Prop} {v : Int} (h : 0 ≤ M 17 13 ∧ M 17 13 < 12) (hQ : Q (.inl none) (mUp (mUp M 17 (M 17 13) v) 17 13 (M 17 13 + 1))) : V (d + 1) k qX7_addBin 0 [mR 15 7 16, mL v, mE 0, mE 0] [] M Q := by
  refine B_X7_addBin_0 (Or.inl rfl) (c_X7_bins (Or.inl rfl) (by show 0 ≤ M 17 13 ∧ M 17 13 ≤ 12; omega) (fun r hr => ?_))
  have er : r = M 17 13 := hr
  subst er
  exact B_X7_addBin_4 (Or.inl rfl) ⟨fun z => by omega, fun _ => ⟨fun z => by omega, fun _ => ⟨by omega, by omega, hQ⟩⟩⟩
theorem xa_pack {d k : Nat} {c : Int} {K : Nat} {N : Int} {M : mM} {Q : mRes → mM → Prop} {s w : Int} (hS : St c K N M) (hN : N ≤ 100000)
    (h1 : okPk c K M s w → ∀ M1, XA M M1 (rPk c K M s w) → Q (.inl (some (mI (pkBn c K M s w)))) M1) (h0 : ¬ okPk c K M s w → ∀ Ma, kpX M Ma → Q (.inl (some (mI (-1)))) (rfX Ma)) : V (d + 60) k qX9_pack 0 [mR 17 15 0, mI s, mI w, mE 0, mE 0] [] M Q := by
  have hL := hS.1
  have hK6 := hL.2.1
  have h13 := hS.b13
  have hrow := hS.row
  have hcl := hS.cl
  have hc := hL.1
  have no : ∀ u v, ¬ okPk c K M s w → V (d + 60) k qX9_pack 29 [mR 17 15 0, mI s, mI w, u, v] [] M Q := fun u v h => B_X9_pack_29 (c_X9_refuse hS hN (B_X9_pack_33 (h0 h M kpX.rf)))
  refine B_X9_pack_0 (c_X9_isSort hL.2.2.2.2.1 hK6 (fun a1 => B_X9_pack_5 ⟨fun z => by omega, fun _ => ⟨fun a2 => no _ _ (fun z => by have := z.2.1; omega), fun a2 => ⟨fun a3 => no _ _ (fun z => by have := z.2.1; omega), fun a3 => c_X7_restOf (Or.inl rfl) hrow.1.1 hrow.2.r7 (by omega) (fun r hr => ?_)⟩⟩⟩) (fun a1 => B_X9_pack_5 ⟨fun _ => no _ _ (fun z => a1 z.1), fun z => (z rfl).elim⟩))
  subst hr
  refine B_X9_pack_25 ⟨fun a4 => c_X9_copyFilled hS (fun M2 q1 q2 => ?_), fun a4 => no _ _ (fun z => by have := z.2.2.1; omega)⟩
  have k2 : kpX M M2 := fun m hm => q1 m (by simp; omega)
  have hS2 := hS.kx k2
  obtain ⟨sn, rfl⟩ : ∃ n : Nat, s = n := ⟨s.toNat, by omega⟩
  obtain ⟨n, hn⟩ : ∃ n : Nat, M 113 6 = n := ⟨(M 113 6).toNat, by omega⟩
  have hz := hS.sz (s := sn) (by omega)
  have Bk := B_X9_pack_38 (d := d + 59) (k := k) (M := M2) (Q := Q) (x1 := sn) (x2 := w) (sx0 := M 113 6) (u3 := mE 0) (u4 := mE 0)
  rw [k2 8 (by omega), k2 9 (by omega), hL.2.2.1] at Bk
  refine Bk ⟨by omega, by omega, ?_⟩
  rw [hn]
  refine c_X4_choose (l1 := 72) (by omega) (by omega) (by omega) (fun r hr => ?_)
  have er : r = pkCh c K M sn w := by
    rw [hr]; unfold pkCh; rw [hn, show ((n : Int)).toNat = n by omega]
    exact chF_congr (fun j hj => q2 j (by omega))
  subst er
  clear hr
  have hbd := chF_bd (f := wtB K M) (most := c - M 9 sn) (way := w) (n := (M 113 6).toNat)
  have en : chF (wtB K M) (c - M 9 sn) w (M 113 6).toNat = pkCh c K M sn w := rfl
  rw [en] at hbd
  have go : okPk c K M sn w → V (d + 60) k qX9_pack 84 [mR 17 15 0, mI sn, mI w, mI n, mI (pkCh c K M sn w)] [] M2 Q := fun hok => by
    have hA := hS2.A
    obtain ⟨o1, o2, o3⟩ := pk_all hS hok
    refine B_X9_pack_84 (c_X7_remember (by omega) (fun M3 p1 p2 p3 p4 => ?_))
    have e17 : M3 17 = M 17 := by rw [p1 17 (by decide) (by decide)]; exact k2 17 (by omega)
    have fin : ∀ M4 : mM, (∀ n, n ≠ 17 → M4 n = M3 n) → stk 17 M4 (pkR0 c K M sn w) → V (d + 60) k qX9_pack 108 [mR 17 15 0, mI sn, mI w, mI n, mI (pkBn c K M sn w)] [] M4 Q := fun M4 u1 u2 => by
      obtain ⟨b, hb⟩ : ∃ b : Nat, pkBn c K M sn w = b := ⟨(pkBn c K M sn w).toNat, by omega⟩
      have h1' := h1 hok
      unfold rPk at h1'
      rw [hb] at o2 h1' ⊢
      have e9 : M4 9 = M 9 := by rw [u1 9 (by decide), p1 9 (by decide) (by decide)]; exact k2 9 (by omega)
      have e8 : M4 8 = M 8 := by rw [u1 8 (by decide), p1 8 (by decide) (by decide)]; exact k2 8 (by omega)
      have cl : clX c K M4 (pkR0 c K M sn w) := ⟨hc, hK6, by rw [e8]; exact hL.2.2.1, by rw [e8]; exact hL.2.2.2.2.1, by rw [e9]; exact fun t ht => (hS.sz ht).2, u2, by rw [e9]; exact o1⟩
      have hpk := cl.pk
      refine B_X9_pack_108 (c_X7_moveIn u2 o1.2.2.1 (by omega) (by omega) ⟨hpk.1 b (by omega), hpk.2⟩ (fun M5 v1 v2 => B_X9_pack_118 ?_))
      exact h1' M5 (XA.kp k2 (XA.of p1 p2 p3 p4 (fun m a _ => by rw [v1 m a]; exact u1 m a) v2))
    refine B_X9_pack_91 ⟨fun z => ?_, fun z => ?_⟩
    · have f := fin M3 (fun _ _ => rfl) (by unfold pkR0; rw [if_neg z]; exact stk_cg e17 hrow.1)
      have eb : pkBn c K M sn w = pkCh c K M sn w := if_neg z
      rw [eb] at f; exact f
    · have h12 : M 113 6 < 12 := by
        have := hok.2.2.2
        have : ¬ M 113 6 = 12 := fun y => this ⟨z, y⟩
        omega
      have eb : pkBn c K M sn w = n := (if_pos z).trans hn
      have e13 : M3 17 13 = M 113 6 := by rw [e17]; exact h13.1
      refine c_X7_addBin (by omega) ?_
      rw [e13]
      have f := fin (mUp (mUp M3 17 (M 113 6) 0) 17 13 (M 113 6 + 1)) (fun m hm => by rw [up_row hm, up_row hm]) (by
        unfold pkR0; rw [if_pos z]
        refine ⟨?_, ?_, fun b hb => ?_⟩
        · rw [up_fld (by decide), up_fld (by omega), e17, hrow.1.1]
          exact pkL_congr (fun t ht => (fset_n (by omega)).symm)
        · rw [up_s, fset_s]
        · rw [up_fld (by omega)]
          by_cases e : (b : Int) = M 113 6
          · rw [e, up_s]
            have : pkL (fun t => fset (M 113) 6 (M 113 6 + 1) (7 + 6 * M 113 6 + t)) = pkL (fun _ => 0) := pkL_congr (fun t ht => by
              rw [fset_n (by omega), ← e]
              exact (hrow.2.2.2.2.1 b t hb ht).2.2.2 (by omega))
            rw [this]; rfl
          · rw [up_fld e, e17, hrow.1.2.2 b hb]
            exact pkL_congr (fun t ht => (fset_n (by omega)).symm))
      rw [eb] at f; exact f
  refine B_X9_pack_65 ⟨fun z => go ⟨a1, by omega, a4, fun y => z y.1⟩, fun z => ⟨fun y => go ⟨a1, by omega, a4, fun x => by omega⟩, fun y => ?_⟩⟩
  exact c_X9_refuse hS2 hN (B_X9_pack_83 (h0 (fun x => x.2.2.2 ⟨z, by omega⟩) M2 k2))
