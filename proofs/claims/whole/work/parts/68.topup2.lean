/-! top up: the class's and the model's -/
theorem tu_skip {z f : Int} {r : zL} (hz : 1 ≤ z) (hf : 0 ≤ f) : tu ((z, 0) :: r) f = 0 :: tu r f := by
  have e : arN z 0 f - 1 = 0 := by rw [arN_0 hf hz]
  show (dnF (fun n => n * z + rc r (f - n * z)) (rc ((z, 0) :: r) f) (arN z 0 f - 1) : Int) :: tu r (f - (dnF (fun n => n * z + rc r (f - n * z)) (rc ((z, 0) :: r) f) (arN z 0 f - 1) : Int) * z) = _
  rw [e]
  show ((0 : Nat) : Int) :: tu r (f - ((0 : Nat) : Int) * z) = _
  rw [show f - ((0 : Nat) : Int) * z = f by simp]; rfl
theorem drop_lst {T : List Int} {i : Nat} {x : Int} {R : List Int} (h : T.drop i = x :: R) : T.getD i 0 = x ∧ T.drop (i + 1) = R := ⟨(dropL h).1, (dropL h).2.1⟩
theorem nzL_drop {sz mn : Int → Int} {L : List Int} {l : Nat} : (nzL sz mn L).drop l = nzL sz mn (L.drop l) := by unfold nzL; rw [List.map_drop]
set_option maxHeartbeats 2000000 in
theorem c_X3_fillGreatest {d k : Nat} {M : mM} {Q : mRes → mM → Prop} {c f0 : Int} {K : Nat} {sz mn od : Int → Int} (hK : M 12 1 = K) (h13 : M 13 = sz) (h14 : M 14 = mn) (h15 : M 15 = od) (hG : GLok c K sz mn od) (hc : 1 ≤ c) (hf0 : 0 ≤ f0 ∧ f0 ≤ 99)
    (hQ : ∀ M', (∀ n, ¬ (90 ≤ n ∧ n < 108) → n ≠ 110 → M' n = M n) → ptR K od (tu (zl K sz mn od) f0) (M' 110) → Q (.inl none) M') : V (d + 3) k qX3_fillGreatest 0 [mR 12 4 90, mR 11 5 12, mI f0, mR 0 6 110, mE 0, mE 0, mE 0, mE 0, mE 0] [] M Q := by
  have hK6 := hG.2.1
  have hL := lyL_len (od := od) (mn := mn) (r := K) (i := 0)
  have hzk := nz_ok hG hc
  have hnl := nz_len (sz := sz) (mn := mn) (L := lyL od mn K 0)
  have hat := fun l (hl : l < (lyL od mn K 0).length) => ly_at (sz := sz) hG hc hl
  have hrc : ∀ (r i : Nat) (f : Int), i + r = K → 0 ≤ f → rc (nzL sz mn (lyL od mn r i)) f = rc (lst (zmF (fun j => sz (od j)) (fun j => mn (od j))) r i) f := fun r i f h1 h2 => (ly_cn (sz := sz) (mn := mn) (od := od) (r := r) (i := i) (f := f) (fun j _ h3 => ⟨hG.m (by omega), (hG.z (by omega)).1⟩) h2).2
  have hzl : ∀ r i : Nat, i + r = K → zOK (lst (zmF (fun j => sz (od j)) (fun j => mn (od j))) r i) := fun r i h1 => hG.zOK (by omega)
  refine B_X3_fillGreatest_0 (c_X3_lay hK h13 h14 h15 hG hc (fun M1 q1 q2 q3 => B_X3_fillGreatest_5 ?_))
  generalize hNZ : nzL sz mn (lyL od mn K 0) = NZ at *
  generalize hLS : lyL od mn K 0 = LS at *
  have e0 : zl K sz mn od = lst (zmF (fun j => sz (od j)) (fun j => mn (od j))) K 0 := rfl
  generalize hT : tu (zl K sz mn od) f0 = T at *
  have lay : ∀ (r i l : Nat) (f : Int) (u6 u7 u8 : mV) (M' : mM), i + r = K → 0 ≤ f → f ≤ 99 → (∀ n, n ≠ 110 → M' n = M1 n) → LS.drop l = lyL od mn r i → l ≤ LS.length → T.drop i = tu (lst (zmF (fun j => sz (od j)) (fun j => mn (od j))) r i) f → (∀ j : Nat, j < i → M' 110 (od j) = T.getD j 0) → (∀ j : Nat, i ≤ j → j < K → M' 110 (od j) = 0) → (∀ s : Nat, K ≤ s → s < 6 → M' 110 s = 0) → V (d + 3) k qX3_fillGreatest 41 [mR 12 4 90, mR 11 5 12, mI f0, mR 0 6 110, mI f, mI l, u6, u7, u8] [] M' Q := by
    intro r
    induction r with
    | zero =>
      intro i l f u6 u7 u8 M' hi hf hf9 g1 g2 gl g3 g4 g5 g6
      have hll : LS.length ≤ l := List.drop_eq_nil_iff.mp g2
      have Bk := B_X3_fillGreatest_41 (d := d + 2) (k := k) (M := M') (Q := Q) (x2 := f0) (a3 := 110) (x4 := f) (x5 := l) (u6 := u6) (u7 := u7) (u8 := u8)
      rw [g1 90 (by decide), q2.1] at Bk
      refine Bk ⟨fun _ => hQ M' (fun n h1 h2 => by rw [g1 n h2]; exact q1 n (by omega) (by omega) (by omega)) ⟨?_, g6⟩, fun z => by omega⟩
      have hlen : T.length = K := by
        have h9 := isP_len (tu_isP (l := zl K sz mn od) (f := f0) (by rw [e0]; exact hzl K 0 (by omega)) hf0.1)
        rw [hT, zl_len] at h9
        exact h9
      refine Eq.trans (lst_congr (fun j h1 h2 => ?_)) (lst_of (K := K) (p := T) 0 hlen)
      show M' 110 (od j) = T.getD ((j : Int).toNat - 0) 0
      rw [g4 j (by omega)]; congr 1
    | succ r ih =>
      intro i l f u6 u7 u8 M' hi hf hf9 g1 g2 gl g3 g4 g5 g6
      have ho := hG.o (i := i) (by omega)
      have hz1 := hG.z (i := i) (by omega)
      have hm := hG.m (i := i) (by omega)
      have el : lst (zmF (fun j => sz (od j)) (fun j => mn (od j))) (r + 1) i = (sz (od i), mn (od i)) :: lst (zmF (fun j => sz (od j)) (fun j => mn (od j))) r (i + 1) := rfl
      rw [el] at g3
      by_cases h0 : 0 < mn (od i)
      · have g2' : LS.drop l = od i :: lyL od mn r (i + 1) := by rw [g2]; exact if_pos h0
        obtain ⟨p1, p2, p3⟩ := dropL g2'
        have ha := hat l p3
        rw [p1] at ha
        have h107 : M' 107 l = od i := by rw [g1 107 (by decide), q2.2 l p3, p1]
        have hNd : NZ.drop l = nzL sz mn (lyL od mn (r + 1) i) := by rw [← hNZ, nzL_drop, g2]
        have hNd1 : NZ.drop (l + 1) = nzL sz mn (lyL od mn r (i + 1)) := by rw [← hNZ, nzL_drop, p2]
        have rr0 : ∀ g : Nat, g < 100 → M' (100 + l) g = rc (lst (zmF (fun j => sz (od j)) (fun j => mn (od j))) (r + 1) i) g := fun g hg => by
          rw [g1 (100 + l) (by omega), q3 l (by omega) (by omega) g hg, hNd]; exact hrc (r + 1) i g hi (by omega)
        have rr1 : ∀ g : Nat, g < 100 → M' (100 + ((l : Int) + 1)) g = rc (lst (zmF (fun j => sz (od j)) (fun j => mn (od j))) r (i + 1)) g := fun g hg => by
          rw [g1 (100 + ((l : Int) + 1)) (by omega)]
          have := q3 (l + 1) (by omega) (by omega) g hg
          rw [hNd1] at this
          exact this.trans (hrc r (i + 1) g (by omega) (by omega))
        rw [el] at rr0
        have hzr := hzl (r + 1) i hi
        rw [el] at hzr
        generalize hR : lst (zmF (fun j => sz (od j)) (fun j => mn (od j))) r (i + 1) = R at *
        obtain ⟨fn, hfn⟩ : ∃ n : Nat, f = n := ⟨f.toNat, by omega⟩
        subst hfn
        obtain ⟨B, hB⟩ : ∃ B, rc ((sz (od i), mn (od i)) :: R) (fn : Int) = B := ⟨_, rfl⟩
        have hBb := rc_bd (f := (fn : Int)) hzr (by omega)
        rw [hB] at hBb
        have hdv := dvc (x := (fn : Int)) (c := sz (od i)) (by omega) (by omega)
        have Bk := B_X3_fillGreatest_41 (d := d + 2) (k := k) (M := M') (Q := Q) (x2 := f0) (a3 := 110) (x4 := (fn : Int)) (x5 := l) (u6 := u6) (u7 := u7) (u8 := u8)
        rw [g1 90 (by decide), q2.1, h107, g1 13 (by decide), q1 13 (by decide) (by decide) (by omega), h13, g1 14 (by decide), q1 14 (by decide) (by decide) (by omega), h14] at Bk
        refine Bk ⟨fun z => by omega, fun _ => ⟨by omega, by omega, by omega, c_X2_cut (by omega) (fun rr hr => B_X3_fillGreatest_82 ?_)⟩⟩
        rw [if_neg (by omega)] at hr
        have hv : min (mn (od i)) rr = ((arN (sz (od i)) (mn (od i)) fn - 1 : Nat) : Int) := by rw [hr]; unfold arN; omega
        rw [hv]
        have g3' : T.drop i = (dnF (fun n => n * sz (od i) + rc R (fn - n * sz (od i))) B (arN (sz (od i)) (mn (od i)) fn - 1) : Int) :: tu R (fn - (dnF (fun n => n * sz (od i) + rc R (fn - n * sz (od i))) B (arN (sz (od i)) (mn (od i)) fn - 1) : Int) * sz (od i)) := by rw [g3, ← hB]; rfl
        have walk : ∀ n : Nat, n ≤ arN (sz (od i)) (mn (od i)) fn - 1 → dnF (fun n => n * sz (od i) + rc R (fn - n * sz (od i))) B n = dnF (fun n => n * sz (od i) + rc R (fn - n * sz (od i))) B (arN (sz (od i)) (mn (od i)) fn - 1) → V (d + 3) k qX3_fillGreatest 87 [mR 12 4 90, mR 11 5 12, mI f0, mR 0 6 110, mI (fn : Int), mI l, mI (od i), mI (sz (od i)), mI n] [] M' Q := by
          intro n
          have fin : ∀ n : Nat, n ≤ arN (sz (od i)) (mn (od i)) fn - 1 → n = dnF (fun n => n * sz (od i) + rc R (fn - n * sz (od i))) B (arN (sz (od i)) (mn (od i)) fn - 1) → V (d + 3) k qX3_fillGreatest 135 [mR 12 4 90, mR 11 5 12, mI f0, mR 0 6 110, mI (fn : Int), mI l, mI (od i), mI (sz (od i)), mI n] [] M' Q := by
            intro n hn hd
            rw [← hd] at g3'
            obtain ⟨t1, t2⟩ := drop_lst g3'
            have hi2 := (arN_iff (z := sz (od i)) (m := mn (od i)) (f := fn) hz1.1 hm (by omega) (n := n)).mp (by unfold arN at hn ⊢; omega)
            have hpr := mulp (x := n) (y := sz (od i)) (a := 25) (b := 99) (by omega) (by omega)
            refine B_X3_fillGreatest_135 ⟨by omega, by omega, by omega, by omega, ih (i + 1) (l + 1) _ _ _ _ _ (by omega) (by omega) (by omega) (fun n hn => by rw [up_row hn]; exact g1 n hn) p2 (by omega) (by rw [t2, hR]) (fun j hj => ?_) (fun j h1 h2 => ?_) (fun s h1 h2 => ?_)⟩
            · by_cases e : j = i
              · subst e; rw [up_s, t1]
              · rw [up_fld (hG.n (by omega) (by omega) e)]; exact g4 j (by omega)
            · rw [up_fld (hG.n h2 (by omega) (by omega))]; exact g5 j (by omega) h2
            · rw [up_fld (fun z => hG.out h1 i (by omega) z.symm)]; exact g6 s h1 h2
          induction n with
          | zero =>
            intro hn hd
            exact B_X3_fillGreatest_87 ⟨fun _ => fin 0 hn hd, fun z => by omega⟩
          | succ n ihn =>
            intro hn hd
            have hi2 := (arN_iff (z := sz (od i)) (m := mn (od i)) (f := fn) hz1.1 hm (by omega) (n := n + 1)).mp (by unfold arN at hn ⊢; omega)
            have hpr := mulp (x := ((n + 1 : Nat) : Int)) (y := sz (od i)) (a := 25) (b := 99) (by omega) (by omega)
            obtain ⟨g, hg⟩ : ∃ g : Nat, (fn : Int) - ((n + 1 : Nat) : Int) * sz (od i) = g := ⟨((fn : Int) - ((n + 1 : Nat) : Int) * sz (od i)).toNat, by omega⟩
            have hrb := rc_bd (l := R) (f := (g : Int)) hzr.t (by omega)
            have ed : dnF (fun n => n * sz (od i) + rc R (fn - n * sz (od i))) B (n + 1) = if ((n + 1 : Nat) : Int) * sz (od i) + rc R (fn - ((n + 1 : Nat) : Int) * sz (od i)) < B then dnF (fun n => n * sz (od i) + rc R (fn - n * sz (od i))) B n else n + 1 := rfl
            rw [hg] at ed
            have Bk := B_X3_fillGreatest_87 (d := d + 2) (k := k) (M := M') (Q := Q) (x2 := f0) (a3 := 110) (x4 := (fn : Int)) (x5 := l) (x6 := od i) (x7 := sz (od i)) (x8 := ((n + 1 : Nat) : Int))
            rw [hg, rr1 g (by omega), rr0 fn (by omega), hB] at Bk
            refine Bk ⟨fun z => by omega, fun _ => ⟨by omega, by omega, by omega, by omega, by omega, by omega, by omega, by omega, by omega, fun c1 => fin (n + 1) hn (by rw [← hd, ed, if_neg (by omega)]), fun c1 => ⟨by omega, ?_⟩⟩⟩
            rw [ed, if_pos (by omega)] at hd
            rw [show ((n + 1 : Nat) : Int) + (-1) = n by omega]
            exact ihn (by omega) hd
        exact walk _ (Nat.le_refl _) rfl
      · have hm0 : mn (od i) = 0 := by omega
        rw [hm0, tu_skip hz1.1 hf] at g3
        obtain ⟨t1, t2⟩ := drop_lst g3
        refine ih (i + 1) l f u6 u7 u8 M' (by omega) hf hf9 g1 (by rw [g2]; exact if_neg h0) gl t2 (fun j hj => ?_) (fun j h1 h2 => g5 j (by omega) h2) g6
        by_cases e : j = i
        · subst e; rw [t1]; exact g5 j (by omega) (by omega)
        · exact g4 j (by omega)
  have zero : ∀ (r j : Nat) (u5 u6 u7 u8 : mV) (M' : mM), j + r = 6 → (∀ n, n ≠ 110 → M' n = M1 n) → (∀ s : Nat, s < j → M' 110 s = 0) → V (d + 3) k qX3_fillGreatest 8 [mR 12 4 90, mR 11 5 12, mI f0, mR 0 6 110, mI j, u5, u6, u7, u8] [] M' Q := by
    intro r
    induction r with
    | zero =>
      intro j u5 u6 u7 u8 M' hj g1 g2
      refine B_X3_fillGreatest_8 ⟨fun _ => ?_, fun z => by omega⟩
      rw [show max 0 (min f0 99) = f0 by omega]
      refine lay K 0 0 f0 _ _ _ M' (by omega) hf0.1 hf0.2 g1 (by rw [← hLS]; rfl) (by omega) (by rw [← hT, ← e0]; rfl) (fun j hj => by omega) (fun j h1 h2 => ?_) (fun s h1 h2 => g2 s (by omega))
      exact hG.at (P := fun s => M' 110 s = 0) (fun s hs => g2 s (by omega)) h2
    | succ r ih =>
      intro j u5 u6 u7 u8 M' hj g1 g2
      refine B_X3_fillGreatest_8 ⟨fun z => by omega, fun _ => ⟨by omega, by omega, ih (j + 1) u5 u6 u7 u8 _ (by omega) (fun n hn => by rw [up_row hn]; exact g1 n hn) (fun s hs => ?_)⟩⟩
      by_cases e : s = j
      · subst e; rw [up_s]
      · rw [up_fld (by omega)]; exact g2 s (by omega)
  exact zero 6 0 _ _ _ _ M1 (by omega) (fun _ _ => rfl) (fun s hs => by omega)
def frU (M M' : mM) : Prop := (∀ n, n ≠ 128 → n ≠ 135 → M' n = M n)
set_option maxHeartbeats 2000000 in
/-- from behind the model's look on, with what is free -/
theorem l_X10_topUp {d k : Nat} {M : mM} {Q : mRes → mM → Prop} {c x1 x2 : Int} {K : Nat} {sz mn od : Int → Int} {u5 u6 u7 : mV} (h122 : M 122 = sz) (h123 : M 123 = od) (h2 : ∀ s, M 121 (0 + s) = mn s) (hG : GLok c K sz mn od) (hK : M 112 7 = K) (hx2 : x2 = -1 ∨ (0 ≤ x2 ∧ x2 < 6))
    (hQ : ∀ M', frU M M' → Q (.inl (some (mI (if x2 = -1 then rc (zl K sz mn od) c else rwF od (tu (zl K sz mn od) c) K x2)))) M') : V (d + 2) 0 qX10_begins 0 [mR 18 58 112, mR 0 6 121, mI 0, mI c, mE 0] [] M (mAft (d + 2 + 1) k qX10_topUp 56 [mR 18 58 112, mI x1, mI x2, mI c, mI ((-1)), u5, u6, u7] [] Q) := by
  have hK6 : K ≤ 6 := hG.2.1
  have hc9 := hG.1
  obtain ⟨B0, hb1, hb2, hb3, hb4⟩ := hG.ps
  have hzk : zOK (zl K sz mn od) := hG.zOK (r := K) (i := 0) (by omega)
  have hend := fun b => tpF_tu (b := b) hzk hc9.1
  rw [hb1] at hend
  have loop : ∀ (B : List (List Int)) (p : List Int) (M' : mM) (t : Int) (b : List Int) (u6 u7 : mV), frU M M' → ptR K od p (fun s => M' 128 (0 + s)) → (∀ q, q ∈ p :: B → isP (zl K sz mn od) c q) → Ch (nx (zl K sz mn od) c) (p :: B) → tpF (zl K sz mn od) (p :: B) t b = (rc (zl K sz mn od) c, tu (zl K sz mn od) c) → (t = -1 ∨ ∀ s : Nat, s < 6 → M' 135 s = rwF od b K s) → -1 ≤ t → V (d + 3) k qX10_topUp 59 [mR 18 58 112, mI x1, mI x2, mI c, mI t, mI 1, u6, u7] [] M' Q := by
    intro B
    induction B with
    | nil =>
      intro p M' t b u6 u7 g1 g2 g4 g5 g6 g7 g8
      have o7 : M' 112 7 = K := by rw [g1 112 (by decide) (by decide)]; exact hK
      have o122 : M' 122 = sz := by rw [g1 122 (by decide) (by decide)]; exact h122
      have o123 : M' 123 = od := by rw [g1 123 (by decide) (by decide)]; exact h123
      have o121 : ∀ s, M' 121 (0 + s) = mn s := fun s => by rw [g1 121 (by decide) (by decide)]; exact h2 s
      have hPp := g4 p List.mem_cons_self
      have hbd := ptR_bd hG g2 hPp
      have hpw := ptR_pw hG g2
      have hnn := pw_nn hzk hPp
      have last : ∀ (M2 : mM) (t : Int) (b : List Int) (u7 : mV), (∀ n, n ≠ 135 → M2 n = M' n) → (t, b) = (rc (zl K sz mn od) c, tu (zl K sz mn od) c) → (∀ s : Nat, s < 6 → M2 135 s = rwF od b K s) → V (d + 3) k qX10_topUp 112 [mR 18 58 112, mI x1, mI x2, mI c, mI t, mI 1, mI (pw (zl K sz mn od) p), u7] [] M2 Q := by
        intro M2 t b u7 f1 f2 f3
        injection f2 with f2 f4
        subst f2; subst f4
        have fr2 : frU M M2 := fun n a b => by rw [f1 n b]; exact g1 n a b
        have e128 : (fun s => M2 128 (0 + s)) = (fun s => M' 128 (0 + s)) := by rw [f1 128 (by decide)]
        refine B_X10_topUp_112 (c_X10_steps (by decide) (by decide) (by rw [f1 122 (by decide)]; exact o122) (by rw [f1 123 (by decide)]; exact o123) (fun s => by rw [f1 121 (by decide)]; exact o121 s) hG (by rw [f1 112 (by decide)]; exact o7) (by rw [e128]; exact g2) hPp g5 (fun M'' b B' q1 q2 q3 => by cases q3) (fun _ => B_X10_topUp_122 (B_X10_topUp_59 ⟨fun _ => ⟨fun e => ⟨by omega, ?_⟩, fun e => ?_⟩, fun z => (z rfl).elim⟩)))
        · have := hQ M2 fr2
          rw [if_neg e] at this
          obtain ⟨n, hn⟩ : ∃ n : Nat, x2 = n := ⟨x2.toNat, by omega⟩
          rw [hn] at this ⊢
          rw [f3 n (by omega)]; exact this
        · have := hQ M2 fr2
          rw [if_pos e] at this
          exact this
      refine B_X10_topUp_59 ⟨fun z => by omega, fun _ => c_X10_within0 o7 hK6 (by decide) (fun j hj => ?_) (fun r hr => ?_)⟩
      · have := hbd j hj
        rw [o122]; exact ⟨this.2.2.1, Int.le_trans this.2.2.2 (by omega)⟩
      · rw [o122, ← hpw] at hr
        subst hr
        have e6 : tpF (zl K sz mn od) [p] t b = if pw (zl K sz mn od) p ≤ t then (t, b) else (pw (zl K sz mn od) p, p) := rfl
        rw [e6] at g6
        refine B_X10_topUp_69 ⟨fun e => ?_, fun e => ?_⟩
        · rw [if_pos e] at g6
          refine last M' t b _ (fun _ _ => rfl) g6 (fun s hs => ?_)
          rcases g7 with g7 | g7
          · omega
          · exact g7 s hs
        · rw [if_neg e] at g6
          have cpy : ∀ (r j : Nat) (M2 : mM), j + r = 6 → (∀ n, n ≠ 135 → M2 n = M' n) → (∀ s : Nat, s < j → M2 135 s = rwF od p K s) → V (d + 3) k qX10_topUp 85 [mR 18 58 112, mI x1, mI x2, mI c, mI (pw (zl K sz mn od) p), mI 1, mI (pw (zl K sz mn od) p), mI j] [] M2 Q := by
            intro r
            induction r with
            | zero =>
              intro j M2 hj f1 f2
              exact B_X10_topUp_85 ⟨fun _ => last M2 _ p _ f1 g6 (fun s hs => f2 s (by omega)), fun z => by omega⟩
            | succ r ih =>
              intro j M2 hj f1 f2
              refine B_X10_topUp_85 ⟨fun z => by omega, fun _ => ⟨by omega, by omega, by omega, ih (j + 1) _ (by omega) (fun n hn => by rw [up_row hn]; exact f1 n hn) (fun s hs => ?_)⟩⟩
              by_cases e : s = j
              · subst e
                rw [up_s, f1 128 (by decide)]
                have := ptR_rw hG g2 s (by omega)
                rw [show (0 : Int) + (s : Int) = s by omega] at this
                exact this
              · rw [up_fld (by omega)]; exact f2 s (by omega)
          exact cpy 6 0 M' (by omega) (fun _ _ => rfl) (fun s hs => by omega)
    | cons q B ihB =>
      intro p M' t b u6 u7 g1 g2 g4 g5 g6 g7 g8
      have o7 : M' 112 7 = K := by rw [g1 112 (by decide) (by decide)]; exact hK
      have o122 : M' 122 = sz := by rw [g1 122 (by decide) (by decide)]; exact h122
      have o123 : M' 123 = od := by rw [g1 123 (by decide) (by decide)]; exact h123
      have o121 : ∀ s, M' 121 (0 + s) = mn s := fun s => by rw [g1 121 (by decide) (by decide)]; exact h2 s
      have hPp := g4 p List.mem_cons_self
      have hbd := ptR_bd hG g2 hPp
      have hpw := ptR_pw hG g2
      have hnn := pw_nn hzk hPp
      have last : ∀ (M2 : mM) (t : Int) (b : List Int) (u7 : mV), (∀ n, n ≠ 135 → M2 n = M' n) → tpF (zl K sz mn od) (q :: B) t b = (rc (zl K sz mn od) c, tu (zl K sz mn od) c) → (∀ s : Nat, s < 6 → M2 135 s = rwF od b K s) → -1 ≤ t → V (d + 3) k qX10_topUp 112 [mR 18 58 112, mI x1, mI x2, mI c, mI t, mI 1, mI (pw (zl K sz mn od) p), u7] [] M2 Q := by
        intro M2 t b u7 f1 f2 f3 f5
        have fr2 : frU M M2 := fun n a b => by rw [f1 n b]; exact g1 n a b
        have e128 : (fun s => M2 128 (0 + s)) = (fun s => M' 128 (0 + s)) := by rw [f1 128 (by decide)]
        refine B_X10_topUp_112 (c_X10_steps (by decide) (by decide) (by rw [f1 122 (by decide)]; exact o122) (by rw [f1 123 (by decide)]; exact o123) (fun s => by rw [f1 121 (by decide)]; exact o121 s) hG (by rw [f1 112 (by decide)]; exact o7) (by rw [e128]; exact g2) hPp g5 (fun M'' b' B' q1 q2 q3 => B_X10_topUp_122 ?_) (fun z => by cases z))
        injection q3 with q3 q4
        subst q3; subst q4
        exact ihB q M'' t b _ _ (fun n a b => by rw [q1.1 n a]; exact fr2 n a b) q2 (fun x hx => g4 x (List.mem_cons_of_mem _ hx)) g5.2 f2 (Or.inr (fun s hs => by rw [q1.1 135 (by decide)]; exact f3 s hs)) f5
      refine B_X10_topUp_59 ⟨fun z => by omega, fun _ => c_X10_within0 o7 hK6 (by decide) (fun j hj => ?_) (fun r hr => ?_)⟩
      · have := hbd j hj
        rw [o122]; exact ⟨this.2.2.1, Int.le_trans this.2.2.2 (by omega)⟩
      · rw [o122, ← hpw] at hr
        subst hr
        have e6 : tpF (zl K sz mn od) (p :: q :: B) t b = if pw (zl K sz mn od) p ≤ t then tpF (zl K sz mn od) (q :: B) t b else tpF (zl K sz mn od) (q :: B) (pw (zl K sz mn od) p) p := rfl
        rw [e6] at g6
        refine B_X10_topUp_69 ⟨fun e => ?_, fun e => ?_⟩
        · rw [if_pos e] at g6
          refine last M' t b _ (fun _ _ => rfl) g6 (fun s hs => ?_) g8
          rcases g7 with g7 | g7
          · omega
          · exact g7 s hs
        · rw [if_neg e] at g6
          have cpy : ∀ (r j : Nat) (M2 : mM), j + r = 6 → (∀ n, n ≠ 135 → M2 n = M' n) → (∀ s : Nat, s < j → M2 135 s = rwF od p K s) → V (d + 3) k qX10_topUp 85 [mR 18 58 112, mI x1, mI x2, mI c, mI (pw (zl K sz mn od) p), mI 1, mI (pw (zl K sz mn od) p), mI j] [] M2 Q := by
            intro r
            induction r with
            | zero =>
              intro j M2 hj f1 f2
              exact B_X10_topUp_85 ⟨fun _ => last M2 _ p _ f1 g6 (fun s hs => f2 s (by omega)) (by omega), fun z => by omega⟩
            | succ r ih =>
              intro j M2 hj f1 f2
              refine B_X10_topUp_85 ⟨fun z => by omega, fun _ => ⟨by omega, by omega, by omega, ih (j + 1) _ (by omega) (fun n hn => by rw [up_row hn]; exact f1 n hn) (fun s hs => ?_)⟩⟩
              by_cases e : s = j
              · subst e
                rw [up_s, f1 128 (by decide)]
                have := ptR_rw hG g2 s (by omega)
                rw [show (0 : Int) + (s : Int) = s by omega] at this
                exact this
              · rw [up_fld (by omega)]; exact f2 s (by omega)
          exact cpy 6 0 M' (by omega) (fun _ _ => rfl) (fun s hs => by omega)
  refine c_X10_begins (by decide) (by decide) h122 h123 h2 hG hK (fun M' q1 q2 => B_X10_topUp_56 ?_)
  exact loop B0 _ M' (-1) [] _ _ (fun n a _ => q1.1 n a) q2 hb3 hb2 (hend []) (Or.inl rfl) (by omega)
