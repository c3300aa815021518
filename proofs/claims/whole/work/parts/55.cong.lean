/-! two lots that agree on their sorts: all that is computed of them agrees -/
def lotE (K : Nat) (sz mn od sz' mn' od' : Int → Int) : Prop := (∀ j : Nat, j < K → sz j = sz' j ∧ mn j = mn' j) ∧ ∀ i : Nat, i < K → od i = od' i ∧ 0 ≤ od i ∧ od i < K
theorem lotE.o {K : Nat} {sz mn od sz' mn' od' : Int → Int} (h : lotE K sz mn od sz' mn' od') {i : Nat} (hi : i < K) : od i = od' i ∧ sz (od i) = sz' (od' i) ∧ mn (od i) = mn' (od' i) := by
  have h1 := h.2 i hi
  obtain ⟨n, hn⟩ : ∃ n : Nat, od i = n := ⟨(od i).toNat, by omega⟩
  have h2 := h.1 n (by omega)
  refine ⟨h1.1, ?_, ?_⟩
  · rw [← h1.1, hn]; exact h2.1
  · rw [← h1.1, hn]; exact h2.2
theorem lotE.sq {K : Nat} {sz mn od sz' mn' od' : Int → Int} (h : lotE K sz mn od sz' mn' od') {r : Int} {i : Nat} (hi : i < K) : sqF r od i = sqF r od' i ∧ sz (sqF r od i) = sz' (sqF r od' i) ∧ mn (sqF r od i) = mn' (sqF r od' i) := by
  unfold sqF
  by_cases hr : r < 4
  · rw [if_pos hr, if_pos hr]; exact ⟨rfl, h.1 i hi⟩
  · rw [if_neg hr, if_neg hr]; exact h.o hi
theorem lotE.pkI {c r : Int} {K : Nat} {sz mn od sz' mn' od' : Int → Int} (h : lotE K sz mn od sz' mn' od') : ∀ i : Nat, i ≤ K → pkA c r sz mn od i = pkA c r sz' mn' od' i
  | 0, _ => rfl
  | i + 1, hi => by
    have h1 := h.sq (r := r) (i := i) (by omega)
    rw [pkA_s, pkA_s, lotE.pkI h i (by omega), h1.2.1, h1.2.2, h1.1]
theorem lotE.pk {c r : Int} {K : Nat} {sz mn od sz' mn' od' : Int → Int} (h : lotE K sz mn od sz' mn' od') : pkA c r sz mn od K = pkA c r sz' mn' od' K := h.pkI K (Nat.le_refl _)
theorem lotE.ar {c : Int} {K : Nat} {sz mn od sz' mn' od' : Int → Int} (h : lotE K sz mn od sz' mn' od') : areaF c K sz mn = areaF c K sz' mn' := by
  unfold areaF wtF
  rw [sg_congr (f := fun j => sz j * mn j) (g := fun j => sz' j * mn' j) (fun j hj => by show sz j * mn j = sz' j * mn' j; rw [(h.1 j hj).1, (h.1 j hj).2])]
theorem lotE.sp {c : Int} {K : Nat} {sz mn od sz' mn' od' : Int → Int} (h : lotE K sz mn od sz' mn' od') : splitF c K sz mn = splitF c K sz' mn' := funext fun a => by
  unfold splitF
  rw [sg_congr (f := sB c a sz mn) (g := sB c a sz' mn') (fun j hj => by unfold sB; rw [(h.1 j hj).1, (h.1 j hj).2]), sg_congr (f := sO c a sz mn) (g := sO c a sz' mn') (fun j hj => by unfold sO; rw [(h.1 j hj).1, (h.1 j hj).2])]
theorem lotE.st {c : Int} {K : Nat} {sz mn od sz' mn' od' : Int → Int} (h : lotE K sz mn od sz' mn' od') : stepF c K sz mn = stepF c K sz' mn' := funext fun a => by
  unfold stepF
  rw [sg_congr (f := stF c a sz mn) (g := stF c a sz' mn') (fun j hj => by unfold stF; rw [(h.1 j hj).1, (h.1 j hj).2])]
theorem lotE.tp {c : Int} {K : Nat} {sz mn od sz' mn' od' : Int → Int} (h : lotE K sz mn od sz' mn' od') : tSp c K sz mn = tSp c K sz' mn' := by unfold tSp; rw [h.sp]
theorem lotE.tt {c : Int} {K : Nat} {sz mn od sz' mn' od' : Int → Int} (h : lotE K sz mn od sz' mn' od') : tSt c K sz mn = tSt c K sz' mn' := by unfold tSt; rw [h.st]
theorem lotE.bd {c : Int} {K : Nat} {sz mn od sz' mn' od' : Int → Int} (h : lotE K sz mn od sz' mn' od') : boundF c K sz mn = boundF c K sz' mn' := by unfold boundF; rw [h.ar, h.tp, h.tt]
theorem lotE.zE {K : Nat} {sz mn od sz' mn' od' : Int → Int} (h : lotE K sz mn od sz' mn' od') : zl K sz mn od = zl K sz' mn' od' := lst_congr (fun j h1 h2 => by
  have := h.o (i := j) (by omega)
  show (sz (od j), mn (od j)) = (sz' (od' j), mn' (od' j))
  rw [this.2.1, this.2.2])
theorem rwF_cg {od od' : Int → Int} {p : List Int} : ∀ {K : Nat}, (∀ i : Nat, i < K → od i = od' i) → rwF od p K = rwF od' p K
  | 0, _ => rfl
  | K + 1, h => funext fun s => by
    unfold rwF
    rw [h K (by omega), rwF_cg (K := K) (fun i hi => h i (by omega))]
theorem lotE.fl {K : Nat} {sz mn od sz' mn' od' : Int → Int} (h : lotE K sz mn od sz' mn' od') : ∀ r i : Nat, i + r ≤ K → flF od mn r i = flF od' mn' r i
  | 0, _, _ => rfl
  | r + 1, i, hr => by
    unfold flF
    have := h.o (i := i) (by omega)
    rw [this.2.2, this.1, lotE.fl h r (i + 1) (by omega)]
theorem brT_cg {f g : List Int → tS → tS} (h : ∀ p st, f p st = g p st) (ps : List (List Int)) (st : tS) : brT f ps st = brT g ps st := by
  have : f = g := funext fun p => funext fun st => h p st
  rw [this]
theorem lotE.mt {c : Int} {K : Nat} {sz od sz' od' : Int → Int} : ∀ (n dep : Nat) (lf lf' path : Int → Int) (st : tS), lotE K sz lf od sz' lf' od' → meetT c K sz od n dep lf path st = meetT c K sz' od' n dep lf' path st
  | 0, _, _, _, _, _, _ => rfl
  | n + 1, dep, lf, lf', path, st, h => by
    have e1 := h.fl K 0 (by omega)
    have e2 := h.bd (c := c)
    have e3 : ∀ p, rwF od p K = rwF od' p K := fun p => rwF_cg (fun i hi => (h.2 i hi).1)
    have e4 : brL c K sz od lf = brL c K sz' od' lf' := by
      unfold brL
      rw [h.zE, e1]
      exact congrArg (fun f => (mxs (zl K sz' lf' od') c).filter f) (funext fun p => by rw [e3 p])
    have e5 : ∀ (p : List Int) (st : tS), meetT c K sz od n (dep + 1) (lfN od lf K p) (pthN od path K dep p) st = meetT c K sz' od' n (dep + 1) (lfN od' lf' K p) (pthN od' path K dep p) st := fun p st => by
      have e6 : pthN od path K dep p = pthN od' path K dep p := by unfold pthN; rw [e3 p]
      rw [e6]
      refine lotE.mt n (dep + 1) _ _ _ st ⟨fun j hj => ⟨(h.1 j hj).1, ?_⟩, h.2⟩
      unfold lfN
      rw [(h.1 j hj).2, e3 p]
    unfold meetT
    rw [e1, e2, e4, brT_cg e5]
theorem lotE.few {c : Int} {K : Nat} {sz mn od sz' mn' od' : Int → Int} (h : lotE K sz mn od sz' mn' od') : fewT c K sz mn od = fewT c K sz' mn' od' := by
  unfold fewT
  rw [h.pk]
  exact lotE.mt 24 0 _ _ _ _ h
