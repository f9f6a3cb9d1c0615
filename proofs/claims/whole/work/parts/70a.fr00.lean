/-! FRAMES: what a method leaves as it was; a mask has a bit for each cell that may change. By program. -/
def zfr (m : Nat) (s s2 : zS) : Prop := ∀ c, m.testBit c = false → s2.1 c = s.1 c ∧ s2.2.1 c = s.2.1 c ∧ s2.2.2 c = s.2.2 c
theorem zfr_rf (m : Nat) (s : zS) : zfr m s s := fun _ _ => ⟨rfl, rfl, rfl⟩
theorem zfr_tr {m : Nat} {a b c : zS} (h1 : zfr m a b) (h2 : zfr m b c) : zfr m a c := fun x hx => ⟨(h2 x hx).1.trans (h1 x hx).1, (h2 x hx).2.1.trans (h1 x hx).2.1, (h2 x hx).2.2.trans (h1 x hx).2.2⟩
theorem zfr_sub {m1 m2 : Nat} {a b : zS} (h : Nat.land m1 m2 = m1) (h1 : zfr m1 a b) : zfr m2 a b := fun x hx => h1 x (by
  have e : (m1 &&& m2).testBit x = m1.testBit x := by show (Nat.land m1 m2).testBit x = _; rw [h]
  rw [Nat.testBit_and, hx, Bool.and_false] at e
  exact e.symm)
theorem zfr_I {m c : Nat} {s : zS} {i v : Int} (h : m.testBit c = true) : zfr m s (sI s c i v) := fun x hx => by
  have hne : x ≠ c := fun e => by rw [e, h] at hx; cases hx
  refine ⟨?_, rfl, rfl⟩
  funext j
  show (if x = c then _ else _) = _
  rw [if_neg hne]
theorem zfr_J {m c : Nat} {s : zS} {i : Int} {v : BitVec 64} (h : m.testBit c = true) : zfr m s (sJ s c i v) := fun x hx => by
  have hne : x ≠ c := fun e => by rw [e, h] at hx; cases hx
  refine ⟨rfl, ?_, rfl⟩
  funext j
  show (if x = c then _ else _) = _
  rw [if_neg hne]
theorem zfr_P {m c : Nat} {s : zS} {i : Int} {v : Nat} (h : m.testBit c = true) : zfr m s (sP s c i v) := fun x hx => by
  have hne : x ≠ c := fun e => by rw [e, h] at hx; cases hx
  refine ⟨rfl, rfl, ?_⟩
  funext j
  show (if x = c then _ else _) = _
  rw [if_neg hne]
theorem zfr_cp {m a b : Nat} {s : zS} {i j n : Int} (h : m.testBit b = true) : zfr m s (zcp s a i b j n) := fun x hx => by
  have hne : x ≠ b := fun e => by rw [e, h] at hx; cases hx
  refine ⟨rfl, ?_, rfl⟩
  funext y
  show (if x = b then _ else _) = _
  rw [if_neg hne]
def zcm : Nat := 11972621413014756705924586149611790497021398855188480
theorem zcm_ok : ∀ q : Fin 18, ∀ j : Fin 8, zcm.testBit (29 + 8 * q.val + j.val) = true := by decide +kernel
theorem zfr_code {m c j : Nat} (hm : Nat.land zcm m = zcm) (hj : Nat.ble (j + 1) 8 = true) (hc : zC c = true) : m.testBit (c + j) = true := by
  obtain ⟨q, rfl⟩ := zC_ix hc
  have h1 := zcm_ok q ⟨j, Nat.le_of_ble_eq_true hj⟩
  have e : (zcm &&& m).testBit (29 + 8 * q.val + j) = zcm.testBit (29 + 8 * q.val + j) := by show (Nat.land zcm m).testBit _ = _; rw [hm]
  rw [Nat.testBit_and, h1, Bool.true_and] at e
  exact e
theorem zfr_IC {m c j : Nat} {s : zS} {i v : Int} (hm : Nat.land zcm m = zcm) (hj : Nat.ble (j + 1) 8 = true) (hc : zC c = true) : zfr m s (sI s (c + j) i v) := zfr_I (zfr_code hm hj hc)
theorem zfr_IC0 {m c : Nat} {s : zS} {i v : Int} (hm : Nat.land zcm m = zcm) (hc : zC c = true) : zfr m s (sI s c i v) := zfr_I (zfr_code (j := 0) hm rfl hc)
theorem zfr_lp {S T : Type} {B : S → Option (S ⊕ T)} {m : Nat} {f : S → zS} {g : T → zS} (h : ∀ s q, B s = some q → zfr m (f s) (Sum.elim f g q)) : ∀ n s t, zlp B n s = some t → zfr m (f s) (g t) := by
  intro n
  induction n with
  | zero => intro s t h1; cases h1
  | succ n ih =>
    intro s t h1
    unfold zlp at h1
    split at h1
    · next s2 e => exact zfr_tr (h s _ e) (ih s2 t h1)
    · next t2 e => cases h1; exact h s _ e
    · cases h1
def zFrec (rec : Nat → Int → Int → BitVec 64 → Int → zS → Option (Unit × zS)) : Prop := ∀ (c : Nat) (a b : Int) (w : BitVec 64) (e : Int) (s : zS) (q : Unit × zS), rec c a b w e s = some q → zfr 33423360 s q.2
theorem zfr.i {m c : Nat} {s s2 : zS} (h : zfr m s s2) (hc : m.testBit c = false) (i : Int) : gI s2 c i = gI s c i := by unfold gI; rw [(h c hc).1]
theorem zfr.j {m c : Nat} {s s2 : zS} (h : zfr m s s2) (hc : m.testBit c = false) (i : Int) : gJ s2 c i = gJ s c i := by unfold gJ; rw [(h c hc).2.1]
theorem zfr.p {m c : Nat} {s s2 : zS} (h : zfr m s s2) (hc : m.testBit c = false) (i : Int) : gP s2 c i = gP s c i := by unfold gP; rw [(h c hc).2.2]
theorem frb_143_50 {w1 : BitVec 64} {v4 : Int} {s : zS} {q : (Int × zS) ⊕ (zS)} (h : b_143_50 w1 v4 s = some q) : zfr 574685827824708321884380135181365943857027170818850816 s (Sum.elim (fun e : (Int × zS) => e.2) (fun e : (zS) => e) q) := by
  unfold b_143_50 at h
  obtain ⟨hg1, h⟩ := zg_some h
  by_cases hc2 : v4 < 0
  · rw [if_pos hc2] at h
    cases h
    exact (zfr_rf _ _)
  · rw [if_neg hc2] at h
    obtain ⟨hg3, h⟩ := zg_some h
    obtain ⟨hg4, h⟩ := zg_some h
    cases h
    exact (zfr_tr (zfr_tr (zfr_rf _ _) (zfr_I rfl)) (zfr_I rfl))
theorem frl_143_50 {w1 : BitVec 64} {n : Nat} {e0 : (Int × zS)} {t : (zS)} (h : zlp (fun (q : Int × zS) => b_143_50 w1 q.1 q.2) n e0 = some t) : zfr 574685827824708321884380135181365943857027170818850816 ((fun e : (Int × zS) => e.2) e0) ((fun e : (zS) => e) t) := zfr_lp (f := (fun e : (Int × zS) => e.2)) (g := (fun e : (zS) => e)) (fun e q h1 => frb_143_50 h1) n e0 t h
theorem frj_143_33 {w1 : BitVec 64} {v3 : Int} {t1 : Int} {s : zS} {q : (Int × zS)} (h : j_143_33 w1 v3 t1 s = some q) : zfr 574685827824708321884380135181365943857027170818850816 s q.2 := by
  unfold j_143_33 at h
  by_cases hc1 : 0 < (gI (sI s 177 0 t1) 177 0)
  · rw [if_pos hc1] at h
    cases h
    exact (zfr_tr (zfr_rf _ _) (zfr_I rfl))
  · rw [if_neg hc1] at h
    obtain ⟨e2, h3, h⟩ := zo_some h
    have f4 : zfr 574685827824708321884380135181365943857027170818850816 s e2 := zfr_tr (zfr_tr (zfr_rf _ _) (zfr_I rfl)) (frl_143_50 h3)
    cases h
    exact f4
theorem frj_143_12 {w1 : BitVec 64} {v3 : Int} {s : zS} {q : (Int × zS)} (h : j_143_12 w1 v3 s = some q) : zfr 574685827824708321884380135181365943857027170818850816 s q.2 := by
  unfold j_143_12 at h
  exact zfr_tr (zfr_rf _ _) (frj_143_33 h)
theorem fr_143 {w1 : BitVec 64} {v3 : Int} {s : zS} {q : (Int × zS)} (h : f_143 w1 v3 s = some q) : zfr 574685827824708321884380135181365943857027170818850816 s q.2 := by
  unfold f_143 at h
  obtain ⟨hg1, h⟩ := zg_some h
  by_cases hc2 : v3 < 1
  · rw [if_pos hc2] at h
    exact zfr_tr (zfr_rf _ _) (frj_143_12 h)
  · rw [if_neg hc2] at h
    by_cases hc3 : 8 < v3
    · rw [if_pos hc3] at h
      exact zfr_tr (zfr_rf _ _) (frj_143_12 h)
    · rw [if_neg hc3] at h
      obtain ⟨hg4, h⟩ := zg_some h
      by_cases hc5 : 600 < ((gI s 177 3) + v3)
      · rw [if_pos hc5] at h
        exact zfr_tr (zfr_rf _ _) (frj_143_33 h)
      · rw [if_neg hc5] at h
        exact zfr_tr (zfr_rf _ _) (frj_143_33 h)
theorem fr_144 {v1 : Int} {s : zS} {q : (Int × zS)} (h : f_144 v1 s = some q) : zfr 191561942608236107294793378393788647952342390272950272 s q.2 := by
  unfold f_144 at h
  by_cases hc1 : (gI s 177 6) = 0
  · rw [if_pos hc1] at h
    cases h
    exact (zfr_tr (zfr_rf _ _) (zfr_I rfl))
  · rw [if_neg hc1] at h
    obtain ⟨hg2, h⟩ := zg_some h
    by_cases hc3 : v1 = 0
    · rw [if_pos hc3] at h
      cases h
      exact (zfr_tr (zfr_rf _ _) (zfr_I rfl))
    · rw [if_neg hc3] at h
      cases h
      exact (zfr_tr (zfr_rf _ _) (zfr_I rfl))
theorem frj_145_90 {w1 : BitVec 64} {v3 : Int} {t1 : Int} {s : zS} {q : (Int × zS)} (h : j_145_90 w1 v3 t1 s = some q) : zfr 2490305253907069394832313919119252423380451073548353536 s q.2 := by
  unfold j_145_90 at h
  by_cases hc1 : 0 < (gI (sI s 177 0 t1) 177 0)
  · rw [if_pos hc1] at h
    cases h
    exact (zfr_tr (zfr_rf _ _) (zfr_I rfl))
  · rw [if_neg hc1] at h
    obtain ⟨hg2, h⟩ := zg_some h
    cases h
    exact (zfr_tr (zfr_tr (zfr_tr (zfr_tr (zfr_tr (zfr_rf _ _) (zfr_I rfl)) (zfr_J rfl)) (zfr_I rfl)) (zfr_I rfl)) (zfr_I rfl))
theorem frj_145_22 {w1 : BitVec 64} {v3 : Int} {t0 : Int} {s : zS} {q : (Int × zS)} (h : j_145_22 w1 v3 t0 s = some q) : zfr 2490305253907069394832313919119252423380451073548353536 s q.2 := by
  unfold j_145_22 at h
  obtain ⟨e1, h2, h⟩ := zo_some h
  obtain ⟨hg3, h⟩ := zg_some h
  by_cases hc4 : e1 = 0
  · rw [if_pos hc4] at h
    exact zfr_tr (zfr_rf _ _) (frj_145_90 h)
  · rw [if_neg hc4] at h
    by_cases hc5 : (gI s 177 10) = 8
    · rw [if_pos hc5] at h
      exact zfr_tr (zfr_rf _ _) (frj_145_90 h)
    · rw [if_neg hc5] at h
      exact zfr_tr (zfr_rf _ _) (frj_145_90 h)
theorem frj_145_21 {w1 : BitVec 64} {v3 : Int} {s : zS} {q : (Int × zS)} (h : j_145_21 w1 v3 s = some q) : zfr 2490305253907069394832313919119252423380451073548353536 s q.2 := by
  unfold j_145_21 at h
  exact zfr_tr (zfr_rf _ _) (frj_145_22 h)
theorem fr_145 {w1 : BitVec 64} {v3 : Int} {s : zS} {q : (Int × zS)} (h : f_145 w1 v3 s = some q) : zfr 2490305253907069394832313919119252423380451073548353536 s q.2 := by
  unfold f_145 at h
  obtain ⟨r2, h1, h⟩ := zo_some h
  obtain ⟨hg3, h⟩ := zg_some h
  by_cases hc4 : r2 = 0
  · rw [if_pos hc4] at h
    exact zfr_tr (zfr_rf _ _) (frj_145_21 h)
  · rw [if_neg hc4] at h
    obtain ⟨hg5, h⟩ := zg_some h
    by_cases hc6 : v3 < 1
    · rw [if_pos hc6] at h
      exact zfr_tr (zfr_rf _ _) (frj_145_21 h)
    · rw [if_neg hc6] at h
      by_cases hc7 : 3 < v3
      · rw [if_pos hc7] at h
        exact zfr_tr (zfr_rf _ _) (frj_145_21 h)
      · rw [if_neg hc7] at h
        exact zfr_tr (zfr_rf _ _) (frj_145_22 h)
theorem frb_154_7 {v1 : Int} {s : zS} {q : (Int × zS) ⊕ (zS)} (h : b_154_7 v1 s = some q) : zfr 18581508432998902407594957704197498851377211856476176384 s (Sum.elim (fun e : (Int × zS) => e.2) (fun e : (zS) => e) q) := by
  unfold b_154_7 at h
  obtain ⟨hg1, h⟩ := zg_some h
  obtain ⟨hg2, h⟩ := zg_some h
  by_cases hc3 : v1 < (125 * (gI s 177 10))
  · rw [if_pos hc3] at h
    obtain ⟨hg4, h⟩ := zg_some h
    by_cases hc5 : (gI s 181 v1) = 1
    · rw [if_pos hc5] at h
      obtain ⟨hg6, h⟩ := zg_some h
      obtain ⟨hg7, h⟩ := zg_some h
      cases h
      exact (zfr_tr (zfr_tr (zfr_tr (zfr_rf _ _) (zfr_I rfl)) (zfr_I rfl)) (zfr_I rfl))
    · rw [if_neg hc5] at h
      cases h
      exact (zfr_rf _ _)
  · rw [if_neg hc3] at h
    cases h
    exact (zfr_rf _ _)
theorem frl_154_7 {n : Nat} {e0 : (Int × zS)} {t : (zS)} (h : zlp (fun (q : Int × zS) => b_154_7 q.1 q.2) n e0 = some t) : zfr 18581508432998902407594957704197498851377211856476176384 ((fun e : (Int × zS) => e.2) e0) ((fun e : (zS) => e) t) := zfr_lp (f := (fun e : (Int × zS) => e.2)) (g := (fun e : (zS) => e)) (fun e q h1 => frb_154_7 h1) n e0 t h
theorem fr_154 {s : zS} {q : (Unit × zS)} (h : f_154 s = some q) : zfr 18581508432998902407594957704197498851377211856476176384 s q.2 := by
  unfold f_154 at h
  obtain ⟨e1, h2, h⟩ := zo_some h
  have f3 : zfr 18581508432998902407594957704197498851377211856476176384 s e1 := zfr_tr (zfr_tr (zfr_rf _ _) (zfr_I rfl)) (frl_154_7 h2)
  cases h
  exact f3
theorem frj_151_86 {v3 : Int} {v4 : Int} {v5 : Int} {s : zS} {q : (Int × zS)} (h : j_151_86 v3 v4 v5 s = some q) : zfr 21646499514730680124311651758498117218614690100843380736 s q.2 := by
  unfold j_151_86 at h
  by_cases hc1 : 0 < (gI (sI s 177 0 0) 177 0)
  · rw [if_pos hc1] at h
    cases h
    exact (zfr_tr (zfr_rf _ _) (zfr_I rfl))
  · rw [if_neg hc1] at h
    obtain ⟨hg2, h⟩ := zg_some h
    cases h
    exact (zfr_tr (zfr_tr (zfr_tr (zfr_rf _ _) (zfr_I rfl)) (zfr_I rfl)) (zfr_I rfl))
theorem frj_151_28 {v1 : Int} {v2 : Int} {v3 : Int} {t1 : Int} {s : zS} {q : (Int × zS)} (h : j_151_28 v1 v2 v3 t1 s = some q) : zfr 21646499514730680124311651758498117218614690100843380736 s q.2 := by
  unfold j_151_28 at h
  by_cases hc1 : 0 < (gI (sI s 177 0 t1) 177 0)
  · rw [if_pos hc1] at h
    cases h
    exact (zfr_tr (zfr_rf _ _) (zfr_I rfl))
  · rw [if_neg hc1] at h
    obtain ⟨r3, s4, h2, h⟩ := zb_some h
    have f5 := zfr_tr (zfr_tr (zfr_rf _ _) (zfr_I rfl)) (zfr_sub (m2 := 21646499514730680124311651758498117218614690100843380736) rfl (fr_154 h2))
    obtain ⟨hg6, h⟩ := zg_some h
    obtain ⟨hg7, h⟩ := zg_some h
    by_cases hc8 : v3 = 1
    · rw [if_pos hc8] at h
      by_cases hc9 : (gI s4 181 ((125 * v1) + v2)) = 1
      · rw [if_pos hc9] at h
        exact zfr_tr f5 (frj_151_86 h)
      · rw [if_neg hc9] at h
        by_cases hc10 : (gI s4 177 13) = 12
        · rw [if_pos hc10] at h
          by_cases hc11 : 0 < (gI (sI s4 177 0 3) 177 0)
          · rw [if_pos hc11] at h
            cases h
            exact (zfr_tr f5 (zfr_I rfl))
          · rw [if_neg hc11] at h
            cases h
            exact (zfr_tr (zfr_tr (zfr_tr f5 (zfr_I rfl)) (zfr_I rfl)) (zfr_I rfl))
        · rw [if_neg hc10] at h
          exact zfr_tr f5 (frj_151_86 h)
    · rw [if_neg hc8] at h
      exact zfr_tr f5 (frj_151_86 h)
theorem frj_151_23 {v1 : Int} {v2 : Int} {v3 : Int} {s : zS} {q : (Int × zS)} (h : j_151_23 v1 v2 v3 s = some q) : zfr 21646499514730680124311651758498117218614690100843380736 s q.2 := by
  unfold j_151_23 at h
  exact zfr_tr (zfr_rf _ _) (frj_151_28 h)
theorem fr_151 {v1 : Int} {v2 : Int} {v3 : Int} {s : zS} {q : (Int × zS)} (h : f_151 v1 v2 v3 s = some q) : zfr 21646499514730680124311651758498117218614690100843380736 s q.2 := by
  unfold f_151 at h
  obtain ⟨r2, h1, h⟩ := zo_some h
  obtain ⟨hg3, h⟩ := zg_some h
  by_cases hc4 : r2 = 0
  · rw [if_pos hc4] at h
    obtain ⟨hg5, h⟩ := zg_some h
    by_cases hc6 : v3 < 0
    · rw [if_pos hc6] at h
      exact zfr_tr (zfr_rf _ _) (frj_151_23 h)
    · rw [if_neg hc6] at h
      by_cases hc7 : 2 < v3
      · rw [if_pos hc7] at h
        exact zfr_tr (zfr_rf _ _) (frj_151_23 h)
      · rw [if_neg hc7] at h
        exact zfr_tr (zfr_rf _ _) (frj_151_28 h)
  · rw [if_neg hc4] at h
    exact zfr_tr (zfr_rf _ _) (frj_151_28 h)
theorem fr_158 {v1 : Int} {v2 : Int} {s : zS} {q : (Unit × zS)} (h : f_158 v1 v2 s = some q) : zfr 49432367728112719251314136501138766815454001467544544739328 s q.2 := by
  unfold f_158 at h
  obtain ⟨hg1, h⟩ := zg_some h
  cases h
  exact (zfr_tr (zfr_tr (zfr_tr (zfr_tr (zfr_tr (zfr_tr (zfr_tr (zfr_rf _ _) (zfr_I rfl)) (zfr_I rfl)) (zfr_I rfl)) (zfr_I rfl)) (zfr_I rfl)) (zfr_J rfl)) (zfr_I rfl))
theorem frb_159_0 {s : zS} {q : (zS) ⊕ (zS)} (h : b_159_0 s = some q) : zfr 191561942608236107294793378393788647952342390272950272 s (Sum.elim (fun e : (zS) => e) (fun e : (zS) => e) q) := by
  unfold b_159_0 at h
  by_cases hc1 : (gI s 177 26) < (gI s 177 3)
  · rw [if_pos hc1] at h
    obtain ⟨hg2, h⟩ := zg_some h
    by_cases hc3 : 32 < (gI s 178 (gI s 177 26))
    · rw [if_pos hc3] at h
      cases h
      exact (zfr_rf _ _)
    · rw [if_neg hc3] at h
      cases h
      exact (zfr_tr (zfr_rf _ _) (zfr_I rfl))
  · rw [if_neg hc1] at h
    cases h
    exact (zfr_rf _ _)
theorem frl_159_0 {n : Nat} {e0 : (zS)} {t : (zS)} (h : zlp (fun (q : zS) => b_159_0 q) n e0 = some t) : zfr 191561942608236107294793378393788647952342390272950272 ((fun e : (zS) => e) e0) ((fun e : (zS) => e) t) := zfr_lp (f := (fun e : (zS) => e)) (g := (fun e : (zS) => e)) (fun e q h1 => frb_159_0 h1) n e0 t h
theorem frj_159_231 {v1 : Int} {s : zS} {q : (Unit × zS)} (h : j_159_231 v1 s = some q) : zfr 191561942608236107294793378393788647952342390272950272 s q.2 := by
  unfold j_159_231 at h
  obtain ⟨r2, h1, h⟩ := zo_some h
  cases h
  exact (zfr_tr (zfr_tr (zfr_rf _ _) (zfr_I rfl)) (zfr_I rfl))
theorem frj_159_200 {v1 : Int} {v2 : Int} {s : zS} {q : (Unit × zS)} (h : j_159_200 v1 v2 s = some q) : zfr 191561942608236107294793378393788647952342390272950272 s q.2 := by
  unfold j_159_200 at h
  obtain ⟨hg1, h⟩ := zg_some h
  by_cases hc2 : v1 = 58
  · rw [if_pos hc2] at h
    obtain ⟨hg3, h⟩ := zg_some h
    by_cases hc4 : v2 = 62
    · rw [if_pos hc4] at h
      cases h
      exact (zfr_tr (zfr_tr (zfr_rf _ _) (zfr_I rfl)) (zfr_I rfl))
    · rw [if_neg hc4] at h
      exact zfr_tr (zfr_rf _ _) (frj_159_231 h)
  · rw [if_neg hc2] at h
    exact zfr_tr (zfr_rf _ _) (frj_159_231 h)
theorem frj_159_169 {v1 : Int} {v2 : Int} {s : zS} {q : (Unit × zS)} (h : j_159_169 v1 v2 s = some q) : zfr 191561942608236107294793378393788647952342390272950272 s q.2 := by
  unfold j_159_169 at h
  obtain ⟨hg1, h⟩ := zg_some h
  by_cases hc2 : v1 = 60
  · rw [if_pos hc2] at h
    obtain ⟨hg3, h⟩ := zg_some h
    by_cases hc4 : v2 = 58
    · rw [if_pos hc4] at h
      cases h
      exact (zfr_tr (zfr_tr (zfr_rf _ _) (zfr_I rfl)) (zfr_I rfl))
    · rw [if_neg hc4] at h
      exact zfr_tr (zfr_rf _ _) (frj_159_200 h)
  · rw [if_neg hc2] at h
    exact zfr_tr (zfr_rf _ _) (frj_159_200 h)
theorem frj_159_138 {v1 : Int} {v2 : Int} {s : zS} {q : (Unit × zS)} (h : j_159_138 v1 v2 s = some q) : zfr 191561942608236107294793378393788647952342390272950272 s q.2 := by
  unfold j_159_138 at h
  obtain ⟨hg1, h⟩ := zg_some h
  by_cases hc2 : v1 = 43
  · rw [if_pos hc2] at h
    obtain ⟨hg3, h⟩ := zg_some h
    by_cases hc4 : v2 = 43
    · rw [if_pos hc4] at h
      cases h
      exact (zfr_tr (zfr_tr (zfr_rf _ _) (zfr_I rfl)) (zfr_I rfl))
    · rw [if_neg hc4] at h
      exact zfr_tr (zfr_rf _ _) (frj_159_169 h)
  · rw [if_neg hc2] at h
    exact zfr_tr (zfr_rf _ _) (frj_159_169 h)
theorem frb_163_4 {v1 : Int} {v2 : Int} {s : zS} {q : (Int × Int × zS) ⊕ (Int × Int × zS)} (h : b_163_4 v1 v2 s = some q) : zfr 191561942608236107294793378393788647952342390272950272 s (Sum.elim (fun e : (Int × Int × zS) => e.2.2) (fun e : (Int × Int × zS) => e.2.2) q) := by
  unfold b_163_4 at h
  obtain ⟨r2, h1, h⟩ := zo_some h
  obtain ⟨r4, h3, h⟩ := zo_some h
  obtain ⟨hg5, h⟩ := zg_some h
  by_cases hc6 : r4 = 0
  · rw [if_pos hc6] at h
    cases h
    exact (zfr_rf _ _)
  · rw [if_neg hc6] at h
    obtain ⟨hg7, h⟩ := zg_some h
    by_cases hc8 : v2 < 3
    · rw [if_pos hc8] at h
      obtain ⟨r10, h9, h⟩ := zo_some h
      cases h
      exact (zfr_tr (zfr_rf _ _) (zfr_I rfl))
    · rw [if_neg hc8] at h
      cases h
      exact (zfr_tr (zfr_rf _ _) (zfr_I rfl))
theorem frl_163_4 {n : Nat} {e0 : (Int × Int × zS)} {t : (Int × Int × zS)} (h : zlp (fun (q : Int × Int × zS) => b_163_4 q.1 q.2.1 q.2.2) n e0 = some t) : zfr 191561942608236107294793378393788647952342390272950272 ((fun e : (Int × Int × zS) => e.2.2) e0) ((fun e : (Int × Int × zS) => e.2.2) t) := zfr_lp (f := (fun e : (Int × Int × zS) => e.2.2)) (g := (fun e : (Int × Int × zS) => e.2.2)) (fun e q h1 => frb_163_4 h1) n e0 t h
theorem fr_163 {s : zS} {q : (Unit × zS)} (h : f_163 s = some q) : zfr 191561942608236107294793378393788647952342390272950272 s q.2 := by
  unfold f_163 at h
  obtain ⟨e1, h2, h⟩ := zo_some h
  have f3 : zfr 191561942608236107294793378393788647952342390272950272 s e1.2.2 := zfr_tr (zfr_rf _ _) (frl_163_4 h2)
  obtain ⟨hg4, h⟩ := zg_some h
  by_cases hc5 : 3 < e1.2.1
  · rw [if_pos hc5] at h
    cases h
    exact (zfr_tr (zfr_tr f3 (zfr_I rfl)) (zfr_I rfl))
  · rw [if_neg hc5] at h
    cases h
    exact (zfr_tr (zfr_tr f3 (zfr_I rfl)) (zfr_I rfl))
theorem frb_161_4 {w1 : BitVec 64} {v3 : Int} {s : zS} {q : (BitVec 64 × Int × zS) ⊕ (BitVec 64 × Int × zS)} (h : b_161_4 w1 v3 s = some q) : zfr 191561942608236107294793378393788647952342390272950272 s (Sum.elim (fun e : (BitVec 64 × Int × zS) => e.2.2) (fun e : (BitVec 64 × Int × zS) => e.2.2) q) := by
  unfold b_161_4 at h
  obtain ⟨r2, h1, h⟩ := zo_some h
  obtain ⟨r4, h3, h⟩ := zo_some h
  obtain ⟨hg5, h⟩ := zg_some h
  by_cases hc6 : r4 = 0
  · rw [if_pos hc6] at h
    cases h
    exact (zfr_rf _ _)
  · rw [if_neg hc6] at h
    obtain ⟨hg7, h⟩ := zg_some h
    by_cases hc8 : v3 < 7
    · rw [if_pos hc8] at h
      obtain ⟨r10, h9, h⟩ := zo_some h
      obtain ⟨hg11, h⟩ := zg_some h
      cases h
      exact (zfr_tr (zfr_rf _ _) (zfr_I rfl))
    · rw [if_neg hc8] at h
      cases h
      exact (zfr_tr (zfr_rf _ _) (zfr_I rfl))
theorem frl_161_4 {n : Nat} {e0 : (BitVec 64 × Int × zS)} {t : (BitVec 64 × Int × zS)} (h : zlp (fun (q : BitVec 64 × Int × zS) => b_161_4 q.1 q.2.1 q.2.2) n e0 = some t) : zfr 191561942608236107294793378393788647952342390272950272 ((fun e : (BitVec 64 × Int × zS) => e.2.2) e0) ((fun e : (BitVec 64 × Int × zS) => e.2.2) t) := zfr_lp (f := (fun e : (BitVec 64 × Int × zS) => e.2.2)) (g := (fun e : (BitVec 64 × Int × zS) => e.2.2)) (fun e q h1 => frb_161_4 h1) n e0 t h
theorem frj_161_73 {w1 : BitVec 64} {v3 : Int} {t0 : Int} {s : zS} {q : (Unit × zS)} (h : j_161_73 w1 v3 t0 s = some q) : zfr 191561942608236107294793378393788647952342390272950272 s q.2 := by
  unfold j_161_73 at h
  obtain ⟨hg1, h⟩ := zg_some h
  by_cases hc2 : t0 = (-1)
  · rw [if_pos hc2] at h
    obtain ⟨hg3, h⟩ := zg_some h
    by_cases hc4 : 6 < v3
    · rw [if_pos hc4] at h
      cases h
      exact (zfr_tr (zfr_tr (zfr_rf _ _) (zfr_I rfl)) (zfr_J rfl))
    · rw [if_neg hc4] at h
      cases h
      exact (zfr_tr (zfr_tr (zfr_rf _ _) (zfr_I rfl)) (zfr_J rfl))
  · rw [if_neg hc2] at h
    cases h
    exact (zfr_tr (zfr_tr (zfr_rf _ _) (zfr_I rfl)) (zfr_J rfl))
theorem fr_161 {s : zS} {q : (Unit × zS)} (h : f_161 s = some q) : zfr 191561942608236107294793378393788647952342390272950272 s q.2 := by
  unfold f_161 at h
  obtain ⟨e1, h2, h⟩ := zo_some h
  have f3 : zfr 191561942608236107294793378393788647952342390272950272 s e1.2.2 := zfr_tr (zfr_rf _ _) (frl_161_4 h2)
  obtain ⟨hg4, h⟩ := zg_some h
  by_cases hc5 : 7 < e1.2.1
  · rw [if_pos hc5] at h
    exact zfr_tr f3 (frj_161_73 h)
  · rw [if_neg hc5] at h
    obtain ⟨r7, h6, h⟩ := zo_some h
    exact zfr_tr f3 (frj_161_73 h)
theorem frj_159_38 {s : zS} {q : (Unit × zS)} (h : j_159_38 s = some q) : zfr 191561942608236107294793378393788647952342390272950272 s q.2 := by
  unfold j_159_38 at h
  obtain ⟨r2, h1, h⟩ := zo_some h
  obtain ⟨r4, h3, h⟩ := zo_some h
  obtain ⟨hg5, h⟩ := zg_some h
  by_cases hc6 : r2 = (-1)
  · rw [if_pos hc6] at h
    cases h
    exact (zfr_tr (zfr_tr (zfr_rf _ _) (zfr_I rfl)) (zfr_I rfl))
  · rw [if_neg hc6] at h
    obtain ⟨r8, h7, h⟩ := zo_some h
    obtain ⟨hg9, h⟩ := zg_some h
    by_cases hc10 : r8 = 0
    · rw [if_pos hc10] at h
      obtain ⟨r12, h11, h⟩ := zo_some h
      obtain ⟨hg13, h⟩ := zg_some h
      by_cases hc14 : r12 = 0
      · rw [if_pos hc14] at h
        by_cases hc15 : r2 = 45
        · rw [if_pos hc15] at h
          obtain ⟨hg16, h⟩ := zg_some h
          by_cases hc17 : r4 = 62
          · rw [if_pos hc17] at h
            cases h
            exact (zfr_tr (zfr_tr (zfr_tr (zfr_rf _ _) (zfr_I rfl)) (zfr_I rfl)) (zfr_I rfl))
          · rw [if_neg hc17] at h
            exact zfr_tr (zfr_tr (zfr_rf _ _) (zfr_I rfl)) (frj_159_138 h)
        · rw [if_neg hc15] at h
          exact zfr_tr (zfr_tr (zfr_rf _ _) (zfr_I rfl)) (frj_159_138 h)
      · rw [if_neg hc14] at h
        obtain ⟨r19, s20, h18, h⟩ := zb_some h
        have f21 := zfr_tr (zfr_tr (zfr_rf _ _) (zfr_I rfl)) (zfr_sub (m2 := 191561942608236107294793378393788647952342390272950272) rfl (fr_163 h18))
        cases h
        exact f21
    · rw [if_neg hc10] at h
      obtain ⟨r23, s24, h22, h⟩ := zb_some h
      have f25 := zfr_tr (zfr_tr (zfr_rf _ _) (zfr_I rfl)) (zfr_sub (m2 := 191561942608236107294793378393788647952342390272950272) rfl (fr_161 h22))
      cases h
      exact f25
theorem fr_159 {s : zS} {q : (Unit × zS)} (h : f_159 s = some q) : zfr 191561942608236107294793378393788647952342390272950272 s q.2 := by
  unfold f_159 at h
  obtain ⟨e1, h2, h⟩ := zo_some h
  have f3 : zfr 191561942608236107294793378393788647952342390272950272 s e1 := zfr_tr (zfr_rf _ _) (frl_159_0 h2)
  exact zfr_tr f3 (frj_159_38 h)
theorem fr_172 {v1 : Int} {v2 : Int} {v3 : Int} {s : zS} {q : (Unit × zS)} (h : f_172 v1 v2 v3 s = some q) : zfr 171831062519587788243429660419228417213251124074836393984 s q.2 := by
  unfold f_172 at h
  obtain ⟨hg1, h⟩ := zg_some h
  cases h
  exact (zfr_tr (zfr_tr (zfr_tr (zfr_tr (zfr_rf _ _) (zfr_I rfl)) (zfr_I rfl)) (zfr_I rfl)) (zfr_I rfl))
theorem frj_171_103 {s : zS} {q : (Int × zS)} (h : j_171_103 s = some q) : zfr 99820821111783144914136586753840932772838143804941384286208 s q.2 := by
  unfold j_171_103 at h
  obtain ⟨r2, s3, h1, h⟩ := zb_some h
  have f4 := zfr_tr (zfr_rf _ _) (zfr_sub (m2 := 99820821111783144914136586753840932772838143804941384286208) rfl (fr_158 h1))
  cases h
  exact f4
theorem frb_175_101 {v3 : Int} {s : zS} {q : (Int × zS) ⊕ ((zS) ⊕ (Int × zS))} (h : b_175_101 v3 s = some q) : zfr 50388644945613033898929745046080559746032094679787112497152 s (Sum.elim (fun e : (Int × zS) => e.2) (fun t : ((zS) ⊕ (Int × zS)) => Sum.elim (fun e : (zS) => e) (fun q => q.2) t) q) := by
  unfold b_175_101 at h
  obtain ⟨hg1, h⟩ := zg_some h
  by_cases hc2 : v3 < (gI s 177 10)
  · rw [if_pos hc2] at h
    obtain ⟨hg3, h⟩ := zg_some h
    by_cases hc4 : (gJ s 179 v3) = (gJ s 177 29)
    · rw [if_pos hc4] at h
      obtain ⟨r6, s7, h5, h⟩ := zb_some h
      have f8 := zfr_tr (zfr_rf _ _) (zfr_sub (m2 := 50388644945613033898929745046080559746032094679787112497152) rfl (fr_172 h5))
      obtain ⟨hg9, h⟩ := zg_some h
      cases h
      exact (zfr_tr (zfr_tr f8 (zfr_I rfl)) (zfr_I rfl))
    · rw [if_neg hc4] at h
      cases h
      exact (zfr_rf _ _)
  · rw [if_neg hc2] at h
    cases h
    exact (zfr_rf _ _)
theorem frl_175_101 {n : Nat} {e0 : (Int × zS)} {t : ((zS) ⊕ (Int × zS))} (h : zlp (fun (q : Int × zS) => b_175_101 q.1 q.2) n e0 = some t) : zfr 50388644945613033898929745046080559746032094679787112497152 ((fun e : (Int × zS) => e.2) e0) ((fun t : ((zS) ⊕ (Int × zS)) => Sum.elim (fun e : (zS) => e) (fun q => q.2) t) t) := zfr_lp (f := (fun e : (Int × zS) => e.2)) (g := (fun t : ((zS) ⊕ (Int × zS)) => Sum.elim (fun e : (zS) => e) (fun q => q.2) t)) (fun e q h1 => frb_175_101 h1) n e0 t h
theorem fr_175 {s : zS} {q : (Int × zS)} (h : f_175 s = some q) : zfr 50388644945613033898929745046080559746032094679787112497152 s q.2 := by
  unfold f_175 at h
  obtain ⟨e1, h2, h⟩ := zo_some h
  obtain ⟨hg3, h⟩ := zg_some h
  by_cases hc4 : e1 = (-1)
  · rw [if_pos hc4] at h
    obtain ⟨e5, h6, h⟩ := zo_some h
    rcases e5 with e8 | q9
    · simp only [ze_l] at h
      have f7 : zfr 50388644945613033898929745046080559746032094679787112497152 s e8 := zfr_tr (zfr_rf _ _) (frl_175_101 h6)
      cases h
      exact f7
    · cases h
      exact zfr_tr (zfr_rf _ _) (frl_175_101 h6)
  · rw [if_neg hc4] at h
    obtain ⟨r11, s12, h10, h⟩ := zb_some h
    have f13 := zfr_tr (zfr_rf _ _) (zfr_sub (m2 := 50388644945613033898929745046080559746032094679787112497152) rfl (fr_172 h10))
    obtain ⟨hg14, h⟩ := zg_some h
    cases h
    exact (zfr_tr (zfr_tr f13 (zfr_I rfl)) (zfr_I rfl))
theorem frj_174_99 {s : zS} {q : (Int × zS)} (h : j_174_99 s = some q) : zfr 99820821111783144914136586753840932772838143804941384286208 s q.2 := by
  unfold j_174_99 at h
  obtain ⟨r2, s3, h1, h⟩ := zb_some h
  have f4 := zfr_tr (zfr_rf _ _) (zfr_sub (m2 := 99820821111783144914136586753840932772838143804941384286208) rfl (fr_172 h1))
  by_cases hc5 : (gI s3 177 27) = 23
  · rw [if_pos hc5] at h
    obtain ⟨hg6, h⟩ := zg_some h
    cases h
    exact (zfr_tr (zfr_tr f4 (zfr_I rfl)) (zfr_I rfl))
  · rw [if_neg hc5] at h
    obtain ⟨hg7, h⟩ := zg_some h
    cases h
    exact (zfr_tr (zfr_tr f4 (zfr_I rfl)) (zfr_I rfl))
theorem fr_174 {s : zS} {q : (Int × zS)} (h : f_174 s = some q) : zfr 99820821111783144914136586753840932772838143804941384286208 s q.2 := by
  unfold f_174 at h
  obtain ⟨r2, h1, h⟩ := zo_some h
  obtain ⟨hg3, h⟩ := zg_some h
  by_cases hc4 : r2 = 16
  · rw [if_pos hc4] at h
    obtain ⟨r6, s7, h5, h⟩ := zb_some h
    have f8 := zfr_tr (zfr_rf _ _) (zfr_sub (m2 := 99820821111783144914136586753840932772838143804941384286208) rfl (fr_158 h5))
    cases h
    exact f8
  · rw [if_neg hc4] at h
    by_cases hc9 : (gI s 177 27) = 45
    · rw [if_pos hc9] at h
      obtain ⟨r11, s12, h10, h⟩ := zb_some h
      have f13 := zfr_tr (zfr_rf _ _) (zfr_sub (m2 := 99820821111783144914136586753840932772838143804941384286208) rfl (fr_158 h10))
      cases h
      exact f13
    · rw [if_neg hc9] at h
      by_cases hc14 : (gI s 177 27) = 49
      · rw [if_pos hc14] at h
        obtain ⟨r16, s17, h15, h⟩ := zb_some h
        have f18 := zfr_tr (zfr_rf _ _) (zfr_sub (m2 := 99820821111783144914136586753840932772838143804941384286208) rfl (fr_158 h15))
        cases h
        exact f18
      · rw [if_neg hc14] at h
        by_cases hc19 : (gI s 177 27) = 1
        · rw [if_pos hc19] at h
          obtain ⟨r21, s22, h20, h⟩ := zb_some h
          have f23 := zfr_tr (zfr_rf _ _) (zfr_sub (m2 := 99820821111783144914136586753840932772838143804941384286208) rfl (fr_175 h20))
          obtain ⟨hg24, h⟩ := zg_some h
          by_cases hc25 : r21 = 0
          · rw [if_pos hc25] at h
            cases h
            exact f23
          · rw [if_neg hc25] at h
            cases h
            exact f23
        · rw [if_neg hc19] at h
          by_cases hc26 : (gI s 177 27) = 21
          · rw [if_pos hc26] at h
            exact zfr_tr (zfr_rf _ _) (frj_174_99 h)
          · rw [if_neg hc26] at h
            by_cases hc27 : (gI s 177 27) = 22
            · rw [if_pos hc27] at h
              exact zfr_tr (zfr_rf _ _) (frj_174_99 h)
            · rw [if_neg hc27] at h
              by_cases hc28 : (gI s 177 27) = 23
              · rw [if_pos hc28] at h
                exact zfr_tr (zfr_rf _ _) (frj_174_99 h)
              · rw [if_neg hc28] at h
                cases h
                exact (zfr_rf _ _)
theorem frj_171_118 {v1 : Int} {s : zS} {q : (Int × zS)} (h : j_171_118 v1 s = some q) : zfr 99820821111783144914136586753840932772838143804941384286208 s q.2 := by
  unfold j_171_118 at h
  obtain ⟨hg1, h⟩ := zg_some h
  by_cases hc2 : v1 = 0
  · rw [if_pos hc2] at h
    by_cases hc3 : (gI s 177 27) = 41
    · rw [if_pos hc3] at h
      obtain ⟨r5, s6, h4, h⟩ := zb_some h
      have f7 := zfr_tr (zfr_rf _ _) (zfr_sub (m2 := 99820821111783144914136586753840932772838143804941384286208) rfl (fr_158 h4))
      cases h
      exact f7
    · rw [if_neg hc3] at h
      obtain ⟨r9, s10, h8, h⟩ := zb_some h
      have f11 := zfr_tr (zfr_rf _ _) (zfr_sub (m2 := 99820821111783144914136586753840932772838143804941384286208) rfl (fr_174 h8))
      cases h
      exact f11
  · rw [if_neg hc2] at h
    obtain ⟨r13, s14, h12, h⟩ := zb_some h
    have f15 := zfr_tr (zfr_rf _ _) (zfr_sub (m2 := 99820821111783144914136586753840932772838143804941384286208) rfl (fr_158 h12))
    cases h
    exact f15
theorem frj_173_32 {v1 : Int} {v2 : Int} {v3 : Int} {t0 : Int} {s : zS} {q : (Int × zS)} (h : j_173_32 v1 v2 v3 t0 s = some q) : zfr 191561942608236107294793378393788647952342390272950272 s q.2 := by
  unfold j_173_32 at h
  obtain ⟨hg1, h⟩ := zg_some h
  by_cases hc2 : t0 = 0
  · rw [if_pos hc2] at h
    obtain ⟨hg3, h⟩ := zg_some h
    cases h
    exact (zfr_tr (zfr_tr (zfr_tr (zfr_rf _ _) (zfr_I rfl)) (zfr_I rfl)) (zfr_I rfl))
  · rw [if_neg hc2] at h
    obtain ⟨r5, s6, h4, h⟩ := zb_some h
    have f7 := zfr_tr (zfr_rf _ _) (zfr_sub (m2 := 191561942608236107294793378393788647952342390272950272) rfl (fr_159 h4))
    by_cases hc8 : (gI s6 177 27) = 51
    · rw [if_pos hc8] at h
      cases h
      exact (zfr_tr (zfr_tr (zfr_tr f7 (zfr_I rfl)) (zfr_I rfl)) (zfr_I rfl))
    · rw [if_neg hc8] at h
      cases h
      exact (zfr_tr (zfr_tr (zfr_tr f7 (zfr_I rfl)) (zfr_I rfl)) (zfr_I rfl))
theorem fr_173 {s : zS} {q : (Int × zS)} (h : f_173 s = some q) : zfr 191561942608236107294793378393788647952342390272950272 s q.2 := by
  unfold f_173 at h
  obtain ⟨r2, s3, h1, h⟩ := zb_some h
  have f4 := zfr_tr (zfr_rf _ _) (zfr_sub (m2 := 191561942608236107294793378393788647952342390272950272) rfl (fr_159 h1))
  by_cases hc5 : (gI s3 177 27) = 1
  · rw [if_pos hc5] at h
    exact zfr_tr f4 (frj_173_32 h)
  · rw [if_neg hc5] at h
    exact zfr_tr f4 (frj_173_32 h)
theorem frj_171_82 {t0 : Int} {s : zS} {q : (Int × zS)} (h : j_171_82 t0 s = some q) : zfr 99820821111783144914136586753840932772838143804941384286208 s q.2 := by
  unfold j_171_82 at h
  by_cases hc1 : (gI s 177 27) = 10
  · rw [if_pos hc1] at h
    exact zfr_tr (zfr_rf _ _) (frj_171_103 h)
  · rw [if_neg hc1] at h
    obtain ⟨hg2, h⟩ := zg_some h
    by_cases hc3 : t0 = 0
    · rw [if_pos hc3] at h
      exact zfr_tr (zfr_rf _ _) (frj_171_118 h)
    · rw [if_neg hc3] at h
      obtain ⟨r5, s6, h4, h⟩ := zb_some h
      have f7 := zfr_tr (zfr_rf _ _) (zfr_sub (m2 := 99820821111783144914136586753840932772838143804941384286208) rfl (fr_173 h4))
      obtain ⟨hg8, h⟩ := zg_some h
      by_cases hc9 : r5 = 0
      · rw [if_pos hc9] at h
        exact zfr_tr f7 (frj_171_118 h)
      · rw [if_neg hc9] at h
        exact zfr_tr f7 (frj_171_103 h)
theorem frj_171_81 {s : zS} {q : (Int × zS)} (h : j_171_81 s = some q) : zfr 99820821111783144914136586753840932772838143804941384286208 s q.2 := by
  unfold j_171_81 at h
  exact zfr_tr (zfr_rf _ _) (frj_171_82 h)
theorem fr_171 {s : zS} {q : (Int × zS)} (h : f_171 s = some q) : zfr 99820821111783144914136586753840932772838143804941384286208 s q.2 := by
  unfold f_171 at h
  by_cases hc1 : (gI s 177 27) = 15
  · rw [if_pos hc1] at h
    obtain ⟨r3, s4, h2, h⟩ := zb_some h
    have f5 := zfr_tr (zfr_rf _ _) (zfr_sub (m2 := 99820821111783144914136586753840932772838143804941384286208) rfl (fr_158 h2))
    cases h
    exact f5
  · rw [if_neg hc1] at h
    by_cases hc6 : (gI s 177 27) = 47
    · rw [if_pos hc6] at h
      obtain ⟨r8, s9, h7, h⟩ := zb_some h
      have f10 := zfr_tr (zfr_rf _ _) (zfr_sub (m2 := 99820821111783144914136586753840932772838143804941384286208) rfl (fr_158 h7))
      cases h
      exact f10
    · rw [if_neg hc6] at h
      by_cases hc11 : (gI s 177 27) = 24
      · rw [if_pos hc11] at h
        obtain ⟨r13, s14, h12, h⟩ := zb_some h
        have f15 := zfr_tr (zfr_rf _ _) (zfr_sub (m2 := 99820821111783144914136586753840932772838143804941384286208) rfl (fr_172 h12))
        cases h
        exact f15
      · rw [if_neg hc11] at h
        by_cases hc16 : (gI s 177 27) = 25
        · rw [if_pos hc16] at h
          obtain ⟨r18, s19, h17, h⟩ := zb_some h
          have f20 := zfr_tr (zfr_rf _ _) (zfr_sub (m2 := 99820821111783144914136586753840932772838143804941384286208) rfl (fr_172 h17))
          cases h
          exact f20
        · rw [if_neg hc16] at h
          by_cases hc21 : (gI s 177 27) < 10
          · rw [if_pos hc21] at h
            exact zfr_tr (zfr_rf _ _) (frj_171_81 h)
          · rw [if_neg hc21] at h
            by_cases hc22 : 14 < (gI s 177 27)
            · rw [if_pos hc22] at h
              exact zfr_tr (zfr_rf _ _) (frj_171_81 h)
            · rw [if_neg hc22] at h
              exact zfr_tr (zfr_rf _ _) (frj_171_82 h)
theorem fr_180 {v1 : Int} {s : zS} {q : (Int × zS)} (h : f_180 v1 s = some q) : zfr 191561942608236107294793378393788647952342390272950272 s q.2 := by
  unfold f_180 at h
  cases h
  exact (zfr_tr (zfr_rf _ _) (zfr_I rfl))
theorem frj_179_246 {v1 : Int} {v2 : Int} {v3 : Int} {v4 : Int} {v5 : Int} {s : zS} {q : (Int × zS)} (h : j_179_246 v1 v2 v3 v4 v5 s = some q) : zfr 50388644945613033898929745046080559746032094679787112497152 s q.2 := by
  unfold j_179_246 at h
  obtain ⟨hg1, h⟩ := zg_some h
  obtain ⟨r3, s4, h2, h⟩ := zb_some h
  have f5 := zfr_tr (zfr_tr (zfr_rf _ _) (zfr_I rfl)) (zfr_sub (m2 := 50388644945613033898929745046080559746032094679787112497152) rfl (fr_172 h2))
  obtain ⟨hg6, h⟩ := zg_some h
  by_cases hc7 : v5 = 0
  · rw [if_pos hc7] at h
    obtain ⟨hg8, h⟩ := zg_some h
    obtain ⟨r10, s11, h9, h⟩ := zb_some h
    have f12 := zfr_tr f5 (zfr_sub (m2 := 50388644945613033898929745046080559746032094679787112497152) rfl (fr_180 h9))
    cases h
    exact f12
  · rw [if_neg hc7] at h
    cases h
    exact f5
theorem frj_179_153 {v1 : Int} {v2 : Int} {v3 : Int} {v4 : Int} {t0 : Int} {s : zS} {q : (Int × zS)} (h : j_179_153 v1 v2 v3 v4 t0 s = some q) : zfr 50388644945613033898929745046080559746032094679787112497152 s q.2 := by
  unfold j_179_153 at h
  exact zfr_tr (zfr_rf _ _) (frj_179_246 h)
theorem frj_179_152 {v1 : Int} {v2 : Int} {v3 : Int} {v4 : Int} {s : zS} {q : (Int × zS)} (h : j_179_152 v1 v2 v3 v4 s = some q) : zfr 50388644945613033898929745046080559746032094679787112497152 s q.2 := by
  unfold j_179_152 at h
  exact zfr_tr (zfr_rf _ _) (frj_179_153 h)
theorem frj_179_174 {v1 : Int} {v2 : Int} {v3 : Int} {v4 : Int} {t0 : Int} {s : zS} {q : (Int × zS)} (h : j_179_174 v1 v2 v3 v4 t0 s = some q) : zfr 50388644945613033898929745046080559746032094679787112497152 s q.2 := by
  unfold j_179_174 at h
  exact zfr_tr (zfr_rf _ _) (frj_179_246 h)
theorem frj_179_195 {v1 : Int} {v2 : Int} {v3 : Int} {v4 : Int} {t0 : Int} {s : zS} {q : (Int × zS)} (h : j_179_195 v1 v2 v3 v4 t0 s = some q) : zfr 50388644945613033898929745046080559746032094679787112497152 s q.2 := by
  unfold j_179_195 at h
  exact zfr_tr (zfr_rf _ _) (frj_179_246 h)
theorem frj_179_229 {v1 : Int} {v2 : Int} {v3 : Int} {v4 : Int} {t0 : Int} {s : zS} {q : (Int × zS)} (h : j_179_229 v1 v2 v3 v4 t0 s = some q) : zfr 50388644945613033898929745046080559746032094679787112497152 s q.2 := by
  unfold j_179_229 at h
  exact zfr_tr (zfr_rf _ _) (frj_179_246 h)
theorem frj_179_228 {v1 : Int} {v2 : Int} {v3 : Int} {v4 : Int} {s : zS} {q : (Int × zS)} (h : j_179_228 v1 v2 v3 v4 s = some q) : zfr 50388644945613033898929745046080559746032094679787112497152 s q.2 := by
  unfold j_179_228 at h
  exact zfr_tr (zfr_rf _ _) (frj_179_229 h)
theorem frj_179_212 {v1 : Int} {v2 : Int} {v3 : Int} {v4 : Int} {s : zS} {q : (Int × zS)} (h : j_179_212 v1 v2 v3 v4 s = some q) : zfr 50388644945613033898929745046080559746032094679787112497152 s q.2 := by
  unfold j_179_212 at h
  obtain ⟨hg1, h⟩ := zg_some h
  by_cases hc2 : v4 < 1
  · rw [if_pos hc2] at h
    exact zfr_tr (zfr_rf _ _) (frj_179_228 h)
  · rw [if_neg hc2] at h
    by_cases hc3 : 3 < v4
    · rw [if_pos hc3] at h
      exact zfr_tr (zfr_rf _ _) (frj_179_228 h)
    · rw [if_neg hc3] at h
      exact zfr_tr (zfr_rf _ _) (frj_179_229 h)
theorem frj_179_244 {v1 : Int} {v2 : Int} {v3 : Int} {v4 : Int} {t0 : Int} {s : zS} {q : (Int × zS)} (h : j_179_244 v1 v2 v3 v4 t0 s = some q) : zfr 50388644945613033898929745046080559746032094679787112497152 s q.2 := by
  unfold j_179_244 at h
  exact zfr_tr (zfr_rf _ _) (frj_179_246 h)
theorem frj_179_130 {v1 : Int} {v2 : Int} {v3 : Int} {t0 : Int} {s : zS} {q : (Int × zS)} (h : j_179_130 v1 v2 v3 t0 s = some q) : zfr 50388644945613033898929745046080559746032094679787112497152 s q.2 := by
  unfold j_179_130 at h
  obtain ⟨hg1, h⟩ := zg_some h
  by_cases hc2 : v1 = 31
  · rw [if_pos hc2] at h
    obtain ⟨hg3, h⟩ := zg_some h
    by_cases hc4 : v3 = 2
    · rw [if_pos hc4] at h
      obtain ⟨hg5, h⟩ := zg_some h
      by_cases hc6 : v2 = 2
      · rw [if_pos hc6] at h
        exact zfr_tr (zfr_rf _ _) (frj_179_153 h)
      · rw [if_neg hc6] at h
        exact zfr_tr (zfr_rf _ _) (frj_179_152 h)
    · rw [if_neg hc4] at h
      exact zfr_tr (zfr_rf _ _) (frj_179_152 h)
  · rw [if_neg hc2] at h
    by_cases hc7 : v1 = 32
    · rw [if_pos hc7] at h
      obtain ⟨hg8, h⟩ := zg_some h
      by_cases hc9 : v3 = 1
      · rw [if_pos hc9] at h
        exact zfr_tr (zfr_rf _ _) (frj_179_174 h)
      · rw [if_neg hc9] at h
        exact zfr_tr (zfr_rf _ _) (frj_179_174 h)
    · rw [if_neg hc7] at h
      by_cases hc10 : v1 = 33
      · rw [if_pos hc10] at h
        obtain ⟨hg11, h⟩ := zg_some h
        by_cases hc12 : v2 = 1
        · rw [if_pos hc12] at h
          exact zfr_tr (zfr_rf _ _) (frj_179_195 h)
        · rw [if_neg hc12] at h
          exact zfr_tr (zfr_rf _ _) (frj_179_195 h)
      · rw [if_neg hc10] at h
        by_cases hc13 : v1 = 30
        · rw [if_pos hc13] at h
          exact zfr_tr (zfr_rf _ _) (frj_179_212 h)
        · rw [if_neg hc13] at h
          by_cases hc14 : v1 = 37
          · rw [if_pos hc14] at h
            exact zfr_tr (zfr_rf _ _) (frj_179_212 h)
          · rw [if_neg hc14] at h
            obtain ⟨hg15, h⟩ := zg_some h
            obtain ⟨hg16, h⟩ := zg_some h
            by_cases hc17 : v3 = v2
            · rw [if_pos hc17] at h
              exact zfr_tr (zfr_rf _ _) (frj_179_244 h)
            · rw [if_neg hc17] at h
              exact zfr_tr (zfr_rf _ _) (frj_179_244 h)
theorem fr_179 {s : zS} {q : (Int × zS)} (h : f_179 s = some q) : zfr 50388644945613033898929745046080559746032094679787112497152 s q.2 := by
  unfold f_179 at h
  obtain ⟨hg1, h⟩ := zg_some h
  obtain ⟨hg2, h⟩ := zg_some h
  obtain ⟨r4, h3, h⟩ := zo_some h
  obtain ⟨hg5, h⟩ := zg_some h
  by_cases hc6 : r4 = 16
  · rw [if_pos hc6] at h
    obtain ⟨r8, s9, h7, h⟩ := zb_some h
    have f10 := zfr_tr (zfr_tr (zfr_rf _ _) (zfr_I rfl)) (zfr_sub (m2 := 50388644945613033898929745046080559746032094679787112497152) rfl (fr_172 h7))
    by_cases hc11 : (gI s 195 ((gI s 177 40) - 1)) = 2
    · rw [if_pos hc11] at h
      cases h
      exact f10
    · rw [if_neg hc11] at h
      obtain ⟨hg12, h⟩ := zg_some h
      obtain ⟨r14, s15, h13, h⟩ := zb_some h
      have f16 := zfr_tr f10 (zfr_sub (m2 := 50388644945613033898929745046080559746032094679787112497152) rfl (fr_180 h13))
      cases h
      exact f16
  · rw [if_neg hc6] at h
    obtain ⟨hg17, h⟩ := zg_some h
    by_cases hc18 : (gI s 189 (gI (sI s 177 38 ((gI s 177 38) - 1)) 177 38)) = 30
    · rw [if_pos hc18] at h
      exact zfr_tr (zfr_tr (zfr_tr (zfr_rf _ _) (zfr_I rfl)) (zfr_I rfl)) (frj_179_130 h)
    · rw [if_neg hc18] at h
      by_cases hc19 : (gI s 189 (gI (sI s 177 38 ((gI s 177 38) - 1)) 177 38)) = 37
      · rw [if_pos hc19] at h
        exact zfr_tr (zfr_tr (zfr_tr (zfr_rf _ _) (zfr_I rfl)) (zfr_I rfl)) (frj_179_130 h)
      · rw [if_neg hc19] at h
        by_cases hc20 : (gI s 189 (gI (sI s 177 38 ((gI s 177 38) - 1)) 177 38)) = 32
        · rw [if_pos hc20] at h
          exact zfr_tr (zfr_tr (zfr_tr (zfr_rf _ _) (zfr_I rfl)) (zfr_I rfl)) (frj_179_130 h)
        · rw [if_neg hc20] at h
          exact zfr_tr (zfr_tr (zfr_tr (zfr_rf _ _) (zfr_I rfl)) (zfr_I rfl)) (frj_179_130 h)
theorem frb_177_0 {v1 : Int} {s : zS} {q : (zS) ⊕ ((zS) ⊕ (Int × zS))} (h : b_177_0 v1 s = some q) : zfr 50388644945613033898929745046080559746032094679787112497152 s (Sum.elim (fun e : (zS) => e) (fun t : ((zS) ⊕ (Int × zS)) => Sum.elim (fun e : (zS) => e) (fun q => q.2) t) q) := by
  unfold b_177_0 at h
  obtain ⟨r2, h1, h⟩ := zo_some h
  obtain ⟨r4, h3, h⟩ := zo_some h
  obtain ⟨hg5, h⟩ := zg_some h
  obtain ⟨hg6, h⟩ := zg_some h
  by_cases hc7 : r4 < v1
  · rw [if_pos hc7] at h
    cases h
    exact (zfr_rf _ _)
  · rw [if_neg hc7] at h
    obtain ⟨r9, h8, h⟩ := zo_some h
    obtain ⟨r11, h10, h⟩ := zo_some h
    obtain ⟨hg12, h⟩ := zg_some h
    by_cases hc13 : 10 < r11
    · rw [if_pos hc13] at h
      obtain ⟨r15, s16, h14, h⟩ := zb_some h
      have f17 := zfr_tr (zfr_rf _ _) (zfr_sub (m2 := 50388644945613033898929745046080559746032094679787112497152) rfl (fr_179 h14))
      obtain ⟨hg18, h⟩ := zg_some h
      by_cases hc19 : 0 < r15
      · rw [if_pos hc19] at h
        cases h
        exact f17
      · rw [if_neg hc19] at h
        cases h
        exact f17
    · rw [if_neg hc13] at h
      cases h
      exact (zfr_rf _ _)
theorem frl_177_0 {v1 : Int} {n : Nat} {e0 : (zS)} {t : ((zS) ⊕ (Int × zS))} (h : zlp (fun (q : zS) => b_177_0 v1 q) n e0 = some t) : zfr 50388644945613033898929745046080559746032094679787112497152 ((fun e : (zS) => e) e0) ((fun t : ((zS) ⊕ (Int × zS)) => Sum.elim (fun e : (zS) => e) (fun q => q.2) t) t) := zfr_lp (f := (fun e : (zS) => e)) (g := (fun t : ((zS) ⊕ (Int × zS)) => Sum.elim (fun e : (zS) => e) (fun q => q.2) t)) (fun e q h1 => frb_177_0 h1) n e0 t h
theorem fr_177 {v1 : Int} {s : zS} {q : (Int × zS)} (h : f_177 v1 s = some q) : zfr 50388644945613033898929745046080559746032094679787112497152 s q.2 := by
  unfold f_177 at h
  obtain ⟨e1, h2, h⟩ := zo_some h
  rcases e1 with e4 | q5
  · simp only [ze_l] at h
    have f3 : zfr 50388644945613033898929745046080559746032094679787112497152 s e4 := zfr_tr (zfr_rf _ _) (frl_177_0 h2)
    cases h
    exact f3
  · cases h
    exact zfr_tr (zfr_rf _ _) (frl_177_0 h2)
theorem frj_181_86 {s : zS} {q : (Int × zS)} (h : j_181_86 s = some q) : zfr 50388644945613033898929745046080559746032094679787112497152 s q.2 := by
  unfold j_181_86 at h
  obtain ⟨hg1, h⟩ := zg_some h
  by_cases hc2 : (gI s 195 ((gI s 177 40) - 1)) = 1
  · rw [if_pos hc2] at h
    cases h
    exact (zfr_rf _ _)
  · rw [if_neg hc2] at h
    obtain ⟨hg3, h⟩ := zg_some h
    obtain ⟨r5, s6, h4, h⟩ := zb_some h
    have f7 := zfr_tr (zfr_rf _ _) (zfr_sub (m2 := 50388644945613033898929745046080559746032094679787112497152) rfl (fr_180 h4))
    cases h
    exact f7
theorem fr_181 {s : zS} {q : (Int × zS)} (h : f_181 s = some q) : zfr 50388644945613033898929745046080559746032094679787112497152 s q.2 := by
  unfold f_181 at h
  obtain ⟨r2, s3, h1, h⟩ := zb_some h
  have f4 := zfr_tr (zfr_rf _ _) (zfr_sub (m2 := 50388644945613033898929745046080559746032094679787112497152) rfl (fr_177 h1))
  obtain ⟨hg5, h⟩ := zg_some h
  by_cases hc6 : 0 < r2
  · rw [if_pos hc6] at h
    cases h
    exact f4
  · rw [if_neg hc6] at h
    obtain ⟨r8, h7, h⟩ := zo_some h
    obtain ⟨hg9, h⟩ := zg_some h
    by_cases hc10 : r8 = 68
    · rw [if_pos hc10] at h
      obtain ⟨hg11, h⟩ := zg_some h
      obtain ⟨hg12, h⟩ := zg_some h
      by_cases hc13 : (gI s3 191 ((gI s3 177 38) - 1)) = (gI s3 195 ((gI s3 177 40) - 1))
      · rw [if_pos hc13] at h
        cases h
        exact f4
      · rw [if_neg hc13] at h
        obtain ⟨r15, s16, h14, h⟩ := zb_some h
        have f17 := zfr_tr f4 (zfr_sub (m2 := 50388644945613033898929745046080559746032094679787112497152) rfl (fr_180 h14))
        cases h
        exact f17
    · rw [if_neg hc10] at h
      obtain ⟨r19, h18, h⟩ := zo_some h
      obtain ⟨hg20, h⟩ := zg_some h
      by_cases hc21 : r19 = 62
      · rw [if_pos hc21] at h
        exact zfr_tr f4 (frj_181_86 h)
      · rw [if_neg hc21] at h
        obtain ⟨r23, h22, h⟩ := zo_some h
        obtain ⟨hg24, h⟩ := zg_some h
        by_cases hc25 : r23 = 64
        · rw [if_pos hc25] at h
          exact zfr_tr f4 (frj_181_86 h)
        · rw [if_neg hc25] at h
          cases h
          exact f4
theorem frj_176_132 {t1 : Int} {t2 : Int} {s : zS} {q : (Int × zS)} (h : j_176_132 t1 t2 s = some q) : zfr 99820821111783144914136586753840932772838143804941384286208 s q.2 := by
  unfold j_176_132 at h
  obtain ⟨hg1, h⟩ := zg_some h
  obtain ⟨hg2, h⟩ := zg_some h
  obtain ⟨r4, s5, h3, h⟩ := zb_some h
  have f6 := zfr_tr (zfr_tr (zfr_tr (zfr_tr (zfr_rf _ _) (zfr_I rfl)) (zfr_I rfl)) (zfr_I rfl)) (zfr_sub (m2 := 99820821111783144914136586753840932772838143804941384286208) rfl (fr_172 h3))
  cases h
  exact f6
theorem frj_176_109 {v2 : Int} {s : zS} {q : (Int × zS)} (h : j_176_109 v2 s = some q) : zfr 99820821111783144914136586753840932772838143804941384286208 s q.2 := by
  unfold j_176_109 at h
  obtain ⟨hg1, h⟩ := zg_some h
  by_cases hc2 : v2 = 62
  · rw [if_pos hc2] at h
    exact zfr_tr (zfr_rf _ _) (frj_176_132 h)
  · rw [if_neg hc2] at h
    exact zfr_tr (zfr_rf _ _) (frj_176_132 h)
theorem frj_176_200 {s : zS} {q : (Int × zS)} (h : j_176_200 s = some q) : zfr 99820821111783144914136586753840932772838143804941384286208 s q.2 := by
  unfold j_176_200 at h
  obtain ⟨r2, s3, h1, h⟩ := zb_some h
  have f4 := zfr_tr (zfr_tr (zfr_tr (zfr_rf _ _) (zfr_I rfl)) (zfr_I rfl)) (zfr_sub (m2 := 99820821111783144914136586753840932772838143804941384286208) rfl (fr_158 h1))
  cases h
  exact f4
theorem frj_182_33 {t1 : Int} {s : zS} {q : (Int × zS)} (h : j_182_33 t1 s = some q) : zfr 171831062519587788243429660419228417213251124074836393984 s q.2 := by
  unfold j_182_33 at h
  obtain ⟨r2, s3, h1, h⟩ := zb_some h
  have f4 := zfr_tr (zfr_rf _ _) (zfr_sub (m2 := 171831062519587788243429660419228417213251124074836393984) rfl (fr_172 h1))
  cases h
  exact (zfr_tr (zfr_tr f4 (zfr_I rfl)) (zfr_I rfl))
theorem fr_182 {s : zS} {q : (Int × zS)} (h : f_182 s = some q) : zfr 171831062519587788243429660419228417213251124074836393984 s q.2 := by
  unfold f_182 at h
  obtain ⟨r2, h1, h⟩ := zo_some h
  obtain ⟨hg3, h⟩ := zg_some h
  by_cases hc4 : r2 = 68
  · rw [if_pos hc4] at h
    obtain ⟨hg5, h⟩ := zg_some h
    by_cases hc6 : (gI s 193 ((gI s 177 38) - 1)) = 20
    · rw [if_pos hc6] at h
      exact zfr_tr (zfr_rf _ _) (frj_182_33 h)
    · rw [if_neg hc6] at h
      exact zfr_tr (zfr_rf _ _) (frj_182_33 h)
  · rw [if_neg hc4] at h
    obtain ⟨r8, h7, h⟩ := zo_some h
    obtain ⟨hg9, h⟩ := zg_some h
    by_cases hc10 : r8 = 106
    · rw [if_pos hc10] at h
      obtain ⟨hg11, h⟩ := zg_some h
      obtain ⟨r13, s14, h12, h⟩ := zb_some h
      have f15 := zfr_tr (zfr_rf _ _) (zfr_sub (m2 := 171831062519587788243429660419228417213251124074836393984) rfl (fr_172 h12))
      cases h
      exact (zfr_tr (zfr_tr f15 (zfr_I rfl)) (zfr_I rfl))
    · rw [if_neg hc10] at h
      cases h
      exact (zfr_rf _ _)
theorem fr_185 {s : zS} {q : (Unit × zS)} (h : f_185 s = some q) : zfr 171831062519587788243429660419228417213251124074836393984 s q.2 := by
  unfold f_185 at h
  obtain ⟨hg1, h⟩ := zg_some h
  obtain ⟨r3, s4, h2, h⟩ := zb_some h
  have f5 := zfr_tr (zfr_tr (zfr_rf _ _) (zfr_I rfl)) (zfr_sub (m2 := 171831062519587788243429660419228417213251124074836393984) rfl (fr_172 h2))
  cases h
  exact f5
theorem frb_184_0 {v1 : Int} {s : zS} {q : (zS) ⊕ (zS)} (h : b_184_0 v1 s = some q) : zfr 171831062519587788243429660419228417213251124074836393984 s (Sum.elim (fun e : (zS) => e) (fun e : (zS) => e) q) := by
  unfold b_184_0 at h
  obtain ⟨r2, h1, h⟩ := zo_some h
  obtain ⟨hg3, h⟩ := zg_some h
  by_cases hc4 : r2 = 15
  · rw [if_pos hc4] at h
    obtain ⟨r6, s7, h5, h⟩ := zb_some h
    have f8 := zfr_tr (zfr_rf _ _) (zfr_sub (m2 := 171831062519587788243429660419228417213251124074836393984) rfl (fr_185 h5))
    cases h
    exact f8
  · rw [if_neg hc4] at h
    obtain ⟨r10, h9, h⟩ := zo_some h
    obtain ⟨r12, h11, h⟩ := zo_some h
    obtain ⟨hg13, h⟩ := zg_some h
    by_cases hc14 : r12 = 0
    · rw [if_pos hc14] at h
      cases h
      exact (zfr_rf _ _)
    · rw [if_neg hc14] at h
      obtain ⟨r16, h15, h⟩ := zo_some h
      obtain ⟨r18, h17, h⟩ := zo_some h
      obtain ⟨hg19, h⟩ := zg_some h
      obtain ⟨hg20, h⟩ := zg_some h
      by_cases hc21 : r18 < v1
      · rw [if_pos hc21] at h
        cases h
        exact (zfr_rf _ _)
      · rw [if_neg hc21] at h
        obtain ⟨r23, s24, h22, h⟩ := zb_some h
        have f25 := zfr_tr (zfr_rf _ _) (zfr_sub (m2 := 171831062519587788243429660419228417213251124074836393984) rfl (fr_185 h22))
        cases h
        exact f25
theorem frl_184_0 {v1 : Int} {n : Nat} {e0 : (zS)} {t : (zS)} (h : zlp (fun (q : zS) => b_184_0 v1 q) n e0 = some t) : zfr 171831062519587788243429660419228417213251124074836393984 ((fun e : (zS) => e) e0) ((fun e : (zS) => e) t) := zfr_lp (f := (fun e : (zS) => e)) (g := (fun e : (zS) => e)) (fun e q h1 => frb_184_0 h1) n e0 t h
theorem fr_184 {v1 : Int} {s : zS} {q : (Unit × zS)} (h : f_184 v1 s = some q) : zfr 171831062519587788243429660419228417213251124074836393984 s q.2 := by
  unfold f_184 at h
  obtain ⟨e1, h2, h⟩ := zo_some h
  have f3 : zfr 171831062519587788243429660419228417213251124074836393984 s e1 := zfr_tr (zfr_rf _ _) (frl_184_0 h2)
  cases h
  exact f3
theorem fr_187 {s : zS} {q : (Unit × zS)} (h : f_187 s = some q) : zfr 171831062519587788243429660419228417213251124074836393984 s q.2 := by
  unfold f_187 at h
  obtain ⟨hg1, h⟩ := zg_some h
  obtain ⟨r3, s4, h2, h⟩ := zb_some h
  have f5 := zfr_tr (zfr_tr (zfr_rf _ _) (zfr_I rfl)) (zfr_sub (m2 := 171831062519587788243429660419228417213251124074836393984) rfl (fr_172 h2))
  obtain ⟨hg6, h⟩ := zg_some h
  obtain ⟨hg7, h⟩ := zg_some h
  cases h
  exact (zfr_tr f5 (zfr_I rfl))
theorem frj_186_2_25 {t0 : Int} {s : zS} {q : (Int × zS) ⊕ (zS)} (h : j_186_2_25 t0 s = some q) : zfr 171831062519587788243429660419228417213251124074836393984 s (Sum.elim (fun e : (Int × zS) => e.2) (fun e : (zS) => e) q) := by
  unfold j_186_2_25 at h
  obtain ⟨hg1, h⟩ := zg_some h
  by_cases hc2 : t0 = 0
  · rw [if_pos hc2] at h
    cases h
    exact (zfr_rf _ _)
  · rw [if_neg hc2] at h
    obtain ⟨r4, s5, h3, h⟩ := zb_some h
    have f6 := zfr_tr (zfr_rf _ _) (zfr_sub (m2 := 171831062519587788243429660419228417213251124074836393984) rfl (fr_187 h3))
    cases h
    exact f6
theorem frb_186_2 {v1 : Int} {s : zS} {q : (Int × zS) ⊕ (zS)} (h : b_186_2 v1 s = some q) : zfr 171831062519587788243429660419228417213251124074836393984 s (Sum.elim (fun e : (Int × zS) => e.2) (fun e : (zS) => e) q) := by
  unfold b_186_2 at h
  obtain ⟨hg1, h⟩ := zg_some h
  by_cases hc2 : v1 = 0
  · rw [if_pos hc2] at h
    cases h
    exact (zfr_rf _ _)
  · rw [if_neg hc2] at h
    obtain ⟨r4, s5, h3, h⟩ := zb_some h
    have f6 := zfr_tr (zfr_rf _ _) (zfr_sub (m2 := 171831062519587788243429660419228417213251124074836393984) rfl (fr_184 h3))
    obtain ⟨r8, h7, h⟩ := zo_some h
    obtain ⟨hg9, h⟩ := zg_some h
    by_cases hc10 : r8 = 63
    · rw [if_pos hc10] at h
      exact zfr_tr f6 (frj_186_2_25 h)
    · rw [if_neg hc10] at h
      exact zfr_tr f6 (frj_186_2_25 h)
theorem frl_186_2 {n : Nat} {e0 : (Int × zS)} {t : (zS)} (h : zlp (fun (q : Int × zS) => b_186_2 q.1 q.2) n e0 = some t) : zfr 171831062519587788243429660419228417213251124074836393984 ((fun e : (Int × zS) => e.2) e0) ((fun e : (zS) => e) t) := zfr_lp (f := (fun e : (Int × zS) => e.2)) (g := (fun e : (zS) => e)) (fun e q h1 => frb_186_2 h1) n e0 t h
theorem fr_186 {s : zS} {q : (Unit × zS)} (h : f_186 s = some q) : zfr 171831062519587788243429660419228417213251124074836393984 s q.2 := by
  unfold f_186 at h
  obtain ⟨e1, h2, h⟩ := zo_some h
  have f3 : zfr 171831062519587788243429660419228417213251124074836393984 s e1 := zfr_tr (zfr_rf _ _) (frl_186_2 h2)
  cases h
  exact f3
theorem frj_183_81 {v1 : Int} {s : zS} {q : (Int × zS)} (h : j_183_81 v1 s = some q) : zfr 99820821111783144914136586753840932772838143804941384286208 s q.2 := by
  unfold j_183_81 at h
  by_cases hc1 : (gI s 177 27) = 50
  · rw [if_pos hc1] at h
    obtain ⟨hg2, h⟩ := zg_some h
    by_cases hc3 : v1 = 65
    · rw [if_pos hc3] at h
      obtain ⟨r5, s6, h4, h⟩ := zb_some h
      have f7 := zfr_tr (zfr_rf _ _) (zfr_sub (m2 := 99820821111783144914136586753840932772838143804941384286208) rfl (fr_187 h4))
      obtain ⟨hg8, h⟩ := zg_some h
      cases h
      exact (zfr_tr (zfr_tr f7 (zfr_I rfl)) (zfr_I rfl))
    · rw [if_neg hc3] at h
      by_cases hc9 : v1 = 60
      · rw [if_pos hc9] at h
        by_cases hc10 : (gI s 177 27) = 0
        · rw [if_pos hc10] at h
          cases h
          exact (zfr_rf _ _)
        · rw [if_neg hc10] at h
          cases h
          exact (zfr_rf _ _)
      · rw [if_neg hc9] at h
        cases h
        exact (zfr_rf _ _)
  · rw [if_neg hc1] at h
    obtain ⟨hg11, h⟩ := zg_some h
    by_cases hc12 : v1 = 60
    · rw [if_pos hc12] at h
      by_cases hc13 : (gI s 177 27) = 0
      · rw [if_pos hc13] at h
        cases h
        exact (zfr_rf _ _)
      · rw [if_neg hc13] at h
        cases h
        exact (zfr_rf _ _)
    · rw [if_neg hc12] at h
      cases h
      exact (zfr_rf _ _)
theorem frj_183_31 {t1 : Int} {s : zS} {q : (Int × zS)} (h : j_183_31 t1 s = some q) : zfr 99820821111783144914136586753840932772838143804941384286208 s q.2 := by
  unfold j_183_31 at h
  obtain ⟨r2, s3, h1, h⟩ := zb_some h
  have f4 := zfr_tr (zfr_rf _ _) (zfr_sub (m2 := 99820821111783144914136586753840932772838143804941384286208) rfl (fr_184 h1))
  obtain ⟨r6, s7, h5, h⟩ := zb_some h
  have f8 := zfr_tr f4 (zfr_sub (m2 := 99820821111783144914136586753840932772838143804941384286208) rfl (fr_158 h5))
  cases h
  exact f8
theorem fr_183 {s : zS} {q : (Int × zS)} (h : f_183 s = some q) : zfr 99820821111783144914136586753840932772838143804941384286208 s q.2 := by
  unfold f_183 at h
  obtain ⟨r2, h1, h⟩ := zo_some h
  obtain ⟨hg3, h⟩ := zg_some h
  by_cases hc4 : r2 = 0
  · rw [if_pos hc4] at h
    obtain ⟨r6, s7, h5, h⟩ := zb_some h
    have f8 := zfr_tr (zfr_rf _ _) (zfr_sub (m2 := 99820821111783144914136586753840932772838143804941384286208) rfl (fr_186 h5))
    obtain ⟨r10, h9, h⟩ := zo_some h
    by_cases hc11 : (gI s7 177 27) = 48
    · rw [if_pos hc11] at h
      obtain ⟨hg12, h⟩ := zg_some h
      by_cases hc13 : r10 = 47
      · rw [if_pos hc13] at h
        cases h
        exact (zfr_tr f8 (zfr_I rfl))
      · rw [if_neg hc13] at h
        exact zfr_tr f8 (frj_183_81 h)
    · rw [if_neg hc11] at h
      exact zfr_tr f8 (frj_183_81 h)
  · rw [if_neg hc4] at h
    by_cases hc14 : (gI s 177 27) = 18
    · rw [if_pos hc14] at h
      exact zfr_tr (zfr_rf _ _) (frj_183_31 h)
    · rw [if_neg hc14] at h
      obtain ⟨r16, h15, h⟩ := zo_some h
      exact zfr_tr (zfr_rf _ _) (frj_183_31 h)
theorem frj_176_302 {v2 : Int} {s : zS} {q : (Int × zS)} (h : j_176_302 v2 s = some q) : zfr 99820821111783144914136586753840932772838143804941384286208 s q.2 := by
  unfold j_176_302 at h
  obtain ⟨hg1, h⟩ := zg_some h
  by_cases hc2 : v2 = 61
  · rw [if_pos hc2] at h
    by_cases hc3 : (gI s 177 27) = 0
    · rw [if_pos hc3] at h
      cases h
      exact (zfr_rf _ _)
    · rw [if_neg hc3] at h
      cases h
      exact (zfr_rf _ _)
  · rw [if_neg hc2] at h
    obtain ⟨r5, s6, h4, h⟩ := zb_some h
    have f7 := zfr_tr (zfr_rf _ _) (zfr_sub (m2 := 99820821111783144914136586753840932772838143804941384286208) rfl (fr_182 h4))
    obtain ⟨hg8, h⟩ := zg_some h
    by_cases hc9 : r5 = 0
    · rw [if_pos hc9] at h
      cases h
      exact f7
    · rw [if_neg hc9] at h
      obtain ⟨r11, s12, h10, h⟩ := zb_some h
      have f13 := zfr_tr f7 (zfr_sub (m2 := 99820821111783144914136586753840932772838143804941384286208) rfl (fr_183 h10))
      cases h
      exact f13
theorem frj_176_251 {v2 : Int} {s : zS} {q : (Int × zS)} (h : j_176_251 v2 s = some q) : zfr 99820821111783144914136586753840932772838143804941384286208 s q.2 := by
  unfold j_176_251 at h
  obtain ⟨r2, h1, h⟩ := zo_some h
  obtain ⟨hg3, h⟩ := zg_some h
  by_cases hc4 : r2 = 0
  · rw [if_pos hc4] at h
    exact zfr_tr (zfr_rf _ _) (frj_176_302 h)
  · rw [if_neg hc4] at h
    obtain ⟨r6, s7, h5, h⟩ := zb_some h
    have f8 := zfr_tr (zfr_rf _ _) (zfr_sub (m2 := 99820821111783144914136586753840932772838143804941384286208) rfl (fr_158 h5))
    obtain ⟨hg9, h⟩ := zg_some h
    obtain ⟨hg10, h⟩ := zg_some h
    cases h
    exact (zfr_tr (zfr_tr f8 (zfr_I rfl)) (zfr_I rfl))
theorem frj_176_233 {v2 : Int} {s : zS} {q : (Int × zS)} (h : j_176_233 v2 s = some q) : zfr 99820821111783144914136586753840932772838143804941384286208 s q.2 := by
  unfold j_176_233 at h
  by_cases hc1 : (gI s 177 27) = 20
  · rw [if_pos hc1] at h
    exact zfr_tr (zfr_rf _ _) (frj_176_251 h)
  · rw [if_neg hc1] at h
    by_cases hc2 : (gI s 177 27) = 42
    · rw [if_pos hc2] at h
      exact zfr_tr (zfr_rf _ _) (frj_176_251 h)
    · rw [if_neg hc2] at h
      exact zfr_tr (zfr_rf _ _) (frj_176_302 h)
theorem frj_176_167 {v2 : Int} {s : zS} {q : (Int × zS)} (h : j_176_167 v2 s = some q) : zfr 99820821111783144914136586753840932772838143804941384286208 s q.2 := by
  unfold j_176_167 at h
  obtain ⟨hg1, h⟩ := zg_some h
  by_cases hc2 : v2 = 66
  · rw [if_pos hc2] at h
    by_cases hc3 : (gI s 177 27) = 42
    · rw [if_pos hc3] at h
      exact zfr_tr (zfr_rf _ _) (frj_176_200 h)
    · rw [if_neg hc3] at h
      by_cases hc4 : (gI s 177 27) = 43
      · rw [if_pos hc4] at h
        exact zfr_tr (zfr_rf _ _) (frj_176_200 h)
      · rw [if_neg hc4] at h
        by_cases hc5 : (gI s 177 27) = 44
        · rw [if_pos hc5] at h
          exact zfr_tr (zfr_rf _ _) (frj_176_200 h)
        · rw [if_neg hc5] at h
          exact zfr_tr (zfr_rf _ _) (frj_176_233 h)
  · rw [if_neg hc2] at h
    exact zfr_tr (zfr_rf _ _) (frj_176_233 h)
theorem frj_176_88 {v2 : Int} {s : zS} {q : (Int × zS)} (h : j_176_88 v2 s = some q) : zfr 99820821111783144914136586753840932772838143804941384286208 s q.2 := by
  unfold j_176_88 at h
  by_cases hc1 : (gI s 177 27) = 52
  · rw [if_pos hc1] at h
    obtain ⟨hg2, h⟩ := zg_some h
    by_cases hc3 : v2 = 62
    · rw [if_pos hc3] at h
      exact zfr_tr (zfr_rf _ _) (frj_176_109 h)
    · rw [if_neg hc3] at h
      by_cases hc4 : v2 = 64
      · rw [if_pos hc4] at h
        exact zfr_tr (zfr_rf _ _) (frj_176_109 h)
      · rw [if_neg hc4] at h
        exact zfr_tr (zfr_rf _ _) (frj_176_167 h)
  · rw [if_neg hc1] at h
    exact zfr_tr (zfr_rf _ _) (frj_176_167 h)
theorem fr_176 {s : zS} {q : (Int × zS)} (h : f_176 s = some q) : zfr 99820821111783144914136586753840932772838143804941384286208 s q.2 := by
  unfold f_176 at h
  obtain ⟨r2, h1, h⟩ := zo_some h
  obtain ⟨hg3, h⟩ := zg_some h
  by_cases hc4 : r2 = 0
  · rw [if_pos hc4] at h
    obtain ⟨r6, s7, h5, h⟩ := zb_some h
    have f8 := zfr_tr (zfr_rf _ _) (zfr_sub (m2 := 99820821111783144914136586753840932772838143804941384286208) rfl (fr_181 h5))
    obtain ⟨hg9, h⟩ := zg_some h
    by_cases hc10 : 0 < r6
    · rw [if_pos hc10] at h
      cases h
      exact f8
    · rw [if_neg hc10] at h
      obtain ⟨r12, h11, h⟩ := zo_some h
      by_cases hc13 : (gI s7 177 27) = 46
      · rw [if_pos hc13] at h
        obtain ⟨hg14, h⟩ := zg_some h
        by_cases hc15 : r12 = 45
        · rw [if_pos hc15] at h
          cases h
          exact (zfr_tr f8 (zfr_I rfl))
        · rw [if_neg hc15] at h
          exact zfr_tr f8 (frj_176_88 h)
      · rw [if_neg hc13] at h
        exact zfr_tr f8 (frj_176_88 h)
  · rw [if_neg hc4] at h
    obtain ⟨r17, h16, h⟩ := zo_some h
    obtain ⟨r19, s20, h18, h⟩ := zb_some h
    have f21 := zfr_tr (zfr_rf _ _) (zfr_sub (m2 := 99820821111783144914136586753840932772838143804941384286208) rfl (fr_177 h18))
    obtain ⟨hg22, h⟩ := zg_some h
    by_cases hc23 : 0 < r19
    · rw [if_pos hc23] at h
      cases h
      exact f21
    · rw [if_neg hc23] at h
      obtain ⟨r25, s26, h24, h⟩ := zb_some h
      have f27 := zfr_tr f21 (zfr_sub (m2 := 99820821111783144914136586753840932772838143804941384286208) rfl (fr_158 h24))
      cases h
      exact f27
theorem frj_188_46 {v1 : Int} {s : zS} {q : (Int × zS)} (h : j_188_46 v1 s = some q) : zfr 25280238004066310843586587353249894081622672901930974445568 s q.2 := by
  unfold j_188_46 at h
  obtain ⟨hg1, h⟩ := zg_some h
  by_cases hc2 : v1 = 6
  · rw [if_pos hc2] at h
    by_cases hc3 : (gI s 177 27) = 2
    · rw [if_pos hc3] at h
      obtain ⟨hg4, h⟩ := zg_some h
      obtain ⟨r6, s7, h5, h⟩ := zb_some h
      have f8 := zfr_tr (zfr_rf _ _) (zfr_sub (m2 := 25280238004066310843586587353249894081622672901930974445568) rfl (fr_172 h5))
      cases h
      exact (zfr_tr f8 (zfr_I rfl))
    · rw [if_neg hc3] at h
      cases h
      exact (zfr_rf _ _)
  · rw [if_neg hc2] at h
    cases h
    exact (zfr_rf _ _)
theorem frj_188_30 {v1 : Int} {s : zS} {q : (Int × zS)} (h : j_188_30 v1 s = some q) : zfr 25280238004066310843586587353249894081622672901930974445568 s q.2 := by
  unfold j_188_30 at h
  obtain ⟨hg1, h⟩ := zg_some h
  by_cases hc2 : v1 = 5
  · rw [if_pos hc2] at h
    by_cases hc3 : (gI s 177 27) = 51
    · rw [if_pos hc3] at h
      cases h
      exact (zfr_rf _ _)
    · rw [if_neg hc3] at h
      exact zfr_tr (zfr_rf _ _) (frj_188_46 h)
  · rw [if_neg hc2] at h
    exact zfr_tr (zfr_rf _ _) (frj_188_46 h)
theorem fr_188 {v1 : Int} {s : zS} {q : (Int × zS)} (h : f_188 v1 s = some q) : zfr 25280238004066310843586587353249894081622672901930974445568 s q.2 := by
  unfold f_188 at h
  obtain ⟨hg1, h⟩ := zg_some h
  by_cases hc2 : v1 = 4
  · rw [if_pos hc2] at h
    by_cases hc3 : (gI s 177 27) = 1
    · rw [if_pos hc3] at h
      obtain ⟨hg4, h⟩ := zg_some h
      cases h
      exact (zfr_tr (zfr_rf _ _) (zfr_J rfl))
    · rw [if_neg hc3] at h
      exact zfr_tr (zfr_rf _ _) (frj_188_30 h)
  · rw [if_neg hc2] at h
    exact zfr_tr (zfr_rf _ _) (frj_188_30 h)
theorem fr_170 {v1 : Int} {s : zS} {q : (Int × zS)} (h : f_170 v1 s = some q) : zfr 99820821111783144914136586753840932772838143804941384286208 s q.2 := by
  unfold f_170 at h
  obtain ⟨hg1, h⟩ := zg_some h
  by_cases hc2 : t_170_1 v1 = 32
  · rw [if_pos hc2] at h
    obtain ⟨r4, s5, h3, h⟩ := zb_some h
    have f6 := zfr_tr (zfr_rf _ _) (zfr_sub (m2 := 99820821111783144914136586753840932772838143804941384286208) rfl (fr_171 h3))
    cases h
    exact f6
  · rw [if_neg hc2] at h
    by_cases hc7 : t_170_1 v1 = 37
    · rw [if_pos hc7] at h
      obtain ⟨r9, s10, h8, h⟩ := zb_some h
      have f11 := zfr_tr (zfr_rf _ _) (zfr_sub (m2 := 99820821111783144914136586753840932772838143804941384286208) rfl (fr_174 h8))
      cases h
      exact f11
    · rw [if_neg hc7] at h
      by_cases hc12 : t_170_1 v1 = 42
      · rw [if_pos hc12] at h
        obtain ⟨r14, s15, h13, h⟩ := zb_some h
        have f16 := zfr_tr (zfr_rf _ _) (zfr_sub (m2 := 99820821111783144914136586753840932772838143804941384286208) rfl (fr_176 h13))
        cases h
        exact f16
      · rw [if_neg hc12] at h
        by_cases hc17 : t_170_1 v1 = 47
        · rw [if_pos hc17] at h
          obtain ⟨r19, s20, h18, h⟩ := zb_some h
          have f21 := zfr_tr (zfr_rf _ _) (zfr_sub (m2 := 99820821111783144914136586753840932772838143804941384286208) rfl (fr_183 h18))
          cases h
          exact f21
        · rw [if_neg hc17] at h
          by_cases hc22 : t_170_1 v1 = 52
          · rw [if_pos hc22] at h
            obtain ⟨r24, s25, h23, h⟩ := zb_some h
            have f26 := zfr_tr (zfr_rf _ _) (zfr_sub (m2 := 99820821111783144914136586753840932772838143804941384286208) rfl (fr_188 h23))
            cases h
            exact f26
          · rw [if_neg hc22] at h
            cases h
theorem frj_157_56_122 {v2 : Int} {s : zS} {q : (Int × zS) ⊕ ((Int × zS) ⊕ (Int × zS))} (h : j_157_56_122 v2 s = some q) : zfr 99820821111783144914136586753840932772838143804941384286208 s (Sum.elim (fun e : (Int × zS) => e.2) (fun t : ((Int × zS) ⊕ (Int × zS)) => Sum.elim (fun e : (Int × zS) => e.2) (fun q => q.2) t) q) := by
  unfold j_157_56_122 at h
  obtain ⟨r2, s3, h1, h⟩ := zb_some h
  have f4 := zfr_tr (zfr_rf _ _) (zfr_sub (m2 := 99820821111783144914136586753840932772838143804941384286208) rfl (fr_170 h1))
  obtain ⟨hg5, h⟩ := zg_some h
  by_cases hc6 : r2 = 105
  · rw [if_pos hc6] at h
    cases h
    exact (zfr_tr f4 (zfr_I rfl))
  · rw [if_neg hc6] at h
    cases h
    exact (zfr_tr f4 (zfr_I rfl))
theorem frb_157_56 {v2 : Int} {s : zS} {q : (Int × zS) ⊕ ((Int × zS) ⊕ (Int × zS))} (h : b_157_56 v2 s = some q) : zfr 99820821111783144914136586753840932772838143804941384286208 s (Sum.elim (fun e : (Int × zS) => e.2) (fun t : ((Int × zS) ⊕ (Int × zS)) => Sum.elim (fun e : (Int × zS) => e.2) (fun q => q.2) t) q) := by
  unfold b_157_56 at h
  obtain ⟨hg1, h⟩ := zg_some h
  by_cases hc2 : v2 < 100
  · rw [if_pos hc2] at h
    obtain ⟨r4, s5, h3, h⟩ := zb_some h
    have f6 := zfr_tr (zfr_rf _ _) (zfr_sub (m2 := 99820821111783144914136586753840932772838143804941384286208) rfl (fr_159 h3))
    by_cases hc7 : (gI s5 177 27) = 3
    · rw [if_pos hc7] at h
      cases h
      exact (zfr_tr f6 (zfr_I rfl))
    · rw [if_neg hc7] at h
      by_cases hc8 : (gI s5 177 27) = 0
      · rw [if_pos hc8] at h
        exact zfr_tr (zfr_tr f6 (zfr_I rfl)) (frj_157_56_122 h)
      · rw [if_neg hc8] at h
        by_cases hc9 : 200 < (gI (sI (sI s5 177 5 (gI s5 177 28)) 177 31 ((gI s5 177 31) + 1)) 177 31)
        · rw [if_pos hc9] at h
          cases h
          exact (zfr_tr (zfr_tr f6 (zfr_I rfl)) (zfr_I rfl))
        · rw [if_neg hc9] at h
          obtain ⟨r11, h10, h⟩ := zo_some h
          obtain ⟨hg12, h⟩ := zg_some h
          by_cases hc13 : r11 = 0
          · rw [if_pos hc13] at h
            exact zfr_tr (zfr_tr (zfr_tr f6 (zfr_I rfl)) (zfr_I rfl)) (frj_157_56_122 h)
          · rw [if_neg hc13] at h
            cases h
            exact (zfr_tr (zfr_tr f6 (zfr_I rfl)) (zfr_I rfl))
  · rw [if_neg hc2] at h
    cases h
    exact (zfr_rf _ _)
theorem frl_157_56 {n : Nat} {e0 : (Int × zS)} {t : ((Int × zS) ⊕ (Int × zS))} (h : zlp (fun (q : Int × zS) => b_157_56 q.1 q.2) n e0 = some t) : zfr 99820821111783144914136586753840932772838143804941384286208 ((fun e : (Int × zS) => e.2) e0) ((fun t : ((Int × zS) ⊕ (Int × zS)) => Sum.elim (fun e : (Int × zS) => e.2) (fun q => q.2) t) t) := zfr_lp (f := (fun e : (Int × zS) => e.2)) (g := (fun t : ((Int × zS) ⊕ (Int × zS)) => Sum.elim (fun e : (Int × zS) => e.2) (fun q => q.2) t)) (fun e q h1 => frb_157_56 h1) n e0 t h
theorem frj_157_55 {t0 : Int} {s : zS} {q : (Int × zS)} (h : j_157_55 t0 s = some q) : zfr 99820821111783144914136586753840932772838143804941384286208 s q.2 := by
  unfold j_157_55 at h
  obtain ⟨e1, h2, h⟩ := zo_some h
  rcases e1 with e4 | q5
  · simp only [ze_l] at h
    have f3 : zfr 99820821111783144914136586753840932772838143804941384286208 s e4.2 := zfr_tr (zfr_rf _ _) (frl_157_56 h2)
    obtain ⟨hg6, h⟩ := zg_some h
    by_cases hc7 : (e4.1 - 100) = 3
    · rw [if_pos hc7] at h
      by_cases hc8 : (gI e4.2 177 27) = 0
      · rw [if_pos hc8] at h
        cases h
        exact f3
      · rw [if_neg hc8] at h
        cases h
        exact f3
    · rw [if_neg hc7] at h
      cases h
      exact f3
  · cases h
    exact zfr_tr (zfr_rf _ _) (frl_157_56 h2)
theorem frj_157_42 {v1 : Int} {t1 : Int} {s : zS} {q : (Int × zS)} (h : j_157_42 v1 t1 s = some q) : zfr 99820821111783144914136586753840932772838143804941384286208 s q.2 := by
  unfold j_157_42 at h
  obtain ⟨r2, s3, h1, h⟩ := zb_some h
  have f4 := zfr_tr (zfr_rf _ _) (zfr_sub (m2 := 99820821111783144914136586753840932772838143804941384286208) rfl (fr_158 h1))
  obtain ⟨hg5, h⟩ := zg_some h
  by_cases hc6 : v1 = 0
  · rw [if_pos hc6] at h
    exact zfr_tr f4 (frj_157_55 h)
  · rw [if_neg hc6] at h
    exact zfr_tr f4 (frj_157_55 h)
theorem fr_157 {v1 : Int} {s : zS} {q : (Int × zS)} (h : f_157 v1 s = some q) : zfr 99820821111783144914136586753840932772838143804941384286208 s q.2 := by
  unfold f_157 at h
  obtain ⟨hg1, h⟩ := zg_some h
  by_cases hc2 : v1 = 0
  · rw [if_pos hc2] at h
    exact zfr_tr (zfr_tr (zfr_tr (zfr_tr (zfr_tr (zfr_tr (zfr_tr (zfr_rf _ _) (zfr_I rfl)) (zfr_I rfl)) (zfr_I rfl)) (zfr_I rfl)) (zfr_I rfl)) (zfr_I rfl)) (frj_157_42 h)
  · rw [if_neg hc2] at h
    exact zfr_tr (zfr_tr (zfr_tr (zfr_tr (zfr_tr (zfr_tr (zfr_tr (zfr_rf _ _) (zfr_I rfl)) (zfr_I rfl)) (zfr_I rfl)) (zfr_I rfl)) (zfr_I rfl)) (zfr_I rfl)) (frj_157_42 h)
theorem frj_156_25 {t1 : Int} {s : zS} {q : (Int × zS)} (h : j_156_25 t1 s = some q) : zfr 100016980541013978688006455173316172348341342412580885364736 s q.2 := by
  unfold j_156_25 at h
  by_cases hc1 : (gI s 177 4) = 0
  · rw [if_pos hc1] at h
    cases h
    exact (zfr_tr (zfr_tr (zfr_tr (zfr_tr (zfr_rf _ _) (zfr_I rfl)) (zfr_I rfl)) (zfr_I rfl)) (zfr_I rfl))
  · rw [if_neg hc1] at h
    cases h
    exact (zfr_tr (zfr_tr (zfr_tr (zfr_tr (zfr_rf _ _) (zfr_I rfl)) (zfr_I rfl)) (zfr_I rfl)) (zfr_I rfl))
theorem fr_156 {v1 : Int} {s : zS} {q : (Int × zS)} (h : f_156 v1 s = some q) : zfr 100016980541013978688006455173316172348341342412580885364736 s q.2 := by
  unfold f_156 at h
  obtain ⟨r2, s3, h1, h⟩ := zb_some h
  have f4 := zfr_tr (zfr_rf _ _) (zfr_sub (m2 := 100016980541013978688006455173316172348341342412580885364736) rfl (fr_157 h1))
  by_cases hc5 : (gI (sI s3 177 4 r2) 177 4) = 0
  · rw [if_pos hc5] at h
    exact zfr_tr (zfr_tr f4 (zfr_I rfl)) (frj_156_25 h)
  · rw [if_neg hc5] at h
    exact zfr_tr (zfr_tr f4 (zfr_I rfl)) (frj_156_25 h)
theorem frb_189_2 {v1 : Int} {v2 : Int} {s : zS} {q : (Int × zS) ⊕ (zS)} (h : b_189_2 v1 v2 s = some q) : zfr 367798929807813326006003286516074204068497389324064522240 s (Sum.elim (fun e : (Int × zS) => e.2) (fun e : (zS) => e) q) := by
  unfold b_189_2 at h
  obtain ⟨hg1, h⟩ := zg_some h
  by_cases hc2 : v2 < (gI s 177 41)
  · rw [if_pos hc2] at h
    obtain ⟨hg3, h⟩ := zg_some h
    obtain ⟨hg4, h⟩ := zg_some h
    cases h
    exact (zfr_tr (zfr_tr (zfr_tr (zfr_rf _ _) (zfr_I rfl)) (zfr_I rfl)) (zfr_I rfl))
  · rw [if_neg hc2] at h
    cases h
    exact (zfr_rf _ _)
theorem frl_189_2 {v1 : Int} {n : Nat} {e0 : (Int × zS)} {t : (zS)} (h : zlp (fun (q : Int × zS) => b_189_2 v1 q.1 q.2) n e0 = some t) : zfr 367798929807813326006003286516074204068497389324064522240 ((fun e : (Int × zS) => e.2) e0) ((fun e : (zS) => e) t) := zfr_lp (f := (fun e : (Int × zS) => e.2)) (g := (fun e : (zS) => e)) (fun e q h1 => frb_189_2 h1) n e0 t h
theorem fr_189 {v1 : Int} {s : zS} {q : (Unit × zS)} (h : f_189 v1 s = some q) : zfr 367798929807813326006003286516074204068497389324064522240 s q.2 := by
  unfold f_189 at h
  obtain ⟨e1, h2, h⟩ := zo_some h
  have f3 : zfr 367798929807813326006003286516074204068497389324064522240 s e1 := zfr_tr (zfr_rf _ _) (frl_189_2 h2)
  obtain ⟨hg4, h⟩ := zg_some h
  cases h
  exact (zfr_tr f3 (zfr_I rfl))
theorem frj_155_15 {t1 : Int} {s : zS} {q : (Int × zS)} (h : j_155_15 t1 s = some q) : zfr 100409299399475646235746192012266651499347739627859887521792 s q.2 := by
  unfold j_155_15 at h
  by_cases hc1 : 0 < (gI (sI s 177 0 t1) 177 0)
  · rw [if_pos hc1] at h
    cases h
    exact (zfr_tr (zfr_tr (zfr_rf _ _) (zfr_I rfl)) (zfr_I rfl))
  · rw [if_neg hc1] at h
    obtain ⟨r3, s4, h2, h⟩ := zb_some h
    have f5 := zfr_tr (zfr_tr (zfr_rf _ _) (zfr_I rfl)) (zfr_sub (m2 := 100409299399475646235746192012266651499347739627859887521792) rfl (fr_156 h2))
    obtain ⟨hg6, h⟩ := zg_some h
    by_cases hc7 : r3 = 0
    · rw [if_pos hc7] at h
      cases h
      exact f5
    · rw [if_neg hc7] at h
      obtain ⟨r9, s10, h8, h⟩ := zb_some h
      have f11 := zfr_tr f5 (zfr_sub (m2 := 100409299399475646235746192012266651499347739627859887521792) rfl (fr_189 h8))
      obtain ⟨hg12, h⟩ := zg_some h
      cases h
      exact (zfr_tr (zfr_tr (zfr_tr f11 (zfr_I rfl)) (zfr_I rfl)) (zfr_I rfl))
theorem fr_155 {s : zS} {q : (Int × zS)} (h : f_155 s = some q) : zfr 100409299399475646235746192012266651499347739627859887521792 s q.2 := by
  unfold f_155 at h
  by_cases hc1 : (gI s 177 18) = 16
  · rw [if_pos hc1] at h
    exact zfr_tr (zfr_rf _ _) (frj_155_15 h)
  · rw [if_neg hc1] at h
    exact zfr_tr (zfr_rf _ _) (frj_155_15 h)
theorem frj_190_13 {t1 : Int} {s : zS} {q : (Int × zS)} (h : j_190_13 t1 s = some q) : zfr 191561942608236107294793378393788647952342390272950272 s q.2 := by
  unfold j_190_13 at h
  by_cases hc1 : 0 < (gI (sI s 177 0 t1) 177 0)
  · rw [if_pos hc1] at h
    cases h
    exact (zfr_tr (zfr_rf _ _) (zfr_I rfl))
  · rw [if_neg hc1] at h
    cases h
    exact (zfr_tr (zfr_tr (zfr_tr (zfr_rf _ _) (zfr_I rfl)) (zfr_I rfl)) (zfr_I rfl))
theorem fr_190 {s : zS} {q : (Int × zS)} (h : f_190 s = some q) : zfr 191561942608236107294793378393788647952342390272950272 s q.2 := by
  unfold f_190 at h
  by_cases hc1 : (gI s 177 18) = 0
  · rw [if_pos hc1] at h
    exact zfr_tr (zfr_rf _ _) (frj_190_13 h)
  · rw [if_neg hc1] at h
    exact zfr_tr (zfr_rf _ _) (frj_190_13 h)
theorem fr_191 {s : zS} {q : (Int × zS)} (h : f_191 s = some q) : zfr 100016980541013978688006455173316172348341342412580885364736 s q.2 := by
  unfold f_191 at h
  obtain ⟨r2, s3, h1, h⟩ := zb_some h
  have f4 := zfr_tr (zfr_tr (zfr_rf _ _) (zfr_I rfl)) (zfr_sub (m2 := 100016980541013978688006455173316172348341342412580885364736) rfl (fr_156 h1))
  obtain ⟨hg5, h⟩ := zg_some h
  by_cases hc6 : r2 = 0
  · rw [if_pos hc6] at h
    cases h
    exact f4
  · rw [if_neg hc6] at h
    obtain ⟨r8, s9, h7, h⟩ := zb_some h
    have f10 := zfr_tr f4 (zfr_sub (m2 := 100016980541013978688006455173316172348341342412580885364736) rfl (fr_189 h7))
    cases h
    exact (zfr_tr (zfr_tr f10 (zfr_I rfl)) (zfr_I rfl))
theorem frb_195_2 {v1 : Int} {v2 : Int} {s : zS} {q : (Int × zS) ⊕ (zS)} (h : b_195_2 v1 v2 s = some q) : zfr 301300883298560676664117892313967987972913061334273656619008 s (Sum.elim (fun e : (Int × zS) => e.2) (fun e : (zS) => e) q) := by
  unfold b_195_2 at h
  obtain ⟨hg1, h⟩ := zg_some h
  by_cases hc2 : v2 < (gI s 177 10)
  · rw [if_pos hc2] at h
    obtain ⟨hg3, h⟩ := zg_some h
    cases h
    exact (zfr_tr (zfr_tr (zfr_rf _ _) (zfr_J rfl)) (zfr_J rfl))
  · rw [if_neg hc2] at h
    cases h
    exact (zfr_rf _ _)
theorem frl_195_2 {v1 : Int} {n : Nat} {e0 : (Int × zS)} {t : (zS)} (h : zlp (fun (q : Int × zS) => b_195_2 v1 q.1 q.2) n e0 = some t) : zfr 301300883298560676664117892313967987972913061334273656619008 ((fun e : (Int × zS) => e.2) e0) ((fun e : (zS) => e) t) := zfr_lp (f := (fun e : (Int × zS) => e.2)) (g := (fun e : (zS) => e)) (fun e q h1 => frb_195_2 h1) n e0 t h
theorem fr_196 {v1 : Int} {v2 : Int} {s : zS} {q : (Unit × zS)} (h : f_196 v1 v2 s = some q) : zfr 301300883298560676664117892313967987972913061334273656619008 s q.2 := by
  unfold f_196 at h
  obtain ⟨hg1, h⟩ := zg_some h
  by_cases hc2 : v2 < 64
  · rw [if_pos hc2] at h
    obtain ⟨hg3, h⟩ := zg_some h
    cases h
    exact (zfr_tr (zfr_rf _ _) (zfr_J rfl))
  · rw [if_neg hc2] at h
    obtain ⟨hg4, h⟩ := zg_some h
    obtain ⟨hg5, h⟩ := zg_some h
    cases h
    exact (zfr_tr (zfr_rf _ _) (zfr_J rfl))
theorem frb_195_32 {v1 : Int} {v2 : Int} {s : zS} {q : (Int × zS) ⊕ (zS)} (h : b_195_32 v1 v2 s = some q) : zfr 301300883298560676664117892313967987972913061334273656619008 s (Sum.elim (fun e : (Int × zS) => e.2) (fun e : (zS) => e) q) := by
  unfold b_195_32 at h
  obtain ⟨hg1, h⟩ := zg_some h
  obtain ⟨hg2, h⟩ := zg_some h
  by_cases hc3 : v2 < (125 * (gI s 177 10))
  · rw [if_pos hc3] at h
    obtain ⟨hg4, h⟩ := zg_some h
    by_cases hc5 : (gI s 181 v2) = 2
    · rw [if_pos hc5] at h
      obtain ⟨hg6, h⟩ := zg_some h
      obtain ⟨r8, s9, h7, h⟩ := zb_some h
      have f10 := zfr_tr (zfr_rf _ _) (zfr_sub (m2 := 301300883298560676664117892313967987972913061334273656619008) rfl (fr_196 h7))
      cases h
      exact f10
    · rw [if_neg hc5] at h
      cases h
      exact (zfr_rf _ _)
  · rw [if_neg hc3] at h
    cases h
    exact (zfr_rf _ _)
theorem frl_195_32 {v1 : Int} {n : Nat} {e0 : (Int × zS)} {t : (zS)} (h : zlp (fun (q : Int × zS) => b_195_32 v1 q.1 q.2) n e0 = some t) : zfr 301300883298560676664117892313967987972913061334273656619008 ((fun e : (Int × zS) => e.2) e0) ((fun e : (zS) => e) t) := zfr_lp (f := (fun e : (Int × zS) => e.2)) (g := (fun e : (zS) => e)) (fun e q h1 => frb_195_32 h1) n e0 t h
theorem frb_195_73 {v1 : Int} {v2 : Int} {s : zS} {q : (Int × zS) ⊕ (zS)} (h : b_195_73 v1 v2 s = some q) : zfr 301300883298560676664117892313967987972913061334273656619008 s (Sum.elim (fun e : (Int × zS) => e.2) (fun e : (zS) => e) q) := by
  unfold b_195_73 at h
  obtain ⟨hg1, h⟩ := zg_some h
  by_cases hc2 : v2 < (gI s 177 13)
  · rw [if_pos hc2] at h
    obtain ⟨r4, h3, h⟩ := zo_some h
    obtain ⟨hg5, h⟩ := zg_some h
    by_cases hc6 : r4 = 0
    · rw [if_pos hc6] at h
      cases h
      exact (zfr_rf _ _)
    · rw [if_neg hc6] at h
      obtain ⟨hg7, h⟩ := zg_some h
      obtain ⟨r9, s10, h8, h⟩ := zb_some h
      have f11 := zfr_tr (zfr_rf _ _) (zfr_sub (m2 := 301300883298560676664117892313967987972913061334273656619008) rfl (fr_196 h8))
      cases h
      exact f11
  · rw [if_neg hc2] at h
    cases h
    exact (zfr_rf _ _)
theorem frl_195_73 {v1 : Int} {n : Nat} {e0 : (Int × zS)} {t : (zS)} (h : zlp (fun (q : Int × zS) => b_195_73 v1 q.1 q.2) n e0 = some t) : zfr 301300883298560676664117892313967987972913061334273656619008 ((fun e : (Int × zS) => e.2) e0) ((fun e : (zS) => e) t) := zfr_lp (f := (fun e : (Int × zS) => e.2)) (g := (fun e : (zS) => e)) (fun e q h1 => frb_195_73 h1) n e0 t h
theorem fr_195 {v1 : Int} {s : zS} {q : (Unit × zS)} (h : f_195 v1 s = some q) : zfr 301300883298560676664117892313967987972913061334273656619008 s q.2 := by
  unfold f_195 at h
  obtain ⟨e1, h2, h⟩ := zo_some h
  have f3 : zfr 301300883298560676664117892313967987972913061334273656619008 s e1 := zfr_tr (zfr_rf _ _) (frl_195_2 h2)
  obtain ⟨e4, h5, h⟩ := zo_some h
  have f6 : zfr 301300883298560676664117892313967987972913061334273656619008 s e4 := zfr_tr f3 (frl_195_32 h5)
  obtain ⟨e7, h8, h⟩ := zo_some h
  have f9 : zfr 301300883298560676664117892313967987972913061334273656619008 s e7 := zfr_tr f6 (frl_195_73 h8)
  cases h
  exact f9
theorem fr_203 {w1 : BitVec 64} {w3 : BitVec 64} {s : zS} {q : (Unit × zS)} (h : f_203 w1 w3 s = some q) : zfr 1205203724756185314892578864049250345680300197679484899426304 s q.2 := by
  unfold f_203 at h
  obtain ⟨hg1, h⟩ := zg_some h
  cases h
  exact (zfr_tr (zfr_tr (zfr_tr (zfr_rf _ _) (zfr_J rfl)) (zfr_J rfl)) (zfr_I rfl))
theorem fr_206 {v1 : Int} {s : zS} {q : (Unit × zS)} (h : f_206 v1 s = some q) : zfr 1205203724756185314892578864049250345680300197679484899426304 s q.2 := by
  unfold f_206 at h
  obtain ⟨hg1, h⟩ := zg_some h
  by_cases hc2 : v1 = 0
  · rw [if_pos hc2] at h
    obtain ⟨r4, s5, h3, h⟩ := zb_some h
    have f6 := zfr_tr (zfr_rf _ _) (zfr_sub (m2 := 1205203724756185314892578864049250345680300197679484899426304) rfl (fr_203 h3))
    cases h
    exact f6
  · rw [if_neg hc2] at h
    obtain ⟨r8, s9, h7, h⟩ := zb_some h
    have f10 := zfr_tr (zfr_rf _ _) (zfr_sub (m2 := 1205203724756185314892578864049250345680300197679484899426304) rfl (fr_203 h7))
    cases h
    exact f10
theorem fr_202 {v1 : Int} {s : zS} {q : (Unit × zS)} (h : f_202 v1 s = some q) : zfr 1205203724756185314892578864049250345680300197679484899426304 s q.2 := by
  unfold f_202 at h
  obtain ⟨hg1, h⟩ := zg_some h
  obtain ⟨hg2, h⟩ := zg_some h
  by_cases hc3 : v1 = 5
  · rw [if_pos hc3] at h
    obtain ⟨r5, s6, h4, h⟩ := zb_some h
    have f7 := zfr_tr (zfr_tr (zfr_rf _ _) (zfr_I rfl)) (zfr_sub (m2 := 1205203724756185314892578864049250345680300197679484899426304) rfl (fr_203 h4))
    cases h
    exact f7
  · rw [if_neg hc3] at h
    obtain ⟨r9, h8, h⟩ := zo_some h
    obtain ⟨r11, h10, h⟩ := zo_some h
    obtain ⟨r13, h12, h⟩ := zo_some h
    obtain ⟨r15, s16, h14, h⟩ := zb_some h
    have f17 := zfr_tr (zfr_tr (zfr_rf _ _) (zfr_I rfl)) (zfr_sub (m2 := 1205203724756185314892578864049250345680300197679484899426304) rfl (fr_206 h14))
    cases h
    exact f17
theorem fr_200 {v1 : Int} {v2 : Int} {s : zS} {q : (Int × zS)} (h : f_200 v1 v2 s = some q) : zfr 25309274388641039448022010249166689383513345104421377428946944 s q.2 := by
  unfold f_200 at h
  obtain ⟨hg1, h⟩ := zg_some h
  obtain ⟨hg2, h⟩ := zg_some h
  obtain ⟨r4, h3, h⟩ := zo_some h
  obtain ⟨hg5, h⟩ := zg_some h
  by_cases hc6 : (gI (sI (sI (sI (sI (sI s 177 46 ((gI s 177 46) - 1)) 202 (gI s 177 53) ((BitVec.toNat (gJ s 198 (gI (sI s 177 46 ((gI s 177 46) - 1)) 177 46)) : Nat) : Int)) 203 (gI s 177 53) 0) 200 (gI s 177 53) (v2 + 1)) 201 (gI s 177 53) r4) 201 ((gI (sI (sI (sI (sI (sI (sI s 177 46 ((gI s 177 46) - 1)) 202 (gI s 177 53) ((BitVec.toNat (gJ s 198 (gI (sI s 177 46 ((gI s 177 46) - 1)) 177 46)) : Nat) : Int)) 203 (gI s 177 53) 0) 200 (gI s 177 53) (v2 + 1)) 201 (gI s 177 53) r4) 177 53 ((gI s 177 53) + 1)) 177 53) - 1)) < (gI s 177 1)
  · rw [if_pos hc6] at h
    cases h
    exact (zfr_tr (zfr_tr (zfr_tr (zfr_tr (zfr_tr (zfr_tr (zfr_rf _ _) (zfr_I rfl)) (zfr_I rfl)) (zfr_I rfl)) (zfr_I rfl)) (zfr_I rfl)) (zfr_I rfl))
  · rw [if_neg hc6] at h
    obtain ⟨hg7, h⟩ := zg_some h
    obtain ⟨hg8, h⟩ := zg_some h
    obtain ⟨r10, s11, h9, h⟩ := zb_some h
    have f12 := zfr_tr (zfr_tr (zfr_tr (zfr_tr (zfr_tr (zfr_tr (zfr_tr (zfr_rf _ _) (zfr_I rfl)) (zfr_I rfl)) (zfr_I rfl)) (zfr_I rfl)) (zfr_I rfl)) (zfr_I rfl)) (zfr_sub (m2 := 25309274388641039448022010249166689383513345104421377428946944) rfl (fr_202 h9))
    cases h
    exact f12
theorem frj_207_60 {v1 : Int} {v2 : Int} {v3 : Int} {t1 : Int} {t2 : Int} {s : zS} {q : (Int × zS)} (h : j_207_60 v1 v2 v3 t1 t2 s = some q) : zfr 17274584167346088070312199787460876370902330135507413252440064 s q.2 := by
  unfold j_207_60 at h
  obtain ⟨hg1, h⟩ := zg_some h
  obtain ⟨hg2, h⟩ := zg_some h
  obtain ⟨r4, h3, h⟩ := zo_some h
  by_cases hc5 : (gI (sI (sI s 203 t1 t2) 201 v3 r4) 201 v3) < (gI s 177 1)
  · rw [if_pos hc5] at h
    cases h
    exact (zfr_tr (zfr_tr (zfr_rf _ _) (zfr_I rfl)) (zfr_I rfl))
  · rw [if_neg hc5] at h
    obtain ⟨r7, s8, h6, h⟩ := zb_some h
    have f9 := zfr_tr (zfr_tr (zfr_tr (zfr_rf _ _) (zfr_I rfl)) (zfr_I rfl)) (zfr_sub (m2 := 17274584167346088070312199787460876370902330135507413252440064) rfl (fr_202 h6))
    cases h
    exact f9
theorem fr_207 {v1 : Int} {v2 : Int} {s : zS} {q : (Int × zS)} (h : f_207 v1 v2 s = some q) : zfr 17274584167346088070312199787460876370902330135507413252440064 s q.2 := by
  unfold f_207 at h
  obtain ⟨hg1, h⟩ := zg_some h
  by_cases hc2 : (gJ s 198 (gI (sI s 177 46 ((gI s 177 46) - 1)) 177 46)) = (1#64)
  · rw [if_pos hc2] at h
    obtain ⟨hg3, h⟩ := zg_some h
    exact zfr_tr (zfr_tr (zfr_rf _ _) (zfr_I rfl)) (frj_207_60 h)
  · rw [if_neg hc2] at h
    obtain ⟨hg4, h⟩ := zg_some h
    exact zfr_tr (zfr_tr (zfr_rf _ _) (zfr_I rfl)) (frj_207_60 h)
theorem frj_217_197 {w4 : BitVec 64} {s : zS} {q : (Unit × zS)} (h : j_217_197 w4 s = some q) : zfr 1205203533194242706656471569255871951891652245337094626476032 s q.2 := by
  unfold j_217_197 at h
  obtain ⟨hg1, h⟩ := zg_some h
  cases h
  exact (zfr_tr (zfr_tr (zfr_rf _ _) (zfr_J rfl)) (zfr_J rfl))
theorem frj_217_195 {u0 : BitVec 64} {s : zS} {q : (Unit × zS)} (h : j_217_195 u0 s = some q) : zfr 1205203533194242706656471569255871951891652245337094626476032 s q.2 := by
  unfold j_217_195 at h
  exact zfr_tr (zfr_rf _ _) (frj_217_197 h)
theorem fr_217 {v1 : Int} {s : zS} {q : (Unit × zS)} (h : f_217 v1 s = some q) : zfr 1205203533194242706656471569255871951891652245337094626476032 s q.2 := by
  unfold f_217 at h
  obtain ⟨hg1, h⟩ := zg_some h
  obtain ⟨hg2, h⟩ := zg_some h
  by_cases hc3 : v1 = 38
  · rw [if_pos hc3] at h
    obtain ⟨e4, h5, h⟩ := zo_some h
    exact zfr_tr (zfr_rf _ _) (frj_217_197 h)
  · rw [if_neg hc3] at h
    obtain ⟨e6, h7, h⟩ := zo_some h
    by_cases hc8 : v1 = 40
    · rw [if_pos hc8] at h
      obtain ⟨r10, h9, h⟩ := zo_some h
      exact zfr_tr (zfr_rf _ _) (frj_217_195 h)
    · rw [if_neg hc8] at h
      exact zfr_tr (zfr_rf _ _) (frj_217_195 h)
theorem fr_220 {v1 : Int} {v2 : Int} {v3 : Int} {s : zS} {q : (Unit × zS)} (h : f_220 v1 v2 v3 s = some q) : zfr 1205203724756185314892578864049250345680300197679484899426304 s q.2 := by
  unfold f_220 at h
  obtain ⟨hg1, h⟩ := zg_some h
  by_cases hc2 : t_220_1 v1 = 184
  · rw [if_pos hc2] at h
    obtain ⟨hg3, h⟩ := zg_some h
    obtain ⟨r5, s6, h4, h⟩ := zb_some h
    have f7 := zfr_tr (zfr_rf _ _) (zfr_sub (m2 := 1205203724756185314892578864049250345680300197679484899426304) rfl (fr_203 h4))
    cases h
    exact f7
  · rw [if_neg hc2] at h
    by_cases hc8 : t_220_1 v1 = 203
    · rw [if_pos hc8] at h
      obtain ⟨hg9, h⟩ := zg_some h
      obtain ⟨r11, s12, h10, h⟩ := zb_some h
      have f13 := zfr_tr (zfr_rf _ _) (zfr_sub (m2 := 1205203724756185314892578864049250345680300197679484899426304) rfl (fr_203 h10))
      cases h
      exact f13
    · rw [if_neg hc8] at h
      by_cases hc14 : t_220_1 v1 = 219
      · rw [if_pos hc14] at h
        obtain ⟨r16, s17, h15, h⟩ := zb_some h
        have f18 := zfr_tr (zfr_rf _ _) (zfr_sub (m2 := 1205203724756185314892578864049250345680300197679484899426304) rfl (fr_203 h15))
        cases h
        exact f18
      · rw [if_neg hc14] at h
        by_cases hc19 : t_220_1 v1 = 228
        · rw [if_pos hc19] at h
          obtain ⟨r21, s22, h20, h⟩ := zb_some h
          have f23 := zfr_tr (zfr_rf _ _) (zfr_sub (m2 := 1205203724756185314892578864049250345680300197679484899426304) rfl (fr_203 h20))
          cases h
          exact f23
        · rw [if_neg hc19] at h
          by_cases hc24 : t_220_1 v1 = 244
          · rw [if_pos hc24] at h
            obtain ⟨r26, h25, h⟩ := zo_some h
            obtain ⟨r28, s29, h27, h⟩ := zb_some h
            have f30 := zfr_tr (zfr_rf _ _) (zfr_sub (m2 := 1205203724756185314892578864049250345680300197679484899426304) rfl (fr_203 h27))
            cases h
            exact f30
          · rw [if_neg hc24] at h
            by_cases hc31 : t_220_1 v1 = 256
            · rw [if_pos hc31] at h
              by_cases hc32 : v1 = 24
              · rw [if_pos hc32] at h
                obtain ⟨r34, s35, h33, h⟩ := zb_some h
                have f36 := zfr_tr (zfr_rf _ _) (zfr_sub (m2 := 1205203724756185314892578864049250345680300197679484899426304) rfl (fr_206 h33))
                cases h
                exact f36
              · rw [if_neg hc32] at h
                obtain ⟨r38, s39, h37, h⟩ := zb_some h
                have f40 := zfr_tr (zfr_rf _ _) (zfr_sub (m2 := 1205203724756185314892578864049250345680300197679484899426304) rfl (fr_206 h37))
                cases h
                exact f40
            · rw [if_neg hc31] at h
              by_cases hc41 : t_220_1 v1 = 274
              · rw [if_pos hc41] at h
                obtain ⟨hg42, h⟩ := zg_some h
                by_cases hc43 : (gJ s 198 (gI (sI s 177 46 ((gI s 177 46) - 1)) 177 46)) = (0#64)
                · rw [if_pos hc43] at h
                  obtain ⟨r45, s46, h44, h⟩ := zb_some h
                  have f47 := zfr_tr (zfr_tr (zfr_rf _ _) (zfr_I rfl)) (zfr_sub (m2 := 1205203724756185314892578864049250345680300197679484899426304) rfl (fr_206 h44))
                  cases h
                  exact f47
                · rw [if_neg hc43] at h
                  obtain ⟨r49, s50, h48, h⟩ := zb_some h
                  have f51 := zfr_tr (zfr_tr (zfr_rf _ _) (zfr_I rfl)) (zfr_sub (m2 := 1205203724756185314892578864049250345680300197679484899426304) rfl (fr_206 h48))
                  cases h
                  exact f51
              · rw [if_neg hc41] at h
                by_cases hc52 : t_220_1 v1 = 310
                · rw [if_pos hc52] at h
                  obtain ⟨hg53, h⟩ := zg_some h
                  obtain ⟨hg54, h⟩ := zg_some h
                  by_cases hc55 : ((gJ s 198 (gI (sI s 177 46 ((gI s 177 46) - 2)) 177 46)) &&& ((gJ s 198 ((gI (sI s 177 46 ((gI s 177 46) - 2)) 177 46) + 1)) ^^^ (18446744073709551615#64))) = (0#64)
                  · rw [if_pos hc55] at h
                    by_cases hc56 : ((gJ s 199 (gI (sI s 177 46 ((gI s 177 46) - 2)) 177 46)) &&& ((gJ s 199 ((gI (sI s 177 46 ((gI s 177 46) - 2)) 177 46) + 1)) ^^^ (18446744073709551615#64))) = (0#64)
                    · rw [if_pos hc56] at h
                      obtain ⟨r58, s59, h57, h⟩ := zb_some h
                      have f60 := zfr_tr (zfr_tr (zfr_rf _ _) (zfr_I rfl)) (zfr_sub (m2 := 1205203724756185314892578864049250345680300197679484899426304) rfl (fr_206 h57))
                      cases h
                      exact f60
                    · rw [if_neg hc56] at h
                      obtain ⟨r62, s63, h61, h⟩ := zb_some h
                      have f64 := zfr_tr (zfr_tr (zfr_rf _ _) (zfr_I rfl)) (zfr_sub (m2 := 1205203724756185314892578864049250345680300197679484899426304) rfl (fr_206 h61))
                      cases h
                      exact f64
                  · rw [if_neg hc55] at h
                    obtain ⟨r66, s67, h65, h⟩ := zb_some h
                    have f68 := zfr_tr (zfr_tr (zfr_rf _ _) (zfr_I rfl)) (zfr_sub (m2 := 1205203724756185314892578864049250345680300197679484899426304) rfl (fr_206 h65))
                    cases h
                    exact f68
                · rw [if_neg hc52] at h
                  by_cases hc69 : t_220_1 v1 = 392
                  · rw [if_pos hc69] at h
                    obtain ⟨hg70, h⟩ := zg_some h
                    obtain ⟨hg71, h⟩ := zg_some h
                    by_cases hc72 : (gJ s 198 (gI (sI s 177 46 ((gI s 177 46) - 2)) 177 46)) = (gJ s 198 ((gI (sI s 177 46 ((gI s 177 46) - 2)) 177 46) + 1))
                    · rw [if_pos hc72] at h
                      by_cases hc73 : (gJ s 199 (gI (sI s 177 46 ((gI s 177 46) - 2)) 177 46)) = (gJ s 199 ((gI (sI s 177 46 ((gI s 177 46) - 2)) 177 46) + 1))
                      · rw [if_pos hc73] at h
                        obtain ⟨r75, s76, h74, h⟩ := zb_some h
                        have f77 := zfr_tr (zfr_tr (zfr_rf _ _) (zfr_I rfl)) (zfr_sub (m2 := 1205203724756185314892578864049250345680300197679484899426304) rfl (fr_206 h74))
                        cases h
                        exact f77
                      · rw [if_neg hc73] at h
                        obtain ⟨r79, s80, h78, h⟩ := zb_some h
                        have f81 := zfr_tr (zfr_tr (zfr_rf _ _) (zfr_I rfl)) (zfr_sub (m2 := 1205203724756185314892578864049250345680300197679484899426304) rfl (fr_206 h78))
                        cases h
                        exact f81
                    · rw [if_neg hc72] at h
                      obtain ⟨r83, s84, h82, h⟩ := zb_some h
                      have f85 := zfr_tr (zfr_tr (zfr_rf _ _) (zfr_I rfl)) (zfr_sub (m2 := 1205203724756185314892578864049250345680300197679484899426304) rfl (fr_206 h82))
                      cases h
                      exact f85
                  · rw [if_neg hc69] at h
                    by_cases hc86 : t_220_1 v1 = 462
                    · rw [if_pos hc86] at h
                      obtain ⟨hg87, h⟩ := zg_some h
                      obtain ⟨r89, h88, h⟩ := zo_some h
                      obtain ⟨r91, h90, h⟩ := zo_some h
                      obtain ⟨r93, s94, h92, h⟩ := zb_some h
                      have f95 := zfr_tr (zfr_tr (zfr_rf _ _) (zfr_I rfl)) (zfr_sub (m2 := 1205203724756185314892578864049250345680300197679484899426304) rfl (fr_206 h92))
                      cases h
                      exact f95
                    · rw [if_neg hc86] at h
                      by_cases hc96 : t_220_1 v1 = 505
                      · rw [if_pos hc96] at h
                        obtain ⟨hg97, h⟩ := zg_some h
                        obtain ⟨r99, h98, h⟩ := zo_some h
                        obtain ⟨hg100, h⟩ := zg_some h
                        by_cases hc101 : v2 = 42
                        · rw [if_pos hc101] at h
                          obtain ⟨hg102, h⟩ := zg_some h
                          obtain ⟨hg103, h⟩ := zg_some h
                          by_cases hc104 : r99 = v3
                          · rw [if_pos hc104] at h
                            obtain ⟨r106, s107, h105, h⟩ := zb_some h
                            have f108 := zfr_tr (zfr_tr (zfr_rf _ _) (zfr_I rfl)) (zfr_sub (m2 := 1205203724756185314892578864049250345680300197679484899426304) rfl (fr_206 h105))
                            cases h
                            exact f108
                          · rw [if_neg hc104] at h
                            obtain ⟨r110, s111, h109, h⟩ := zb_some h
                            have f112 := zfr_tr (zfr_tr (zfr_rf _ _) (zfr_I rfl)) (zfr_sub (m2 := 1205203724756185314892578864049250345680300197679484899426304) rfl (fr_206 h109))
                            cases h
                            exact f112
                        · rw [if_neg hc101] at h
                          by_cases hc113 : v2 = 43
                          · rw [if_pos hc113] at h
                            obtain ⟨hg114, h⟩ := zg_some h
                            obtain ⟨hg115, h⟩ := zg_some h
                            by_cases hc116 : r99 < v3
                            · rw [if_pos hc116] at h
                              obtain ⟨r118, s119, h117, h⟩ := zb_some h
                              have f120 := zfr_tr (zfr_tr (zfr_rf _ _) (zfr_I rfl)) (zfr_sub (m2 := 1205203724756185314892578864049250345680300197679484899426304) rfl (fr_206 h117))
                              cases h
                              exact f120
                            · rw [if_neg hc116] at h
                              obtain ⟨r122, s123, h121, h⟩ := zb_some h
                              have f124 := zfr_tr (zfr_tr (zfr_rf _ _) (zfr_I rfl)) (zfr_sub (m2 := 1205203724756185314892578864049250345680300197679484899426304) rfl (fr_206 h121))
                              cases h
                              exact f124
                          · rw [if_neg hc113] at h
                            obtain ⟨hg125, h⟩ := zg_some h
                            obtain ⟨hg126, h⟩ := zg_some h
                            by_cases hc127 : v3 < r99
                            · rw [if_pos hc127] at h
                              obtain ⟨r129, s130, h128, h⟩ := zb_some h
                              have f131 := zfr_tr (zfr_tr (zfr_rf _ _) (zfr_I rfl)) (zfr_sub (m2 := 1205203724756185314892578864049250345680300197679484899426304) rfl (fr_206 h128))
                              cases h
                              exact f131
                            · rw [if_neg hc127] at h
                              obtain ⟨r133, s134, h132, h⟩ := zb_some h
                              have f135 := zfr_tr (zfr_tr (zfr_rf _ _) (zfr_I rfl)) (zfr_sub (m2 := 1205203724756185314892578864049250345680300197679484899426304) rfl (fr_206 h132))
                              cases h
                              exact f135
                      · rw [if_neg hc96] at h
                        cases h
theorem frj_219_51 {v1 : Int} {v2 : Int} {t0 : Int} {s : zS} {q : (Unit × zS)} (h : j_219_51 v1 v2 t0 s = some q) : zfr 1205203724756185314892578864049250345680300197679484899426304 s q.2 := by
  unfold j_219_51 at h
  obtain ⟨hg1, h⟩ := zg_some h
  by_cases hc2 : v1 = 16
  · rw [if_pos hc2] at h
    obtain ⟨hg3, h⟩ := zg_some h
    by_cases hc4 : t0 = 0
    · rw [if_pos hc4] at h
      obtain ⟨r6, s7, h5, h⟩ := zb_some h
      have f8 := zfr_tr (zfr_tr (zfr_rf _ _) (zfr_I rfl)) (zfr_sub (m2 := 1205203724756185314892578864049250345680300197679484899426304) rfl (fr_206 h5))
      cases h
      exact f8
    · rw [if_neg hc4] at h
      obtain ⟨hg9, h⟩ := zg_some h
      by_cases hc10 : v2 = 0
      · rw [if_pos hc10] at h
        obtain ⟨r12, s13, h11, h⟩ := zb_some h
        have f14 := zfr_tr (zfr_tr (zfr_rf _ _) (zfr_I rfl)) (zfr_sub (m2 := 1205203724756185314892578864049250345680300197679484899426304) rfl (fr_206 h11))
        cases h
        exact f14
      · rw [if_neg hc10] at h
        obtain ⟨r16, s17, h15, h⟩ := zb_some h
        have f18 := zfr_tr (zfr_tr (zfr_rf _ _) (zfr_I rfl)) (zfr_sub (m2 := 1205203724756185314892578864049250345680300197679484899426304) rfl (fr_206 h15))
        cases h
        exact f18
  · rw [if_neg hc2] at h
    by_cases hc19 : v1 = 17
    · rw [if_pos hc19] at h
      obtain ⟨hg20, h⟩ := zg_some h
      by_cases hc21 : t0 = 0
      · rw [if_pos hc21] at h
        obtain ⟨hg22, h⟩ := zg_some h
        by_cases hc23 : v2 = 0
        · rw [if_pos hc23] at h
          obtain ⟨r25, s26, h24, h⟩ := zb_some h
          have f27 := zfr_tr (zfr_tr (zfr_rf _ _) (zfr_I rfl)) (zfr_sub (m2 := 1205203724756185314892578864049250345680300197679484899426304) rfl (fr_206 h24))
          cases h
          exact f27
        · rw [if_neg hc23] at h
          obtain ⟨r29, s30, h28, h⟩ := zb_some h
          have f31 := zfr_tr (zfr_tr (zfr_rf _ _) (zfr_I rfl)) (zfr_sub (m2 := 1205203724756185314892578864049250345680300197679484899426304) rfl (fr_206 h28))
          cases h
          exact f31
      · rw [if_neg hc21] at h
        obtain ⟨r33, s34, h32, h⟩ := zb_some h
        have f35 := zfr_tr (zfr_tr (zfr_rf _ _) (zfr_I rfl)) (zfr_sub (m2 := 1205203724756185314892578864049250345680300197679484899426304) rfl (fr_206 h32))
        cases h
        exact f35
    · rw [if_neg hc19] at h
      by_cases hc36 : v1 = 18
      · rw [if_pos hc36] at h
        obtain ⟨hg37, h⟩ := zg_some h
        by_cases hc38 : t0 = 0
        · rw [if_pos hc38] at h
          obtain ⟨r40, s41, h39, h⟩ := zb_some h
          have f42 := zfr_tr (zfr_tr (zfr_rf _ _) (zfr_I rfl)) (zfr_sub (m2 := 1205203724756185314892578864049250345680300197679484899426304) rfl (fr_206 h39))
          cases h
          exact f42
        · rw [if_neg hc38] at h
          obtain ⟨hg43, h⟩ := zg_some h
          by_cases hc44 : v2 = 0
          · rw [if_pos hc44] at h
            obtain ⟨r46, s47, h45, h⟩ := zb_some h
            have f48 := zfr_tr (zfr_tr (zfr_rf _ _) (zfr_I rfl)) (zfr_sub (m2 := 1205203724756185314892578864049250345680300197679484899426304) rfl (fr_206 h45))
            cases h
            exact f48
          · rw [if_neg hc44] at h
            obtain ⟨r50, s51, h49, h⟩ := zb_some h
            have f52 := zfr_tr (zfr_tr (zfr_rf _ _) (zfr_I rfl)) (zfr_sub (m2 := 1205203724756185314892578864049250345680300197679484899426304) rfl (fr_206 h49))
            cases h
            exact f52
      · rw [if_neg hc36] at h
        obtain ⟨hg53, h⟩ := zg_some h
        obtain ⟨hg54, h⟩ := zg_some h
        by_cases hc55 : t0 = v2
        · rw [if_pos hc55] at h
          obtain ⟨r57, s58, h56, h⟩ := zb_some h
          have f59 := zfr_tr (zfr_tr (zfr_rf _ _) (zfr_I rfl)) (zfr_sub (m2 := 1205203724756185314892578864049250345680300197679484899426304) rfl (fr_206 h56))
          cases h
          exact f59
        · rw [if_neg hc55] at h
          obtain ⟨r61, s62, h60, h⟩ := zb_some h
          have f63 := zfr_tr (zfr_tr (zfr_rf _ _) (zfr_I rfl)) (zfr_sub (m2 := 1205203724756185314892578864049250345680300197679484899426304) rfl (fr_206 h60))
          cases h
          exact f63
theorem frj_219_29 {v1 : Int} {t0 : Int} {s : zS} {q : (Unit × zS)} (h : j_219_29 v1 t0 s = some q) : zfr 1205203724756185314892578864049250345680300197679484899426304 s q.2 := by
  unfold j_219_29 at h
  obtain ⟨hg1, h⟩ := zg_some h
  by_cases hc2 : (gJ s 198 ((gI s 177 46) - 1)) = (1#64)
  · rw [if_pos hc2] at h
    exact zfr_tr (zfr_rf _ _) (frj_219_51 h)
  · rw [if_neg hc2] at h
    exact zfr_tr (zfr_rf _ _) (frj_219_51 h)
theorem fr_219 {v1 : Int} {s : zS} {q : (Unit × zS)} (h : f_219 v1 s = some q) : zfr 1205203724756185314892578864049250345680300197679484899426304 s q.2 := by
  unfold f_219 at h
  obtain ⟨hg1, h⟩ := zg_some h
  by_cases hc2 : (gJ s 198 (gI (sI s 177 46 ((gI s 177 46) - 1)) 177 46)) = (1#64)
  · rw [if_pos hc2] at h
    exact zfr_tr (zfr_tr (zfr_rf _ _) (zfr_I rfl)) (frj_219_29 h)
  · rw [if_neg hc2] at h
    exact zfr_tr (zfr_tr (zfr_rf _ _) (zfr_I rfl)) (frj_219_29 h)
theorem frj_208_239 {s : zS} {q : (Unit × zS)} (h : j_208_239 s = some q) : zfr 1205203724756185314892578864049250345680300197679484899426304 s q.2 := by
  unfold j_208_239 at h
  obtain ⟨hg1, h⟩ := zg_some h
  cases h
  exact (zfr_tr (zfr_tr (zfr_rf _ _) (zfr_J rfl)) (zfr_J rfl))
theorem fr_212 {v1 : Int} {w2 : BitVec 64} {s : zS} {q : (Unit × zS)} (h : f_212 v1 w2 s = some q) : zfr 191561942608236107294793378393788647952342390272950272 s q.2 := by
  unfold f_212 at h
  obtain ⟨hg1, h⟩ := zg_some h
  by_cases hc2 : v1 < 64
  · rw [if_pos hc2] at h
    by_cases hc3 : v1 = 0
    · rw [if_pos hc3] at h
      cases h
      exact (zfr_tr (zfr_tr (zfr_rf _ _) (zfr_J rfl)) (zfr_J rfl))
    · rw [if_neg hc3] at h
      obtain ⟨hg4, h⟩ := zg_some h
      cases h
      exact (zfr_tr (zfr_tr (zfr_rf _ _) (zfr_J rfl)) (zfr_J rfl))
  · rw [if_neg hc2] at h
    obtain ⟨hg5, h⟩ := zg_some h
    cases h
    exact (zfr_tr (zfr_rf _ _) (zfr_J rfl))
theorem frb_209_34 {v1 : Int} {v3 : Int} {w4 : BitVec 64} {v6 : Int} {s : zS} {q : (Int × zS) ⊕ (zS)} (h : b_209_34 v1 v3 w4 v6 s = some q) : zfr 191561942608236107294793378393788647952342390272950272 s (Sum.elim (fun e : (Int × zS) => e.2) (fun e : (zS) => e) q) := by
  unfold b_209_34 at h
  obtain ⟨r2, h1, h⟩ := zo_some h
  obtain ⟨hg3, h⟩ := zg_some h
  obtain ⟨hg4, h⟩ := zg_some h
  by_cases hc5 : v6 < r2
  · rw [if_pos hc5] at h
    obtain ⟨hg6, h⟩ := zg_some h
    obtain ⟨r8, h7, h⟩ := zo_some h
    obtain ⟨hg9, h⟩ := zg_some h
    by_cases hc10 : r8 = 0
    · rw [if_pos hc10] at h
      cases h
      exact (zfr_rf _ _)
    · rw [if_neg hc10] at h
      obtain ⟨r12, s13, h11, h⟩ := zb_some h
      have f14 := zfr_tr (zfr_rf _ _) (zfr_sub (m2 := 191561942608236107294793378393788647952342390272950272) rfl (fr_212 h11))
      cases h
      exact f14
  · rw [if_neg hc5] at h
    cases h
    exact (zfr_rf _ _)
theorem frl_209_34 {v1 : Int} {v3 : Int} {w4 : BitVec 64} {n : Nat} {e0 : (Int × zS)} {t : (zS)} (h : zlp (fun (q : Int × zS) => b_209_34 v1 v3 w4 q.1 q.2) n e0 = some t) : zfr 191561942608236107294793378393788647952342390272950272 ((fun e : (Int × zS) => e.2) e0) ((fun e : (zS) => e) t) := zfr_lp (f := (fun e : (Int × zS) => e.2)) (g := (fun e : (zS) => e)) (fun e q h1 => frb_209_34 h1) n e0 t h
theorem fr_209 {v1 : Int} {v2 : Int} {s : zS} {q : (Unit × zS)} (h : f_209 v1 v2 s = some q) : zfr 191561942608236107294793378393788647952342390272950272 s q.2 := by
  unfold f_209 at h
  obtain ⟨r2, h1, h⟩ := zo_some h
  obtain ⟨hg3, h⟩ := zg_some h
  obtain ⟨r5, h4, h⟩ := zo_some h
  obtain ⟨e6, h7, h⟩ := zo_some h
  have f8 : zfr 191561942608236107294793378393788647952342390272950272 s e6 := zfr_tr (zfr_rf _ _) (frl_209_34 h7)
  cases h
  exact f8
theorem frb_213_2 {v1 : Int} {s : zS} {q : (Int × zS) ⊕ (zS)} (h : b_213_2 v1 s = some q) : zfr 191561942608236107294793378393788647952342390272950272 s (Sum.elim (fun e : (Int × zS) => e.2) (fun e : (zS) => e) q) := by
  unfold b_213_2 at h
  obtain ⟨hg1, h⟩ := zg_some h
  by_cases hc2 : v1 < (gI s 177 1)
  · rw [if_pos hc2] at h
    obtain ⟨hg3, h⟩ := zg_some h
    obtain ⟨r5, h4, h⟩ := zo_some h
    by_cases hc6 : r5 = (0#64)
    · rw [if_pos hc6] at h
      obtain ⟨hg7, h⟩ := zg_some h
      obtain ⟨r9, h8, h⟩ := zo_some h
      obtain ⟨r11, s12, h10, h⟩ := zb_some h
      have f13 := zfr_tr (zfr_rf _ _) (zfr_sub (m2 := 191561942608236107294793378393788647952342390272950272) rfl (fr_212 h10))
      cases h
      exact f13
    · rw [if_neg hc6] at h
      obtain ⟨r15, s16, h14, h⟩ := zb_some h
      have f17 := zfr_tr (zfr_rf _ _) (zfr_sub (m2 := 191561942608236107294793378393788647952342390272950272) rfl (fr_212 h14))
      cases h
      exact f17
  · rw [if_neg hc2] at h
    cases h
    exact (zfr_rf _ _)
theorem frl_213_2 {n : Nat} {e0 : (Int × zS)} {t : (zS)} (h : zlp (fun (q : Int × zS) => b_213_2 q.1 q.2) n e0 = some t) : zfr 191561942608236107294793378393788647952342390272950272 ((fun e : (Int × zS) => e.2) e0) ((fun e : (zS) => e) t) := zfr_lp (f := (fun e : (Int × zS) => e.2)) (g := (fun e : (zS) => e)) (fun e q h1 => frb_213_2 h1) n e0 t h
theorem fr_213 {s : zS} {q : (Unit × zS)} (h : f_213 s = some q) : zfr 191561942608236107294793378393788647952342390272950272 s q.2 := by
  unfold f_213 at h
  obtain ⟨e1, h2, h⟩ := zo_some h
  have f3 : zfr 191561942608236107294793378393788647952342390272950272 s e1 := zfr_tr (zfr_rf _ _) (frl_213_2 h2)
  cases h
  exact f3
theorem frb_214_10 {v2 : Int} {v3 : Int} {s : zS} {q : (Int × zS) ⊕ (zS)} (h : b_214_10 v2 v3 s = some q) : zfr 191561942608236107294793378393788647952342390272950272 s (Sum.elim (fun e : (Int × zS) => e.2) (fun e : (zS) => e) q) := by
  unfold b_214_10 at h
  obtain ⟨hg1, h⟩ := zg_some h
  by_cases hc2 : v3 < (gI s 177 1)
  · rw [if_pos hc2] at h
    obtain ⟨hg3, h⟩ := zg_some h
    obtain ⟨r5, h4, h⟩ := zo_some h
    obtain ⟨hg6, h⟩ := zg_some h
    by_cases hc7 : r5 = 0
    · rw [if_pos hc7] at h
      cases h
      exact (zfr_rf _ _)
    · rw [if_neg hc7] at h
      obtain ⟨hg8, h⟩ := zg_some h
      obtain ⟨r10, h9, h⟩ := zo_some h
      obtain ⟨r12, s13, h11, h⟩ := zb_some h
      have f14 := zfr_tr (zfr_rf _ _) (zfr_sub (m2 := 191561942608236107294793378393788647952342390272950272) rfl (fr_212 h11))
      cases h
      exact f14
  · rw [if_neg hc2] at h
    cases h
    exact (zfr_rf _ _)
theorem frl_214_10 {v2 : Int} {n : Nat} {e0 : (Int × zS)} {t : (zS)} (h : zlp (fun (q : Int × zS) => b_214_10 v2 q.1 q.2) n e0 = some t) : zfr 191561942608236107294793378393788647952342390272950272 ((fun e : (Int × zS) => e.2) e0) ((fun e : (zS) => e) t) := zfr_lp (f := (fun e : (Int × zS) => e.2)) (g := (fun e : (zS) => e)) (fun e q h1 => frb_214_10 h1) n e0 t h
theorem fr_214 {v1 : Int} {s : zS} {q : (Unit × zS)} (h : f_214 v1 s = some q) : zfr 191561942608236107294793378393788647952342390272950272 s q.2 := by
  unfold f_214 at h
  obtain ⟨r2, h1, h⟩ := zo_some h
  obtain ⟨e3, h4, h⟩ := zo_some h
  have f5 : zfr 191561942608236107294793378393788647952342390272950272 s e3 := zfr_tr (zfr_rf _ _) (frl_214_10 h4)
  cases h
  exact f5
theorem frb_215_2 {v1 : Int} {v2 : Int} {s : zS} {q : (Int × zS) ⊕ (zS)} (h : b_215_2 v1 v2 s = some q) : zfr 191561942608236107294793378393788647952342390272950272 s (Sum.elim (fun e : (Int × zS) => e.2) (fun e : (zS) => e) q) := by
  unfold b_215_2 at h
  obtain ⟨r2, h1, h⟩ := zo_some h
  obtain ⟨hg3, h⟩ := zg_some h
  obtain ⟨hg4, h⟩ := zg_some h
  by_cases hc5 : v2 < r2
  · rw [if_pos hc5] at h
    obtain ⟨hg6, h⟩ := zg_some h
    obtain ⟨r8, h7, h⟩ := zo_some h
    obtain ⟨hg9, h⟩ := zg_some h
    by_cases hc10 : r8 = 0
    · rw [if_pos hc10] at h
      cases h
      exact (zfr_rf _ _)
    · rw [if_neg hc10] at h
      obtain ⟨hg11, h⟩ := zg_some h
      obtain ⟨hg12, h⟩ := zg_some h
      obtain ⟨r14, h13, h⟩ := zo_some h
      obtain ⟨hg15, h⟩ := zg_some h
      by_cases hc16 : r14 = 0
      · rw [if_pos hc16] at h
        cases h
        exact (zfr_rf _ _)
      · rw [if_neg hc16] at h
        obtain ⟨r18, s19, h17, h⟩ := zb_some h
        have f20 := zfr_tr (zfr_rf _ _) (zfr_sub (m2 := 191561942608236107294793378393788647952342390272950272) rfl (fr_212 h17))
        cases h
        exact f20
  · rw [if_neg hc5] at h
    cases h
    exact (zfr_rf _ _)
theorem frl_215_2 {v1 : Int} {n : Nat} {e0 : (Int × zS)} {t : (zS)} (h : zlp (fun (q : Int × zS) => b_215_2 v1 q.1 q.2) n e0 = some t) : zfr 191561942608236107294793378393788647952342390272950272 ((fun e : (Int × zS) => e.2) e0) ((fun e : (zS) => e) t) := zfr_lp (f := (fun e : (Int × zS) => e.2)) (g := (fun e : (zS) => e)) (fun e q h1 => frb_215_2 h1) n e0 t h
theorem fr_215 {v1 : Int} {s : zS} {q : (Unit × zS)} (h : f_215 v1 s = some q) : zfr 191561942608236107294793378393788647952342390272950272 s q.2 := by
  unfold f_215 at h
  obtain ⟨e1, h2, h⟩ := zo_some h
  have f3 : zfr 191561942608236107294793378393788647952342390272950272 s e1 := zfr_tr (zfr_rf _ _) (frl_215_2 h2)
  cases h
  exact f3
theorem frb_216_11 {v1 : Int} {v3 : Int} {v4 : Int} {s : zS} {q : (Int × zS) ⊕ (zS)} (h : b_216_11 v1 v3 v4 s = some q) : zfr 191561942608236107294793378393788647952342390272950272 s (Sum.elim (fun e : (Int × zS) => e.2) (fun e : (zS) => e) q) := by
  unfold b_216_11 at h
  obtain ⟨r2, h1, h⟩ := zo_some h
  obtain ⟨hg3, h⟩ := zg_some h
  obtain ⟨hg4, h⟩ := zg_some h
  by_cases hc5 : v4 < r2
  · rw [if_pos hc5] at h
    obtain ⟨hg6, h⟩ := zg_some h
    obtain ⟨r8, h7, h⟩ := zo_some h
    obtain ⟨hg9, h⟩ := zg_some h
    by_cases hc10 : r8 = 0
    · rw [if_pos hc10] at h
      cases h
      exact (zfr_rf _ _)
    · rw [if_neg hc10] at h
      obtain ⟨hg11, h⟩ := zg_some h
      obtain ⟨hg12, h⟩ := zg_some h
      obtain ⟨r14, h13, h⟩ := zo_some h
      obtain ⟨r16, s17, h15, h⟩ := zb_some h
      have f18 := zfr_tr (zfr_rf _ _) (zfr_sub (m2 := 191561942608236107294793378393788647952342390272950272) rfl (fr_212 h15))
      cases h
      exact f18
  · rw [if_neg hc5] at h
    cases h
    exact (zfr_rf _ _)
theorem frl_216_11 {v1 : Int} {v3 : Int} {n : Nat} {e0 : (Int × zS)} {t : (zS)} (h : zlp (fun (q : Int × zS) => b_216_11 v1 v3 q.1 q.2) n e0 = some t) : zfr 191561942608236107294793378393788647952342390272950272 ((fun e : (Int × zS) => e.2) e0) ((fun e : (zS) => e) t) := zfr_lp (f := (fun e : (Int × zS) => e.2)) (g := (fun e : (zS) => e)) (fun e q h1 => frb_216_11 h1) n e0 t h
theorem fr_216 {v1 : Int} {v2 : Int} {s : zS} {q : (Unit × zS)} (h : f_216 v1 v2 s = some q) : zfr 191561942608236107294793378393788647952342390272950272 s q.2 := by
  unfold f_216 at h
  obtain ⟨r2, h1, h⟩ := zo_some h
  obtain ⟨e3, h4, h⟩ := zo_some h
  have f5 : zfr 191561942608236107294793378393788647952342390272950272 s e3 := zfr_tr (zfr_rf _ _) (frl_216_11 h4)
  cases h
  exact f5
theorem fr_208 {v1 : Int} {v2 : Int} {v3 : Int} {s : zS} {q : (Unit × zS)} (h : f_208 v1 v2 v3 s = some q) : zfr 1205203724756185314892578864049250345680300197679484899426304 s q.2 := by
  unfold f_208 at h
  obtain ⟨hg1, h⟩ := zg_some h
  obtain ⟨hg2, h⟩ := zg_some h
  by_cases hc3 : t_208_47 v1 = 88
  · rw [if_pos hc3] at h
    obtain ⟨hg4, h⟩ := zg_some h
    exact zfr_tr (zfr_tr (zfr_tr (zfr_tr (zfr_tr (zfr_tr (zfr_rf _ _) (zfr_I rfl)) (zfr_J rfl)) (zfr_J rfl)) (zfr_J rfl)) (zfr_J rfl)) (frj_208_239 h)
  · rw [if_neg hc3] at h
    by_cases hc5 : t_208_47 v1 = 123
    · rw [if_pos hc5] at h
      obtain ⟨hg6, h⟩ := zg_some h
      exact zfr_tr (zfr_tr (zfr_tr (zfr_tr (zfr_tr (zfr_tr (zfr_rf _ _) (zfr_I rfl)) (zfr_J rfl)) (zfr_J rfl)) (zfr_J rfl)) (zfr_J rfl)) (frj_208_239 h)
    · rw [if_neg hc5] at h
      by_cases hc7 : t_208_47 v1 = 166
      · rw [if_pos hc7] at h
        obtain ⟨hg8, h⟩ := zg_some h
        exact zfr_tr (zfr_tr (zfr_tr (zfr_tr (zfr_tr (zfr_tr (zfr_rf _ _) (zfr_I rfl)) (zfr_J rfl)) (zfr_J rfl)) (zfr_J rfl)) (zfr_J rfl)) (frj_208_239 h)
      · rw [if_neg hc7] at h
        by_cases hc9 : t_208_47 v1 = 201
        · rw [if_pos hc9] at h
          obtain ⟨r11, s12, h10, h⟩ := zb_some h
          have f13 := zfr_tr (zfr_tr (zfr_tr (zfr_tr (zfr_rf _ _) (zfr_I rfl)) (zfr_J rfl)) (zfr_J rfl)) (zfr_sub (m2 := 1205203724756185314892578864049250345680300197679484899426304) rfl (fr_209 h10))
          exact zfr_tr f13 (frj_208_239 h)
        · rw [if_neg hc9] at h
          by_cases hc14 : t_208_47 v1 = 210
          · rw [if_pos hc14] at h
            obtain ⟨r16, s17, h15, h⟩ := zb_some h
            have f18 := zfr_tr (zfr_tr (zfr_tr (zfr_tr (zfr_rf _ _) (zfr_I rfl)) (zfr_J rfl)) (zfr_J rfl)) (zfr_sub (m2 := 1205203724756185314892578864049250345680300197679484899426304) rfl (fr_213 h15))
            exact zfr_tr f18 (frj_208_239 h)
          · rw [if_neg hc14] at h
            by_cases hc19 : t_208_47 v1 = 217
            · rw [if_pos hc19] at h
              obtain ⟨r21, s22, h20, h⟩ := zb_some h
              have f23 := zfr_tr (zfr_tr (zfr_tr (zfr_tr (zfr_rf _ _) (zfr_I rfl)) (zfr_J rfl)) (zfr_J rfl)) (zfr_sub (m2 := 1205203724756185314892578864049250345680300197679484899426304) rfl (fr_214 h20))
              exact zfr_tr f23 (frj_208_239 h)
            · rw [if_neg hc19] at h
              by_cases hc24 : t_208_47 v1 = 225
              · rw [if_pos hc24] at h
                obtain ⟨r26, s27, h25, h⟩ := zb_some h
                have f28 := zfr_tr (zfr_tr (zfr_tr (zfr_tr (zfr_rf _ _) (zfr_I rfl)) (zfr_J rfl)) (zfr_J rfl)) (zfr_sub (m2 := 1205203724756185314892578864049250345680300197679484899426304) rfl (fr_215 h25))
                exact zfr_tr f28 (frj_208_239 h)
              · rw [if_neg hc24] at h
                by_cases hc29 : t_208_47 v1 = 233
                · rw [if_pos hc29] at h
                  obtain ⟨r31, s32, h30, h⟩ := zb_some h
                  have f33 := zfr_tr (zfr_tr (zfr_tr (zfr_tr (zfr_rf _ _) (zfr_I rfl)) (zfr_J rfl)) (zfr_J rfl)) (zfr_sub (m2 := 1205203724756185314892578864049250345680300197679484899426304) rfl (fr_216 h30))
                  exact zfr_tr f33 (frj_208_239 h)
                · rw [if_neg hc29] at h
                  cases h
theorem frb_199_12 {v1 : Int} {v2 : Int} {s : zS} {q : (Int × zS) ⊕ (zS)} (h : b_199_12 v1 v2 s = some q) : zfr 25309274388641039448022010249166689383513345104421377428946944 s (Sum.elim (fun e : (Int × zS) => e.2) (fun e : (zS) => e) q) := by
  unfold b_199_12 at h
  obtain ⟨hg1, h⟩ := zg_some h
  obtain ⟨hg2, h⟩ := zg_some h
  by_cases hc3 : v2 < (gI s 187 v1)
  · rw [if_pos hc3] at h
    obtain ⟨hg4, h⟩ := zg_some h
    by_cases hc5 : (gI s 184 ((320 * v1) + v2)) = 3
    · rw [if_pos hc5] at h
      obtain ⟨r7, s8, h6, h⟩ := zb_some h
      have f9 := zfr_tr (zfr_rf _ _) (zfr_sub (m2 := 25309274388641039448022010249166689383513345104421377428946944) rfl (fr_200 h6))
      cases h
      exact f9
    · rw [if_neg hc5] at h
      by_cases hc10 : (gI s 184 ((320 * v1) + v2)) = 4
      · rw [if_pos hc10] at h
        obtain ⟨r12, s13, h11, h⟩ := zb_some h
        have f14 := zfr_tr (zfr_rf _ _) (zfr_sub (m2 := 25309274388641039448022010249166689383513345104421377428946944) rfl (fr_207 h11))
        cases h
        exact f14
      · rw [if_neg hc10] at h
        obtain ⟨r16, h15, h⟩ := zo_some h
        obtain ⟨hg17, h⟩ := zg_some h
        by_cases hc18 : r16 = 0
        · rw [if_pos hc18] at h
          obtain ⟨r20, h19, h⟩ := zo_some h
          obtain ⟨hg21, h⟩ := zg_some h
          by_cases hc22 : r20 = 16
          · rw [if_pos hc22] at h
            obtain ⟨r24, s25, h23, h⟩ := zb_some h
            have f26 := zfr_tr (zfr_rf _ _) (zfr_sub (m2 := 25309274388641039448022010249166689383513345104421377428946944) rfl (fr_217 h23))
            cases h
            exact f26
          · rw [if_neg hc22] at h
            obtain ⟨r28, h27, h⟩ := zo_some h
            obtain ⟨hg29, h⟩ := zg_some h
            by_cases hc30 : r28 = 0
            · rw [if_pos hc30] at h
              obtain ⟨r32, s33, h31, h⟩ := zb_some h
              have f34 := zfr_tr (zfr_rf _ _) (zfr_sub (m2 := 25309274388641039448022010249166689383513345104421377428946944) rfl (fr_220 h31))
              cases h
              exact f34
            · rw [if_neg hc30] at h
              obtain ⟨r36, s37, h35, h⟩ := zb_some h
              have f38 := zfr_tr (zfr_rf _ _) (zfr_sub (m2 := 25309274388641039448022010249166689383513345104421377428946944) rfl (fr_219 h35))
              cases h
              exact f38
        · rw [if_neg hc18] at h
          obtain ⟨r40, s41, h39, h⟩ := zb_some h
          have f42 := zfr_tr (zfr_rf _ _) (zfr_sub (m2 := 25309274388641039448022010249166689383513345104421377428946944) rfl (fr_208 h39))
          cases h
          exact f42
  · rw [if_neg hc3] at h
    cases h
    exact (zfr_rf _ _)
theorem frl_199_12 {v1 : Int} {n : Nat} {e0 : (Int × zS)} {t : (zS)} (h : zlp (fun (q : Int × zS) => b_199_12 v1 q.1 q.2) n e0 = some t) : zfr 25309274388641039448022010249166689383513345104421377428946944 ((fun e : (Int × zS) => e.2) e0) ((fun e : (zS) => e) t) := zfr_lp (f := (fun e : (Int × zS) => e.2)) (g := (fun e : (zS) => e)) (fun e q h1 => frb_199_12 h1) n e0 t h
theorem fr_199 {v1 : Int} {s : zS} {q : (Unit × zS)} (h : f_199 v1 s = some q) : zfr 25309274388641039448022010249166689383513345104421377428946944 s q.2 := by
  unfold f_199 at h
  obtain ⟨e1, h2, h⟩ := zo_some h
  have f3 : zfr 25309274388641039448022010249166689383513345104421377428946944 s e1 := zfr_tr (zfr_tr (zfr_tr (zfr_rf _ _) (zfr_I rfl)) (zfr_I rfl)) (frl_199_12 h2)
  cases h
  exact f3
theorem fr_198 {v1 : Int} {s : zS} {q : (Int × zS)} (h : f_198 v1 s = some q) : zfr 25309274388641039448022010249166689383513345104421377428946944 s q.2 := by
  unfold f_198 at h
  obtain ⟨r2, s3, h1, h⟩ := zb_some h
  have f4 := zfr_tr (zfr_rf _ _) (zfr_sub (m2 := 25309274388641039448022010249166689383513345104421377428946944) rfl (fr_199 h1))
  by_cases hc5 : (gJ s3 198 0) = (1#64)
  · rw [if_pos hc5] at h
    cases h
    exact f4
  · rw [if_neg hc5] at h
    cases h
    exact f4
theorem frb_194_10 {v2 : Int} {v3 : Int} {v4 : Int} {s : zS} {q : (Int × Int × zS) ⊕ (Int × zS)} (h : b_194_10 v2 v3 v4 s = some q) : zfr 25610575271939600124686128141480657371486258165755651085565952 s (Sum.elim (fun e : (Int × Int × zS) => e.2.2) (fun e : (Int × zS) => e.2) q) := by
  unfold b_194_10 at h
  obtain ⟨hg1, h⟩ := zg_some h
  by_cases hc2 : v4 < (gI s 177 18)
  · rw [if_pos hc2] at h
    obtain ⟨hg3, h⟩ := zg_some h
    by_cases hc4 : v3 = 0
    · rw [if_pos hc4] at h
      cases h
      exact (zfr_rf _ _)
    · rw [if_neg hc4] at h
      obtain ⟨hg5, h⟩ := zg_some h
      by_cases hc6 : (zand (v2 / 2 ^ zsh v4) 1) = 0
      · rw [if_pos hc6] at h
        cases h
        exact (zfr_rf _ _)
      · rw [if_neg hc6] at h
        obtain ⟨r8, s9, h7, h⟩ := zb_some h
        have f10 := zfr_tr (zfr_rf _ _) (zfr_sub (m2 := 25610575271939600124686128141480657371486258165755651085565952) rfl (fr_198 h7))
        obtain ⟨hg11, h⟩ := zg_some h
        by_cases hc12 : r8 = 0
        · rw [if_pos hc12] at h
          cases h
          exact f10
        · rw [if_neg hc12] at h
          cases h
          exact f10
  · rw [if_neg hc2] at h
    cases h
    exact (zfr_rf _ _)
theorem frl_194_10 {v2 : Int} {n : Nat} {e0 : (Int × Int × zS)} {t : (Int × zS)} (h : zlp (fun (q : Int × Int × zS) => b_194_10 v2 q.1 q.2.1 q.2.2) n e0 = some t) : zfr 25610575271939600124686128141480657371486258165755651085565952 ((fun e : (Int × Int × zS) => e.2.2) e0) ((fun e : (Int × zS) => e.2) t) := zfr_lp (f := (fun e : (Int × Int × zS) => e.2.2)) (g := (fun e : (Int × zS) => e.2)) (fun e q h1 => frb_194_10 h1) n e0 t h
theorem fr_194 {v1 : Int} {v2 : Int} {s : zS} {q : (Int × zS)} (h : f_194 v1 v2 s = some q) : zfr 25610575271939600124686128141480657371486258165755651085565952 s q.2 := by
  unfold f_194 at h
  obtain ⟨r2, s3, h1, h⟩ := zb_some h
  have f4 := zfr_tr (zfr_rf _ _) (zfr_sub (m2 := 25610575271939600124686128141480657371486258165755651085565952) rfl (fr_195 h1))
  obtain ⟨e5, h6, h⟩ := zo_some h
  have f7 : zfr 25610575271939600124686128141480657371486258165755651085565952 s e5.2 := zfr_tr f4 (frl_194_10 h6)
  obtain ⟨hg8, h⟩ := zg_some h
  cases h
  exact f7
theorem frb_193_7 {v2 : Int} {v3 : Int} {v4 : Int} {s : zS} {q : (Int × zS) ⊕ ((zS) ⊕ (Int × zS))} (h : b_193_7 v2 v3 v4 s = some q) : zfr 25610593661886090515352428441644983175196461590625117288792064 s (Sum.elim (fun e : (Int × zS) => e.2) (fun t : ((zS) ⊕ (Int × zS)) => Sum.elim (fun e : (zS) => e) (fun q => q.2) t) q) := by
  unfold b_193_7 at h
  obtain ⟨hg1, h⟩ := zg_some h
  obtain ⟨hg2, h⟩ := zg_some h
  by_cases hc3 : v4 < (1 * 2 ^ zsh (gI s 177 13))
  · rw [if_pos hc3] at h
    obtain ⟨r5, s6, h4, h⟩ := zb_some h
    have f7 := zfr_tr (zfr_rf _ _) (zfr_sub (m2 := 25610593661886090515352428441644983175196461590625117288792064) rfl (fr_194 h4))
    obtain ⟨hg8, h⟩ := zg_some h
    by_cases hc9 : r5 = 0
    · rw [if_pos hc9] at h
      cases h
      exact f7
    · rw [if_neg hc9] at h
      obtain ⟨hg10, h⟩ := zg_some h
      by_cases hc11 : v3 = 0
      · rw [if_pos hc11] at h
        cases h
        exact f7
      · rw [if_neg hc11] at h
        obtain ⟨r13, s14, h12, h⟩ := zb_some h
        have f15 := zfr_tr f7 (zfr_sub (m2 := 25610593661886090515352428441644983175196461590625117288792064) rfl (fr_198 h12))
        obtain ⟨hg16, h⟩ := zg_some h
        by_cases hc17 : r13 = 0
        · rw [if_pos hc17] at h
          cases h
          exact f15
        · rw [if_neg hc17] at h
          cases h
          exact f15
  · rw [if_neg hc3] at h
    cases h
    exact (zfr_rf _ _)
theorem frl_193_7 {v2 : Int} {v3 : Int} {n : Nat} {e0 : (Int × zS)} {t : ((zS) ⊕ (Int × zS))} (h : zlp (fun (q : Int × zS) => b_193_7 v2 v3 q.1 q.2) n e0 = some t) : zfr 25610593661886090515352428441644983175196461590625117288792064 ((fun e : (Int × zS) => e.2) e0) ((fun t : ((zS) ⊕ (Int × zS)) => Sum.elim (fun e : (zS) => e) (fun q => q.2) t) t) := zfr_lp (f := (fun e : (Int × zS) => e.2)) (g := (fun t : ((zS) ⊕ (Int × zS)) => Sum.elim (fun e : (zS) => e) (fun q => q.2) t)) (fun e q h1 => frb_193_7 h1) n e0 t h
theorem fr_193 {v1 : Int} {v2 : Int} {v3 : Int} {s : zS} {q : (Int × zS)} (h : f_193 v1 v2 v3 s = some q) : zfr 25610593661886090515352428441644983175196461590625117288792064 s q.2 := by
  unfold f_193 at h
  obtain ⟨r2, s3, h1, h⟩ := zb_some h
  have f4 := zfr_tr (zfr_rf _ _) (zfr_sub (m2 := 25610593661886090515352428441644983175196461590625117288792064) rfl (fr_154 h1))
  obtain ⟨e5, h6, h⟩ := zo_some h
  rcases e5 with e8 | q9
  · simp only [ze_l] at h
    have f7 : zfr 25610593661886090515352428441644983175196461590625117288792064 s e8 := zfr_tr f4 (frl_193_7 h6)
    cases h
    exact f7
  · cases h
    exact zfr_tr f4 (frl_193_7 h6)
theorem fr_222 {v1 : Int} {s : zS} {q : (Int × zS)} (h : f_222 v1 s = some q) : zfr 191561942608236107294793378393788647952342390272950272 s q.2 := by
  unfold f_222 at h
  obtain ⟨hg1, h⟩ := zg_some h
  by_cases hc2 : v1 = (-1)
  · rw [if_pos hc2] at h
    by_cases hc3 : (gI (sI s 177 21 0) 177 21) = 0
    · rw [if_pos hc3] at h
      cases h
      exact (zfr_tr (zfr_tr (zfr_rf _ _) (zfr_I rfl)) (zfr_I rfl))
    · rw [if_neg hc3] at h
      cases h
      exact (zfr_tr (zfr_tr (zfr_rf _ _) (zfr_I rfl)) (zfr_I rfl))
  · rw [if_neg hc2] at h
    by_cases hc4 : (gI (sI s 177 21 1) 177 21) = 0
    · rw [if_pos hc4] at h
      cases h
      exact (zfr_tr (zfr_tr (zfr_rf _ _) (zfr_I rfl)) (zfr_I rfl))
    · rw [if_neg hc4] at h
      cases h
      exact (zfr_tr (zfr_tr (zfr_rf _ _) (zfr_I rfl)) (zfr_I rfl))
theorem fr_192 {s : zS} {q : (Int × zS)} (h : f_192 s = some q) : zfr 25610593661886090515352428441644983175196461590625117288792064 s q.2 := by
  unfold f_192 at h
  obtain ⟨r2, s3, h1, h⟩ := zb_some h
  have f4 := zfr_tr (zfr_tr (zfr_rf _ _) (zfr_I rfl)) (zfr_sub (m2 := 25610593661886090515352428441644983175196461590625117288792064) rfl (fr_193 h1))
  obtain ⟨r6, s7, h5, h⟩ := zb_some h
  have f8 := zfr_tr f4 (zfr_sub (m2 := 25610593661886090515352428441644983175196461590625117288792064) rfl (fr_222 h5))
  cases h
  exact f8
theorem frj_223_13 {t1 : Int} {s : zS} {q : (Int × zS)} (h : j_223_13 t1 s = some q) : zfr 25610593661886090515352428441644983175196461590625117288792064 s q.2 := by
  unfold j_223_13 at h
  by_cases hc1 : 0 < (gI (sI s 177 0 t1) 177 0)
  · rw [if_pos hc1] at h
    cases h
    exact (zfr_tr (zfr_rf _ _) (zfr_I rfl))
  · rw [if_neg hc1] at h
    obtain ⟨r3, s4, h2, h⟩ := zb_some h
    have f5 := zfr_tr (zfr_tr (zfr_rf _ _) (zfr_I rfl)) (zfr_sub (m2 := 25610593661886090515352428441644983175196461590625117288792064) rfl (fr_193 h2))
    obtain ⟨r7, s8, h6, h⟩ := zb_some h
    have f9 := zfr_tr f5 (zfr_sub (m2 := 25610593661886090515352428441644983175196461590625117288792064) rfl (fr_222 h6))
    cases h
    exact f9
theorem fr_223 {s : zS} {q : (Int × zS)} (h : f_223 s = some q) : zfr 25610593661886090515352428441644983175196461590625117288792064 s q.2 := by
  unfold f_223 at h
  by_cases hc1 : (gI s 177 21) = 0
  · rw [if_pos hc1] at h
    exact zfr_tr (zfr_rf _ _) (frj_223_13 h)
  · rw [if_neg hc1] at h
    exact zfr_tr (zfr_rf _ _) (frj_223_13 h)
theorem frj_224_13 {t1 : Int} {s : zS} {q : (Int × zS)} (h : j_224_13 t1 s = some q) : zfr 25610593661886090515352428441644983175196461590625117288792064 s q.2 := by
  unfold j_224_13 at h
  by_cases hc1 : 0 < (gI (sI s 177 0 t1) 177 0)
  · rw [if_pos hc1] at h
    cases h
    exact (zfr_tr (zfr_rf _ _) (zfr_I rfl))
  · rw [if_neg hc1] at h
    obtain ⟨r3, s4, h2, h⟩ := zb_some h
    have f5 := zfr_tr (zfr_tr (zfr_rf _ _) (zfr_I rfl)) (zfr_sub (m2 := 25610593661886090515352428441644983175196461590625117288792064) rfl (fr_193 h2))
    obtain ⟨r7, s8, h6, h⟩ := zb_some h
    have f9 := zfr_tr f5 (zfr_sub (m2 := 25610593661886090515352428441644983175196461590625117288792064) rfl (fr_222 h6))
    cases h
    exact f9
theorem fr_224 {s : zS} {q : (Int × zS)} (h : f_224 s = some q) : zfr 25610593661886090515352428441644983175196461590625117288792064 s q.2 := by
  unfold f_224 at h
  by_cases hc1 : (gI s 177 19) = 0
  · rw [if_pos hc1] at h
    exact zfr_tr (zfr_rf _ _) (frj_224_13 h)
  · rw [if_neg hc1] at h
    exact zfr_tr (zfr_rf _ _) (frj_224_13 h)
theorem frj_225_26 {v1 : Int} {v2 : Int} {t1 : Int} {s : zS} {q : (Int × zS)} (h : j_225_26 v1 v2 t1 s = some q) : zfr 301319464806993675566525487271672185471764438546130132795392 s q.2 := by
  unfold j_225_26 at h
  by_cases hc1 : 0 < (gI (sI s 177 0 t1) 177 0)
  · rw [if_pos hc1] at h
    cases h
    exact (zfr_tr (zfr_rf _ _) (zfr_I rfl))
  · rw [if_neg hc1] at h
    obtain ⟨r3, s4, h2, h⟩ := zb_some h
    have f5 := zfr_tr (zfr_tr (zfr_rf _ _) (zfr_I rfl)) (zfr_sub (m2 := 301319464806993675566525487271672185471764438546130132795392) rfl (fr_154 h2))
    obtain ⟨r7, s8, h6, h⟩ := zb_some h
    have f9 := zfr_tr f5 (zfr_sub (m2 := 301319464806993675566525487271672185471764438546130132795392) rfl (fr_195 h6))
    obtain ⟨hg10, h⟩ := zg_some h
    obtain ⟨r12, h11, h⟩ := zo_some h
    obtain ⟨hg13, h⟩ := zg_some h
    cases h
    exact f9
theorem fr_225 {v1 : Int} {v2 : Int} {s : zS} {q : (Int × zS)} (h : f_225 v1 v2 s = some q) : zfr 301319464806993675566525487271672185471764438546130132795392 s q.2 := by
  unfold f_225 at h
  obtain ⟨r2, h1, h⟩ := zo_some h
  obtain ⟨hg3, h⟩ := zg_some h
  by_cases hc4 : r2 = 0
  · rw [if_pos hc4] at h
    by_cases hc5 : (gI s 177 21) = 0
    · rw [if_pos hc5] at h
      exact zfr_tr (zfr_rf _ _) (frj_225_26 h)
    · rw [if_neg hc5] at h
      exact zfr_tr (zfr_rf _ _) (frj_225_26 h)
  · rw [if_neg hc4] at h
    exact zfr_tr (zfr_rf _ _) (frj_225_26 h)
theorem frb_226_13 {v1 : Int} {v2 : Int} {s : zS} {q : (Int × Int × zS) ⊕ (Int × zS)} (h : b_226_13 v1 v2 s = some q) : zfr 25610593661886090515352428441644983175196461590625117288792064 s (Sum.elim (fun e : (Int × Int × zS) => e.2.2) (fun e : (Int × zS) => e.2) q) := by
  unfold b_226_13 at h
  obtain ⟨hg1, h⟩ := zg_some h
  obtain ⟨hg2, h⟩ := zg_some h
  by_cases hc3 : v2 < (1 * 2 ^ zsh (gI s 177 13))
  · rw [if_pos hc3] at h
    obtain ⟨r5, s6, h4, h⟩ := zb_some h
    have f7 := zfr_tr (zfr_rf _ _) (zfr_sub (m2 := 25610593661886090515352428441644983175196461590625117288792064) rfl (fr_194 h4))
    obtain ⟨hg8, h⟩ := zg_some h
    by_cases hc9 : r5 = 0
    · rw [if_pos hc9] at h
      cases h
      exact f7
    · rw [if_neg hc9] at h
      cases h
      exact f7
  · rw [if_neg hc3] at h
    cases h
    exact (zfr_rf _ _)
theorem frl_226_13 {n : Nat} {e0 : (Int × Int × zS)} {t : (Int × zS)} (h : zlp (fun (q : Int × Int × zS) => b_226_13 q.1 q.2.1 q.2.2) n e0 = some t) : zfr 25610593661886090515352428441644983175196461590625117288792064 ((fun e : (Int × Int × zS) => e.2.2) e0) ((fun e : (Int × zS) => e.2) t) := zfr_lp (f := (fun e : (Int × Int × zS) => e.2.2)) (g := (fun e : (Int × zS) => e.2)) (fun e q h1 => frb_226_13 h1) n e0 t h
theorem fr_226 {s : zS} {q : (Int × zS)} (h : f_226 s = some q) : zfr 25610593661886090515352428441644983175196461590625117288792064 s q.2 := by
  unfold f_226 at h
  obtain ⟨r2, s3, h1, h⟩ := zb_some h
  have f4 := zfr_tr (zfr_tr (zfr_rf _ _) (zfr_I rfl)) (zfr_sub (m2 := 25610593661886090515352428441644983175196461590625117288792064) rfl (fr_154 h1))
  obtain ⟨e5, h6, h⟩ := zo_some h
  have f7 : zfr 25610593661886090515352428441644983175196461590625117288792064 s e5.2 := zfr_tr f4 (frl_226_13 h6)
  cases h
  exact f7
theorem frb_230_49 {v1 : Int} {v2 : Int} {v3 : Int} {v4 : Int} {v5 : Int} {v6 : Int} {v7 : Int} {v8 : Int} {s : zS} {q : (Int × Int × Int × zS) ⊕ (Int × zS)} (h : b_230_49 v1 v2 v3 v4 v5 v6 v7 v8 s = some q) : zfr 25711008708143844408671393477458601640355247900524685364822016 s (Sum.elim (fun e : (Int × Int × Int × zS) => e.2.2.2) (fun e : (Int × zS) => e.2) q) := by
  unfold b_230_49 at h
  obtain ⟨hg1, h⟩ := zg_some h
  by_cases hc2 : v8 < (gI s 177 1)
  · rw [if_pos hc2] at h
    obtain ⟨hg3, h⟩ := zg_some h
    obtain ⟨hg4, h⟩ := zg_some h
    cases h
    exact (zfr_tr (zfr_rf _ _) (zfr_I rfl))
  · rw [if_neg hc2] at h
    cases h
    exact (zfr_rf _ _)
theorem frl_230_49 {v1 : Int} {v2 : Int} {v3 : Int} {v4 : Int} {v5 : Int} {n : Nat} {e0 : (Int × Int × Int × zS)} {t : (Int × zS)} (h : zlp (fun (q : Int × Int × Int × zS) => b_230_49 v1 v2 v3 v4 v5 q.1 q.2.1 q.2.2.1 q.2.2.2) n e0 = some t) : zfr 25711008708143844408671393477458601640355247900524685364822016 ((fun e : (Int × Int × Int × zS) => e.2.2.2) e0) ((fun e : (Int × zS) => e.2) t) := zfr_lp (f := (fun e : (Int × Int × Int × zS) => e.2.2.2)) (g := (fun e : (Int × zS) => e.2)) (fun e q h1 => frb_230_49 h1) n e0 t h
theorem frb_230_33 {v1 : Int} {v2 : Int} {v3 : Int} {v4 : Int} {v5 : Int} {s : zS} {q : (Int × Int × zS) ⊕ (Int × zS)} (h : b_230_33 v1 v2 v3 v4 v5 s = some q) : zfr 25711008708143844408671393477458601640355247900524685364822016 s (Sum.elim (fun e : (Int × Int × zS) => e.2.2) (fun e : (Int × zS) => e.2) q) := by
  unfold b_230_33 at h
  obtain ⟨hg1, h⟩ := zg_some h
  obtain ⟨hg2, h⟩ := zg_some h
  by_cases hc3 : v5 < v3
  · rw [if_pos hc3] at h
    obtain ⟨e4, h5, h⟩ := zo_some h
    have f6 : zfr 25711008708143844408671393477458601640355247900524685364822016 s e4.2 := zfr_tr (zfr_rf _ _) (frl_230_49 h5)
    obtain ⟨hg7, h⟩ := zg_some h
    obtain ⟨hg8, h⟩ := zg_some h
    by_cases hc9 : e4.1 = ((1 * 2 ^ zsh (gI e4.2 177 1)) - 1)
    · rw [if_pos hc9] at h
      obtain ⟨r11, h10, h⟩ := zo_some h
      obtain ⟨hg12, h⟩ := zg_some h
      by_cases hc13 : r11 = 0
      · rw [if_pos hc13] at h
        cases h
        exact f6
      · rw [if_neg hc13] at h
        obtain ⟨hg14, h⟩ := zg_some h
        by_cases hc15 : v2 = 0
        · rw [if_pos hc15] at h
          obtain ⟨r17, h16, h⟩ := zo_some h
          obtain ⟨hg18, h⟩ := zg_some h
          obtain ⟨hg19, h⟩ := zg_some h
          by_cases hc20 : r17 < v1
          · rw [if_pos hc20] at h
            cases h
            exact f6
          · rw [if_neg hc20] at h
            cases h
            exact f6
        · rw [if_neg hc15] at h
          cases h
          exact f6
    · rw [if_neg hc9] at h
      cases h
      exact f6
  · rw [if_neg hc3] at h
    cases h
    exact (zfr_rf _ _)
theorem frl_230_33 {v1 : Int} {v2 : Int} {v3 : Int} {n : Nat} {e0 : (Int × Int × zS)} {t : (Int × zS)} (h : zlp (fun (q : Int × Int × zS) => b_230_33 v1 v2 v3 q.1 q.2.1 q.2.2) n e0 = some t) : zfr 25711008708143844408671393477458601640355247900524685364822016 ((fun e : (Int × Int × zS) => e.2.2) e0) ((fun e : (Int × zS) => e.2) t) := zfr_lp (f := (fun e : (Int × Int × zS) => e.2.2)) (g := (fun e : (Int × zS) => e.2)) (fun e q h1 => frb_230_33 h1) n e0 t h
theorem fr_230 {v1 : Int} {v2 : Int} {s : zS} {q : (Int × zS)} (h : f_230 v1 v2 s = some q) : zfr 25711008708143844408671393477458601640355247900524685364822016 s q.2 := by
  unfold f_230 at h
  obtain ⟨e1, h2, h⟩ := zo_some h
  obtain ⟨e3, h4, h⟩ := zo_some h
  have f5 : zfr 25711008708143844408671393477458601640355247900524685364822016 s e3.2 := zfr_tr (zfr_rf _ _) (frl_230_33 h4)
  cases h
  exact f5
theorem fr_229 {v1 : Int} {s : zS} {q : (Int × zS)} (h : f_229 v1 s = some q) : zfr 25711008708143844408671393477458601640355247900524685364822016 s q.2 := by
  unfold f_229 at h
  obtain ⟨r2, s3, h1, h⟩ := zb_some h
  have f4 := zfr_tr (zfr_rf _ _) (zfr_sub (m2 := 25711008708143844408671393477458601640355247900524685364822016) rfl (fr_230 h1))
  obtain ⟨hg5, h⟩ := zg_some h
  by_cases hc6 : r2 = 0
  · rw [if_pos hc6] at h
    cases h
    exact f4
  · rw [if_neg hc6] at h
    cases h
    exact f4
theorem frb_228_8 {v1 : Int} {v2 : Int} {s : zS} {q : (Int × Int × zS) ⊕ (Int × zS)} (h : b_228_8 v1 v2 s = some q) : zfr 51321602370029934924023821919103584815551709491149802653614080 s (Sum.elim (fun e : (Int × Int × zS) => e.2.2) (fun e : (Int × zS) => e.2) q) := by
  unfold b_228_8 at h
  obtain ⟨hg1, h⟩ := zg_some h
  obtain ⟨hg2, h⟩ := zg_some h
  by_cases hc3 : v2 < (1 * 2 ^ zsh (gI s 177 13))
  · rw [if_pos hc3] at h
    obtain ⟨r5, s6, h4, h⟩ := zb_some h
    have f7 := zfr_tr (zfr_rf _ _) (zfr_sub (m2 := 51321602370029934924023821919103584815551709491149802653614080) rfl (fr_194 h4))
    obtain ⟨hg8, h⟩ := zg_some h
    by_cases hc9 : r5 = 0
    · rw [if_pos hc9] at h
      cases h
      exact f7
    · rw [if_neg hc9] at h
      obtain ⟨r11, s12, h10, h⟩ := zb_some h
      have f13 := zfr_tr f7 (zfr_sub (m2 := 51321602370029934924023821919103584815551709491149802653614080) rfl (fr_229 h10))
      obtain ⟨hg14, h⟩ := zg_some h
      by_cases hc15 : r11 = 0
      · rw [if_pos hc15] at h
        cases h
        exact f13
      · rw [if_neg hc15] at h
        cases h
        exact f13
  · rw [if_neg hc3] at h
    cases h
    exact (zfr_rf _ _)
theorem frl_228_8 {n : Nat} {e0 : (Int × Int × zS)} {t : (Int × zS)} (h : zlp (fun (q : Int × Int × zS) => b_228_8 q.1 q.2.1 q.2.2) n e0 = some t) : zfr 51321602370029934924023821919103584815551709491149802653614080 ((fun e : (Int × Int × zS) => e.2.2) e0) ((fun e : (Int × zS) => e.2) t) := zfr_lp (f := (fun e : (Int × Int × zS) => e.2.2)) (g := (fun e : (Int × zS) => e.2)) (fun e q h1 => frb_228_8 h1) n e0 t h
theorem fr_228 {s : zS} {q : (Int × zS)} (h : f_228 s = some q) : zfr 51321602370029934924023821919103584815551709491149802653614080 s q.2 := by
  unfold f_228 at h
  obtain ⟨r2, s3, h1, h⟩ := zb_some h
  have f4 := zfr_tr (zfr_rf _ _) (zfr_sub (m2 := 51321602370029934924023821919103584815551709491149802653614080) rfl (fr_154 h1))
  obtain ⟨e5, h6, h⟩ := zo_some h
  have f7 : zfr 51321602370029934924023821919103584815551709491149802653614080 s e5.2 := zfr_tr f4 (frl_228_8 h6)
  cases h
  exact f7
theorem fr_227 {s : zS} {q : (Int × zS)} (h : f_227 s = some q) : zfr 51321602370029934924023821919103584815551709491149802653614080 s q.2 := by
  unfold f_227 at h
  obtain ⟨r2, s3, h1, h⟩ := zb_some h
  have f4 := zfr_tr (zfr_tr (zfr_rf _ _) (zfr_I rfl)) (zfr_sub (m2 := 51321602370029934924023821919103584815551709491149802653614080) rfl (fr_228 h1))
  cases h
  exact f4
theorem fr_235 {s : zS} {q : (Int × zS)} (h : f_235 s = some q) : zfr 25711027289652277407573801072416305837854099277736541840998400 s q.2 := by
  unfold f_235 at h
  obtain ⟨r2, s3, h1, h⟩ := zb_some h
  have f4 := zfr_tr (zfr_tr (zfr_rf _ _) (zfr_I rfl)) (zfr_sub (m2 := 25711027289652277407573801072416305837854099277736541840998400) rfl (fr_154 h1))
  obtain ⟨r6, s7, h5, h⟩ := zb_some h
  have f8 := zfr_tr f4 (zfr_sub (m2 := 25711027289652277407573801072416305837854099277736541840998400) rfl (fr_230 h5))
  cases h
  exact f8
theorem frb_236_42 {v1 : Int} {v2 : Int} {s : zS} {q : (Int × Int × zS) ⊕ (Int × zS)} (h : b_236_42 v1 v2 s = some q) : zfr 25610985980744552182900168178483933654347467987840396290949120 s (Sum.elim (fun e : (Int × Int × zS) => e.2.2) (fun e : (Int × zS) => e.2) q) := by
  unfold b_236_42 at h
  obtain ⟨hg1, h⟩ := zg_some h
  by_cases hc2 : v2 < (gI s 177 18)
  · rw [if_pos hc2] at h
    obtain ⟨r4, s5, h3, h⟩ := zb_some h
    have f6 := zfr_tr (zfr_rf _ _) (zfr_sub (m2 := 25610985980744552182900168178483933654347467987840396290949120) rfl (fr_193 h3))
    obtain ⟨hg7, h⟩ := zg_some h
    by_cases hc8 : r4 = (-1)
    · rw [if_pos hc8] at h
      cases h
      exact f6
    · rw [if_neg hc8] at h
      cases h
      exact f6
  · rw [if_neg hc2] at h
    cases h
    exact (zfr_rf _ _)
theorem frl_236_42 {n : Nat} {e0 : (Int × Int × zS)} {t : (Int × zS)} (h : zlp (fun (q : Int × Int × zS) => b_236_42 q.1 q.2.1 q.2.2) n e0 = some t) : zfr 25610985980744552182900168178483933654347467987840396290949120 ((fun e : (Int × Int × zS) => e.2.2) e0) ((fun e : (Int × zS) => e.2) t) := zfr_lp (f := (fun e : (Int × Int × zS) => e.2.2)) (g := (fun e : (Int × zS) => e.2)) (fun e q h1 => frb_236_42 h1) n e0 t h
theorem frj_236_89_114 {v1 : Int} {v2 : Int} {v3 : Int} {t1 : Int} {t2 : Int} {s : zS} {q : (Int × Int × zS) ⊕ (Int × zS)} (h : j_236_89_114 v1 v2 v3 t1 t2 s = some q) : zfr 25610985980744552182900168178483933654347467987840396290949120 s (Sum.elim (fun e : (Int × Int × zS) => e.2.2) (fun e : (Int × zS) => e.2) q) := by
  unfold j_236_89_114 at h
  obtain ⟨hg1, h⟩ := zg_some h
  obtain ⟨hg2, h⟩ := zg_some h
  obtain ⟨hg3, h⟩ := zg_some h
  by_cases hc4 : (gI (sI s 188 t1 t2) 188 v3) = 0
  · rw [if_pos hc4] at h
    cases h
    exact (zfr_tr (zfr_rf _ _) (zfr_I rfl))
  · rw [if_neg hc4] at h
    cases h
    exact (zfr_tr (zfr_rf _ _) (zfr_I rfl))
theorem frb_236_89 {v1 : Int} {v2 : Int} {v3 : Int} {s : zS} {q : (Int × Int × zS) ⊕ (Int × zS)} (h : b_236_89 v1 v2 v3 s = some q) : zfr 25610985980744552182900168178483933654347467987840396290949120 s (Sum.elim (fun e : (Int × Int × zS) => e.2.2) (fun e : (Int × zS) => e.2) q) := by
  unfold b_236_89 at h
  obtain ⟨hg1, h⟩ := zg_some h
  by_cases hc2 : v3 < 16
  · rw [if_pos hc2] at h
    obtain ⟨hg3, h⟩ := zg_some h
    by_cases hc4 : (zand (v1 / 2 ^ zsh v3) 1) = 1
    · rw [if_pos hc4] at h
      exact zfr_tr (zfr_rf _ _) (frj_236_89_114 h)
    · rw [if_neg hc4] at h
      exact zfr_tr (zfr_rf _ _) (frj_236_89_114 h)
  · rw [if_neg hc2] at h
    cases h
    exact (zfr_rf _ _)
theorem frl_236_89 {v1 : Int} {n : Nat} {e0 : (Int × Int × zS)} {t : (Int × zS)} (h : zlp (fun (q : Int × Int × zS) => b_236_89 v1 q.1 q.2.1 q.2.2) n e0 = some t) : zfr 25610985980744552182900168178483933654347467987840396290949120 ((fun e : (Int × Int × zS) => e.2.2) e0) ((fun e : (Int × zS) => e.2) t) := zfr_lp (f := (fun e : (Int × Int × zS) => e.2.2)) (g := (fun e : (Int × zS) => e.2)) (fun e q h1 => frb_236_89 h1) n e0 t h
theorem frj_236_19 {t1 : Int} {s : zS} {q : (Int × zS)} (h : j_236_19 t1 s = some q) : zfr 25610985980744552182900168178483933654347467987840396290949120 s q.2 := by
  unfold j_236_19 at h
  by_cases hc1 : 0 < (gI (sI s 177 0 t1) 177 0)
  · rw [if_pos hc1] at h
    cases h
    exact (zfr_tr (zfr_rf _ _) (zfr_I rfl))
  · rw [if_neg hc1] at h
    obtain ⟨e2, h3, h⟩ := zo_some h
    have f4 : zfr 25610985980744552182900168178483933654347467987840396290949120 s e2.2 := zfr_tr (zfr_tr (zfr_rf _ _) (zfr_I rfl)) (frl_236_42 h3)
    obtain ⟨e5, h6, h⟩ := zo_some h
    have f7 : zfr 25610985980744552182900168178483933654347467987840396290949120 s e5.2 := zfr_tr f4 (frl_236_89 h6)
    cases h
    exact f7
theorem fr_236 {s : zS} {q : (Int × zS)} (h : f_236 s = some q) : zfr 25610985980744552182900168178483933654347467987840396290949120 s q.2 := by
  unfold f_236 at h
  obtain ⟨r2, s3, h1, h⟩ := zb_some h
  have f4 := zfr_tr (zfr_rf _ _) (zfr_sub (m2 := 25610985980744552182900168178483933654347467987840396290949120) rfl (fr_193 h1))
  obtain ⟨hg5, h⟩ := zg_some h
  by_cases hc6 : r2 = (-1)
  · rw [if_pos hc6] at h
    exact zfr_tr f4 (frj_236_19 h)
  · rw [if_neg hc6] at h
    exact zfr_tr f4 (frj_236_19 h)
theorem frj_237_13 {v1 : Int} {s : zS} {q : (Int × zS)} (h : j_237_13 v1 s = some q) : zfr 191561942608236107294793378393788647952342390272950272 s q.2 := by
  unfold j_237_13 at h
  by_cases hc1 : (gI (sI s 177 0 1) 177 0) = 0
  · rw [if_pos hc1] at h
    obtain ⟨hg2, h⟩ := zg_some h
    by_cases hc3 : (gI s 188 v1) = 0
    · rw [if_pos hc3] at h
      cases h
      exact (zfr_tr (zfr_rf _ _) (zfr_I rfl))
    · rw [if_neg hc3] at h
      cases h
      exact (zfr_tr (zfr_rf _ _) (zfr_I rfl))
  · rw [if_neg hc1] at h
    cases h
    exact (zfr_tr (zfr_rf _ _) (zfr_I rfl))
theorem fr_237 {v1 : Int} {s : zS} {q : (Int × zS)} (h : f_237 v1 s = some q) : zfr 191561942608236107294793378393788647952342390272950272 s q.2 := by
  unfold f_237 at h
  obtain ⟨hg1, h⟩ := zg_some h
  by_cases hc2 : v1 < 0
  · rw [if_pos hc2] at h
    exact zfr_tr (zfr_rf _ _) (frj_237_13 h)
  · rw [if_neg hc2] at h
    by_cases hc3 : v1 < (gI s 177 18)
    · rw [if_pos hc3] at h
      by_cases hc4 : (gI (sI s 177 0 0) 177 0) = 0
      · rw [if_pos hc4] at h
        obtain ⟨hg5, h⟩ := zg_some h
        by_cases hc6 : (gI s 188 v1) = 0
        · rw [if_pos hc6] at h
          cases h
          exact (zfr_tr (zfr_rf _ _) (zfr_I rfl))
        · rw [if_neg hc6] at h
          cases h
          exact (zfr_tr (zfr_rf _ _) (zfr_I rfl))
      · rw [if_neg hc4] at h
        cases h
        exact (zfr_tr (zfr_rf _ _) (zfr_I rfl))
    · rw [if_neg hc3] at h
      exact zfr_tr (zfr_rf _ _) (frj_237_13 h)
theorem frj_239_13 {t1 : Int} {s : zS} {q : (Int × zS)} (h : j_239_13 t1 s = some q) : zfr 191561942608236107294793378393788647952342390272950272 s q.2 := by
  unfold j_239_13 at h
  by_cases hc1 : 0 < (gI (sI s 177 0 t1) 177 0)
  · rw [if_pos hc1] at h
    by_cases hc2 : (gI (sI s 177 0 t1) 177 0) = 0
    · rw [if_pos hc2] at h
      cases h
      exact (zfr_tr (zfr_tr (zfr_rf _ _) (zfr_I rfl)) (zfr_I rfl))
    · rw [if_neg hc2] at h
      cases h
      exact (zfr_tr (zfr_tr (zfr_rf _ _) (zfr_I rfl)) (zfr_I rfl))
  · rw [if_neg hc1] at h
    by_cases hc3 : (gI (sI s 177 0 t1) 177 0) = 0
    · rw [if_pos hc3] at h
      cases h
      exact (zfr_tr (zfr_rf _ _) (zfr_I rfl))
    · rw [if_neg hc3] at h
      cases h
      exact (zfr_tr (zfr_rf _ _) (zfr_I rfl))
theorem fr_239 {s : zS} {q : (Int × zS)} (h : f_239 s = some q) : zfr 191561942608236107294793378393788647952342390272950272 s q.2 := by
  unfold f_239 at h
  by_cases hc1 : (gI s 177 21) = 0
  · rw [if_pos hc1] at h
    exact zfr_tr (zfr_rf _ _) (frj_239_13 h)
  · rw [if_neg hc1] at h
    exact zfr_tr (zfr_rf _ _) (frj_239_13 h)
theorem fr_238 {s : zS} {q : (Int × zS)} (h : f_238 s = some q) : zfr 25710610450865161885804327602024920953756154980695307901206528 s q.2 := by
  unfold f_238 at h
  obtain ⟨r2, s3, h1, h⟩ := zb_some h
  have f4 := zfr_tr (zfr_rf _ _) (zfr_sub (m2 := 25710610450865161885804327602024920953756154980695307901206528) rfl (fr_239 h1))
  obtain ⟨hg5, h⟩ := zg_some h
  by_cases hc6 : r2 = 0
  · rw [if_pos hc6] at h
    cases h
    exact f4
  · rw [if_neg hc6] at h
    obtain ⟨r8, s9, h7, h⟩ := zb_some h
    have f10 := zfr_tr f4 (zfr_sub (m2 := 25710610450865161885804327602024920953756154980695307901206528) rfl (fr_156 h7))
    obtain ⟨hg11, h⟩ := zg_some h
    by_cases hc12 : r8 = 0
    · rw [if_pos hc12] at h
      cases h
      exact f10
    · rw [if_neg hc12] at h
      obtain ⟨r14, s15, h13, h⟩ := zb_some h
      have f16 := zfr_tr (zfr_tr f10 (zfr_I rfl)) (zfr_sub (m2 := 25710610450865161885804327602024920953756154980695307901206528) rfl (fr_154 h13))
      obtain ⟨r18, s19, h17, h⟩ := zb_some h
      have f20 := zfr_tr f16 (zfr_sub (m2 := 25710610450865161885804327602024920953756154980695307901206528) rfl (fr_195 h17))
      obtain ⟨r22, s23, h21, h⟩ := zb_some h
      have f24 := zfr_tr f20 (zfr_sub (m2 := 25710610450865161885804327602024920953756154980695307901206528) rfl (fr_199 h21))
      obtain ⟨r26, h25, h⟩ := zo_some h
      cases h
      exact (zfr_tr (zfr_tr f24 (zfr_J rfl)) (zfr_J rfl))
theorem fr_240 {v1 : Int} {s : zS} {q : (Int × zS)} (h : f_240 v1 s = some q) : zfr 191561942608236107294793378393788647952342390272950272 s q.2 := by
  unfold f_240 at h
  obtain ⟨hg1, h⟩ := zg_some h
  by_cases hc2 : v1 < 0
  · rw [if_pos hc2] at h
    cases h
    exact (zfr_tr (zfr_rf _ _) (zfr_I rfl))
  · rw [if_neg hc2] at h
    by_cases hc3 : v1 < 125
    · rw [if_pos hc3] at h
      obtain ⟨r5, h4, h⟩ := zo_some h
      obtain ⟨hg6, h⟩ := zg_some h
      by_cases hc7 : r5 = 0
      · rw [if_pos hc7] at h
        cases h
        exact (zfr_tr (zfr_rf _ _) (zfr_I rfl))
      · rw [if_neg hc7] at h
        cases h
        exact (zfr_tr (zfr_rf _ _) (zfr_I rfl))
    · rw [if_neg hc3] at h
      cases h
      exact (zfr_tr (zfr_rf _ _) (zfr_I rfl))
theorem fr_241 {s : zS} {q : (Int × zS)} (h : f_241 s = some q) : zfr 25710610450865161885804327602024920953756154980695307901206528 s q.2 := by
  unfold f_241 at h
  obtain ⟨r2, s3, h1, h⟩ := zb_some h
  have f4 := zfr_tr (zfr_rf _ _) (zfr_sub (m2 := 25710610450865161885804327602024920953756154980695307901206528) rfl (fr_239 h1))
  obtain ⟨hg5, h⟩ := zg_some h
  by_cases hc6 : r2 = 0
  · rw [if_pos hc6] at h
    cases h
    exact f4
  · rw [if_neg hc6] at h
    obtain ⟨r8, s9, h7, h⟩ := zb_some h
    have f10 := zfr_tr f4 (zfr_sub (m2 := 25710610450865161885804327602024920953756154980695307901206528) rfl (fr_156 h7))
    obtain ⟨hg11, h⟩ := zg_some h
    by_cases hc12 : r8 = 0
    · rw [if_pos hc12] at h
      cases h
      exact f10
    · rw [if_neg hc12] at h
      obtain ⟨r14, s15, h13, h⟩ := zb_some h
      have f16 := zfr_tr f10 (zfr_sub (m2 := 25710610450865161885804327602024920953756154980695307901206528) rfl (fr_154 h13))
      obtain ⟨r18, s19, h17, h⟩ := zb_some h
      have f20 := zfr_tr f16 (zfr_sub (m2 := 25710610450865161885804327602024920953756154980695307901206528) rfl (fr_195 h17))
      obtain ⟨r22, s23, h21, h⟩ := zb_some h
      have f24 := zfr_tr f20 (zfr_sub (m2 := 25710610450865161885804327602024920953756154980695307901206528) rfl (fr_198 h21))
      obtain ⟨hg25, h⟩ := zg_some h
      by_cases hc26 : r22 = 0
      · rw [if_pos hc26] at h
        cases h
        exact f24
      · rw [if_neg hc26] at h
        cases h
        exact f24
theorem fr_242 {v1 : Int} {s : zS} {q : (Int × zS)} (h : f_242 v1 s = some q) : zfr 18581508432998902407594957704197498851377211856476176384 s q.2 := by
  unfold f_242 at h
  obtain ⟨r2, s3, h1, h⟩ := zb_some h
  have f4 := zfr_tr (zfr_tr (zfr_rf _ _) (zfr_I rfl)) (zfr_sub (m2 := 18581508432998902407594957704197498851377211856476176384) rfl (fr_154 h1))
  obtain ⟨hg5, h⟩ := zg_some h
  by_cases hc6 : t_242_10 v1 = 56
  · rw [if_pos hc6] at h
    cases h
    exact f4
  · rw [if_neg hc6] at h
    by_cases hc7 : t_242_10 v1 = 61
    · rw [if_pos hc7] at h
      cases h
      exact f4
    · rw [if_neg hc7] at h
      by_cases hc8 : t_242_10 v1 = 66
      · rw [if_pos hc8] at h
        cases h
        exact f4
      · rw [if_neg hc8] at h
        by_cases hc9 : t_242_10 v1 = 71
        · rw [if_pos hc9] at h
          cases h
          exact f4
        · rw [if_neg hc9] at h
          by_cases hc10 : t_242_10 v1 = 76
          · rw [if_pos hc10] at h
            by_cases hc11 : (gI s3 177 19) = 0
            · rw [if_pos hc11] at h
              cases h
              exact f4
            · rw [if_neg hc11] at h
              cases h
              exact f4
          · rw [if_neg hc10] at h
            by_cases hc12 : t_242_10 v1 = 89
            · rw [if_pos hc12] at h
              by_cases hc13 : (gI s3 177 21) = 0
              · rw [if_pos hc13] at h
                cases h
                exact f4
              · rw [if_neg hc13] at h
                cases h
                exact f4
            · rw [if_neg hc12] at h
              by_cases hc14 : t_242_10 v1 = 102
              · rw [if_pos hc14] at h
                cases h
                exact f4
              · rw [if_neg hc14] at h
                by_cases hc15 : t_242_10 v1 = 107
                · rw [if_pos hc15] at h
                  cases h
                  exact f4
                · rw [if_neg hc15] at h
                  by_cases hc16 : t_242_10 v1 = 112
                  · rw [if_pos hc16] at h
                    cases h
                    exact f4
                  · rw [if_neg hc16] at h
                    cases h
theorem fr_138 {c0 : Nat} {s : zS} {q : (Unit × zS)} (h : f_138 c0 s = some q) : zfr 11972621413014756705924586149611790497021398855188480 s q.2 := by
  unfold f_138 at h
  obtain ⟨hg1, h⟩ := zg_some h
  cases h
  exact (zfr_tr (zfr_tr (zfr_rf _ _) (zfr_IC0 rfl hg1)) (zfr_IC0 rfl hg1))
theorem fr_61 {s : zS} {q : (Unit × zS)} (h : f_61 s = some q) : zfr 256 s q.2 := by
  unfold f_61 at h
  cases h
  exact (zfr_tr (zfr_tr (zfr_rf _ _) (zfr_I rfl)) (zfr_I rfl))
theorem frb_68_41 {v1 : Int} {v2 : Int} {v3 : Int} {s : zS} {q : (Int × zS) ⊕ ((zS) ⊕ (Unit × zS))} (h : b_68_41 v1 v2 v3 s = some q) : zfr 256 s (Sum.elim (fun e : (Int × zS) => e.2) (fun t : ((zS) ⊕ (Unit × zS)) => Sum.elim (fun e : (zS) => e) (fun q => q.2) t) q) := by
  unfold b_68_41 at h
  obtain ⟨r2, h1, h⟩ := zo_some h
  obtain ⟨hg3, h⟩ := zg_some h
  obtain ⟨hg4, h⟩ := zg_some h
  by_cases hc5 : (v3 + 1) < r2
  · rw [if_pos hc5] at h
    obtain ⟨r7, h6, h⟩ := zo_some h
    obtain ⟨hg8, h⟩ := zg_some h
    obtain ⟨hg9, h⟩ := zg_some h
    by_cases hc10 : r7 = v1
    · rw [if_pos hc10] at h
      obtain ⟨r12, h11, h⟩ := zo_some h
      obtain ⟨hg13, h⟩ := zg_some h
      obtain ⟨hg14, h⟩ := zg_some h
      by_cases hc15 : r12 = v2
      · rw [if_pos hc15] at h
        obtain ⟨hg16, h⟩ := zg_some h
        cases h
        exact (zfr_tr (zfr_tr (zfr_rf _ _) (zfr_I rfl)) (zfr_I rfl))
      · rw [if_neg hc15] at h
        cases h
        exact (zfr_rf _ _)
    · rw [if_neg hc10] at h
      cases h
      exact (zfr_rf _ _)
  · rw [if_neg hc5] at h
    cases h
    exact (zfr_rf _ _)
