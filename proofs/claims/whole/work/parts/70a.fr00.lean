/-! FRAMES: what a method leaves as it was; a mask has a bit for each place that may change (cells; of the seven objects each slot). By program. -/
def zobj (c : Nat) : Bool := c == 0 || (c == 1 || (c == 8 || (c == 10 || (c == 17 || (c == 25 || c == 177)))))
def zob0 (c : Nat) : Nat := match c with
  | 0 => 300
  | 1 => 320
  | 8 => 340
  | 10 => 350
  | 17 => 370
  | 25 => 380
  | _ => 400
def zloc (c : Nat) (i : Int) : Nat := cond (zobj c) (zob0 c + i.toNat) c
def zfr (m : Nat) (s s2 : zS) : Prop := ∀ c i, m.testBit (zloc c i) = false → s2.1 c i = s.1 c i ∧ s2.2.1 c i = s.2.1 c i ∧ s2.2.2 c i = s.2.2 c i
theorem zfr_rf (m : Nat) (s : zS) : zfr m s s := fun _ _ _ => ⟨rfl, rfl, rfl⟩
theorem zfr_tr {m : Nat} {a b c : zS} (h1 : zfr m a b) (h2 : zfr m b c) : zfr m a c := fun x i hx => ⟨(h2 x i hx).1.trans (h1 x i hx).1, (h2 x i hx).2.1.trans (h1 x i hx).2.1, (h2 x i hx).2.2.trans (h1 x i hx).2.2⟩
theorem zfr_sub {m1 m2 : Nat} {a b : zS} (h : Nat.land m1 m2 = m1) (h1 : zfr m1 a b) : zfr m2 a b := fun x i hx => h1 x i (by
  have e : (m1 &&& m2).testBit (zloc x i) = m1.testBit (zloc x i) := by show (Nat.land m1 m2).testBit _ = _; rw [h]
  rw [Nat.testBit_and, hx, Bool.and_false] at e
  exact e.symm)
theorem zfr_I {m c : Nat} {s : zS} {i v : Int} (h : m.testBit (zloc c i) = true) : zfr m s (sI s c i v) := fun x y hx => by
  refine ⟨?_, rfl, rfl⟩
  show (if x = c then (if y = i then _ else _) else _) = _
  by_cases hne : x = c
  · rw [if_pos hne]
    by_cases hn2 : y = i
    · rw [hne, hn2, h] at hx; cases hx
    · rw [if_neg hn2]
  · rw [if_neg hne]
theorem zfr_J {m c : Nat} {s : zS} {i : Int} {v : BitVec 64} (h : m.testBit (zloc c i) = true) : zfr m s (sJ s c i v) := fun x y hx => by
  refine ⟨rfl, ?_, rfl⟩
  show (if x = c then (if y = i then _ else _) else _) = _
  by_cases hne : x = c
  · rw [if_pos hne]
    by_cases hn2 : y = i
    · rw [hne, hn2, h] at hx; cases hx
    · rw [if_neg hn2]
  · rw [if_neg hne]
theorem zfr_P {m c : Nat} {s : zS} {i : Int} {v : Nat} (h : m.testBit (zloc c i) = true) : zfr m s (sP s c i v) := fun x y hx => by
  refine ⟨rfl, rfl, ?_⟩
  show (if x = c then (if y = i then _ else _) else _) = _
  by_cases hne : x = c
  · rw [if_pos hne]
    by_cases hn2 : y = i
    · rw [hne, hn2, h] at hx; cases hx
    · rw [if_neg hn2]
  · rw [if_neg hne]
theorem zfr_cp {m a b : Nat} {s : zS} {i j n : Int} (hb : zobj b = false) (h : m.testBit b = true) : zfr m s (zcp s a i b j n) := fun x y hx => by
  refine ⟨rfl, ?_, rfl⟩
  show (if x = b then _ else _) = _
  have hne : x ≠ b := fun e => by rw [e, zloc, hb] at hx; rw [show (cond false (zob0 b + y.toNat) b) = b from rfl, h] at hx; cases hx
  rw [if_neg hne]
theorem zloc_a {c : Nat} {i : Int} (h : zobj c = false) : zloc c i = c := by rw [zloc, h]; rfl
theorem zfr_IA {m c : Nat} {s : zS} {i v : Int} (hb : zobj c = false) (h : m.testBit c = true) : zfr m s (sI s c i v) := zfr_I (by rw [zloc_a hb]; exact h)
theorem zfr_JA {m c : Nat} {s : zS} {i : Int} {v : BitVec 64} (hb : zobj c = false) (h : m.testBit c = true) : zfr m s (sJ s c i v) := zfr_J (by rw [zloc_a hb]; exact h)
theorem zfr_PA {m c : Nat} {s : zS} {i : Int} {v : Nat} (hb : zobj c = false) (h : m.testBit c = true) : zfr m s (sP s c i v) := zfr_P (by rw [zloc_a hb]; exact h)
def zcm : Nat := 11972621413014756705924586149611790497021398855188480
theorem zcm_ok : ∀ q : Fin 18, ∀ j : Fin 8, zcm.testBit (29 + 8 * q.val + j.val) = true ∧ zobj (29 + 8 * q.val + j.val) = false := by decide +kernel
theorem zfr_code {m c j : Nat} {i : Int} (hm : Nat.land zcm m = zcm) (hj : Nat.ble (j + 1) 8 = true) (hc : zC c = true) : m.testBit (zloc (c + j) i) = true := by
  obtain ⟨q, rfl⟩ := zC_ix hc
  have h1 := zcm_ok q ⟨j, Nat.le_of_ble_eq_true hj⟩
  have e : (zcm &&& m).testBit (29 + 8 * q.val + j) = zcm.testBit (29 + 8 * q.val + j) := by show (Nat.land zcm m).testBit _ = _; rw [hm]
  rw [Nat.testBit_and, h1.1, Bool.true_and] at e
  rw [zloc, h1.2]
  exact e
theorem zfr_IC {m c j : Nat} {s : zS} {i v : Int} (hm : Nat.land zcm m = zcm) (hj : Nat.ble (j + 1) 8 = true) (hc : zC c = true) : zfr m s (sI s (c + j) i v) := zfr_I (zfr_code hm hj hc)
theorem zfr_IC0 {m c : Nat} {s : zS} {i v : Int} (hm : Nat.land zcm m = zcm) (hc : zC c = true) : zfr m s (sI s c i v) := zfr_I (zfr_code (j := 0) hm rfl hc)
theorem zfr_lp {S T : Type} {B : S → Option (S ⊕ T)} {m : Nat} {f : S → zS} {g : T → zS} (h : ∀ s q, B s = some q → zfr m (f s) (Sum.elim f g q)) : ∀ n s t, zlp B n s = some t → zfr m (f s) (g t) := by
  intro n
  induction n with
  | zero => intro s t h1; cases h1
  | succ n ih =>
    intro s t h1
    unfold zlp at h1
    split at h1
    · next s2 e => exact zfr_tr (h s _ e) (ih s2 t h1)
    · next t2 e => cases h1; exact h s _ e
    · cases h1
def zFrec (rec : Nat → Int → Int → BitVec 64 → Int → zS → Option (Unit × zS)) : Prop := ∀ (c : Nat) (a b : Int) (w : BitVec 64) (e : Int) (s : zS) (q : Unit × zS), rec c a b w e s = some q → zfr 19239260838083241802870625048898248928261591440656956380834127638791856333738872368854622194768025215237644615680 s q.2
theorem zfr.i {m c : Nat} {s s2 : zS} (h : zfr m s s2) {i : Int} (hc : m.testBit (zloc c i) = false) : gI s2 c i = gI s c i := by unfold gI; rw [(h c i hc).1]
theorem zfr.j {m c : Nat} {s s2 : zS} (h : zfr m s s2) {i : Int} (hc : m.testBit (zloc c i) = false) : gJ s2 c i = gJ s c i := by unfold gJ; rw [(h c i hc).2.1]
theorem zfr.ia {m c : Nat} {s s2 : zS} (h : zfr m s s2) (hb : zobj c = false) (hc : m.testBit c = false) (i : Int) : gI s2 c i = gI s c i := h.i (by rw [zloc_a hb]; exact hc)
theorem zfr.ja {m c : Nat} {s s2 : zS} (h : zfr m s s2) (hb : zobj c = false) (hc : m.testBit c = false) (i : Int) : gJ s2 c i = gJ s c i := h.j (by rw [zloc_a hb]; exact hc)
theorem zfr.p {m c : Nat} {s s2 : zS} (h : zfr m s s2) {i : Int} (hc : m.testBit (zloc c i) = false) : gP s2 c i = gP s c i := by unfold gP; rw [(h c i hc).2.2]
theorem frb_143_50 {w1 : BitVec 64} {v4 : Int} {s : zS} {q : (Int × zS) ⊕ (zS)} (h : b_143_50 w1 v4 s = some q) : zfr 23240248902782177306903272548027106868967352135463011615475934208866211722036787223881397766278028060219033232535273340928 s (Sum.elim (fun e : (Int × zS) => e.2) (fun e : (zS) => e) q) := by
  unfold b_143_50 at h
  obtain ⟨hg1, h⟩ := zg_some h
  by_cases hc2 : v4 < 0
  · rw [if_pos hc2] at h
    cases h
    exact (zfr_rf _ _)
  · rw [if_neg hc2] at h
    obtain ⟨hg3, h⟩ := zg_some h
    obtain ⟨hg4, h⟩ := zg_some h
    cases h
    exact (zfr_tr (zfr_tr (zfr_rf _ _) (zfr_IA rfl rfl)) (zfr_I rfl))
theorem frl_143_50 {w1 : BitVec 64} {n : Nat} {e0 : (Int × zS)} {t : (zS)} (h : zlp (fun (q : Int × zS) => b_143_50 w1 q.1 q.2) n e0 = some t) : zfr 23240248902782177306903272548027106868967352135463011615475934208866211722036787223881397766278028060219033232535273340928 ((fun e : (Int × zS) => e.2) e0) ((fun e : (zS) => e) t) := zfr_lp (f := (fun e : (Int × zS) => e.2)) (g := (fun e : (zS) => e)) (fun e q h1 => frb_143_50 h1) n e0 t h
theorem frj_143_33 {w1 : BitVec 64} {v3 : Int} {t1 : Int} {s : zS} {q : (Int × zS)} (h : j_143_33 w1 v3 t1 s = some q) : zfr 23240248902782177306903272548027106868967352135463011615475934208866211722036787223881397766278028060219033232535273340928 s q.2 := by
  unfold j_143_33 at h
  by_cases hc1 : 0 < (gI (sI s 177 0 t1) 177 0)
  · rw [if_pos hc1] at h
    cases h
    exact (zfr_tr (zfr_rf _ _) (zfr_I rfl))
  · rw [if_neg hc1] at h
    obtain ⟨e2, h3, h⟩ := zo_some h
    have f4 : zfr 23240248902782177306903272548027106868967352135463011615475934208866211722036787223881397766278028060219033232535273340928 s e2 := zfr_tr (zfr_tr (zfr_rf _ _) (zfr_I rfl)) (frl_143_50 h3)
    cases h
    exact f4
theorem frj_143_12 {w1 : BitVec 64} {v3 : Int} {s : zS} {q : (Int × zS)} (h : j_143_12 w1 v3 s = some q) : zfr 23240248902782177306903272548027106868967352135463011615475934208866211722036787223881397766278028060219033232535273340928 s q.2 := by
  unfold j_143_12 at h
  exact zfr_tr (zfr_rf _ _) (frj_143_33 h)
theorem fr_143 {w1 : BitVec 64} {v3 : Int} {s : zS} {q : (Int × zS)} (h : f_143 w1 v3 s = some q) : zfr 23240248902782177306903272548027106868967352135463011615475934208866211722036787223881397766278028060219033232535273340928 s q.2 := by
  unfold f_143 at h
  obtain ⟨hg1, h⟩ := zg_some h
  by_cases hc2 : v3 < 1
  · rw [if_pos hc2] at h
    exact zfr_tr (zfr_rf _ _) (frj_143_12 h)
  · rw [if_neg hc2] at h
    by_cases hc3 : 8 < v3
    · rw [if_pos hc3] at h
      exact zfr_tr (zfr_rf _ _) (frj_143_12 h)
    · rw [if_neg hc3] at h
      obtain ⟨hg4, h⟩ := zg_some h
      by_cases hc5 : 600 < ((gI s 177 3) + v3)
      · rw [if_pos hc5] at h
        exact zfr_tr (zfr_rf _ _) (frj_143_33 h)
      · rw [if_neg hc5] at h
        exact zfr_tr (zfr_rf _ _) (frj_143_33 h)
theorem fr_144 {v1 : Int} {s : zS} {q : (Int × zS)} (h : f_144 v1 s = some q) : zfr 2582249878086908589655919172003011874329705792829223512830659356540647622016841194629645353280137831435903171972747493376 s q.2 := by
  unfold f_144 at h
  by_cases hc1 : (gI s 177 6) = 0
  · rw [if_pos hc1] at h
    cases h
    exact (zfr_tr (zfr_rf _ _) (zfr_I rfl))
  · rw [if_neg hc1] at h
    obtain ⟨hg2, h⟩ := zg_some h
    by_cases hc3 : v1 = 0
    · rw [if_pos hc3] at h
      cases h
      exact (zfr_tr (zfr_rf _ _) (zfr_I rfl))
    · rw [if_neg hc3] at h
      cases h
      exact (zfr_tr (zfr_rf _ _) (zfr_I rfl))
theorem frj_145_90 {w1 : BitVec 64} {v3 : Int} {t1 : Int} {s : zS} {q : (Int × zS)} (h : j_145_90 w1 v3 t1 s = some q) : zfr 5418017302454755603918487520555763445445479111281041702480494356728386407919173118523278685946780295474152785088372100684578816 s q.2 := by
  unfold j_145_90 at h
  by_cases hc1 : 0 < (gI (sI s 177 0 t1) 177 0)
  · rw [if_pos hc1] at h
    cases h
    exact (zfr_tr (zfr_rf _ _) (zfr_I rfl))
  · rw [if_neg hc1] at h
    obtain ⟨hg2, h⟩ := zg_some h
    cases h
    exact (zfr_tr (zfr_tr (zfr_tr (zfr_tr (zfr_tr (zfr_rf _ _) (zfr_I rfl)) (zfr_JA rfl rfl)) (zfr_IA rfl rfl)) (zfr_I rfl)) (zfr_I rfl))
theorem frj_145_22 {w1 : BitVec 64} {v3 : Int} {t0 : Int} {s : zS} {q : (Int × zS)} (h : j_145_22 w1 v3 t0 s = some q) : zfr 5418017302454755603918487520555763445445479111281041702480494356728386407919173118523278685946780295474152785088372100684578816 s q.2 := by
  unfold j_145_22 at h
  obtain ⟨e1, h2, h⟩ := zo_some h
  obtain ⟨hg3, h⟩ := zg_some h
  by_cases hc4 : e1 = 0
  · rw [if_pos hc4] at h
    exact zfr_tr (zfr_rf _ _) (frj_145_90 h)
  · rw [if_neg hc4] at h
    by_cases hc5 : (gI s 177 10) = 8
    · rw [if_pos hc5] at h
      exact zfr_tr (zfr_rf _ _) (frj_145_90 h)
    · rw [if_neg hc5] at h
      exact zfr_tr (zfr_rf _ _) (frj_145_90 h)
theorem frj_145_21 {w1 : BitVec 64} {v3 : Int} {s : zS} {q : (Int × zS)} (h : j_145_21 w1 v3 s = some q) : zfr 5418017302454755603918487520555763445445479111281041702480494356728386407919173118523278685946780295474152785088372100684578816 s q.2 := by
  unfold j_145_21 at h
  exact zfr_tr (zfr_rf _ _) (frj_145_22 h)
theorem fr_145 {w1 : BitVec 64} {v3 : Int} {s : zS} {q : (Int × zS)} (h : f_145 w1 v3 s = some q) : zfr 5418017302454755603918487520555763445445479111281041702480494356728386407919173118523278685946780295474152785088372100684578816 s q.2 := by
  unfold f_145 at h
  obtain ⟨r2, h1, h⟩ := zo_some h
  obtain ⟨hg3, h⟩ := zg_some h
  by_cases hc4 : r2 = 0
  · rw [if_pos hc4] at h
    exact zfr_tr (zfr_rf _ _) (frj_145_21 h)
  · rw [if_neg hc4] at h
    obtain ⟨hg5, h⟩ := zg_some h
    by_cases hc6 : v3 < 1
    · rw [if_pos hc6] at h
      exact zfr_tr (zfr_rf _ _) (frj_145_21 h)
    · rw [if_neg hc6] at h
      by_cases hc7 : 3 < v3
      · rw [if_pos hc7] at h
        exact zfr_tr (zfr_rf _ _) (frj_145_21 h)
      · rw [if_neg hc7] at h
        exact zfr_tr (zfr_rf _ _) (frj_145_22 h)
theorem frb_154_7 {v1 : Int} {s : zS} {q : (Int × zS) ⊕ (zS)} (h : b_154_7 v1 s = some q) : zfr 21153791001287955166461289857048673274508949854856999017108761448781003709508453457072355034235214918833122209670213668962304 s (Sum.elim (fun e : (Int × zS) => e.2) (fun e : (zS) => e) q) := by
  unfold b_154_7 at h
  obtain ⟨hg1, h⟩ := zg_some h
  obtain ⟨hg2, h⟩ := zg_some h
  by_cases hc3 : v1 < (125 * (gI s 177 10))
  · rw [if_pos hc3] at h
    obtain ⟨hg4, h⟩ := zg_some h
    by_cases hc5 : (gI s 181 v1) = 1
    · rw [if_pos hc5] at h
      obtain ⟨hg6, h⟩ := zg_some h
      obtain ⟨hg7, h⟩ := zg_some h
      cases h
      exact (zfr_tr (zfr_tr (zfr_tr (zfr_rf _ _) (zfr_IA rfl rfl)) (zfr_IA rfl rfl)) (zfr_I rfl))
    · rw [if_neg hc5] at h
      cases h
      exact (zfr_rf _ _)
  · rw [if_neg hc3] at h
    cases h
    exact (zfr_rf _ _)
theorem frl_154_7 {n : Nat} {e0 : (Int × zS)} {t : (zS)} (h : zlp (fun (q : Int × zS) => b_154_7 q.1 q.2) n e0 = some t) : zfr 21153791001287955166461289857048673274508949854856999017108761448781003709508453457072355034235214918833122209670213668962304 ((fun e : (Int × zS) => e.2) e0) ((fun e : (zS) => e) t) := zfr_lp (f := (fun e : (Int × zS) => e.2)) (g := (fun e : (zS) => e)) (fun e q h1 => frb_154_7 h1) n e0 t h
theorem fr_154 {s : zS} {q : (Unit × zS)} (h : f_154 s = some q) : zfr 21153791001287955166461289857048673274508949854856999017108761448781003709508453457072355034235214918833122209670213668962304 s q.2 := by
  unfold f_154 at h
  obtain ⟨e1, h2, h⟩ := zo_some h
  have f3 : zfr 21153791001287955166461289857048673274508949854856999017108761448781003709508453457072355034235214918833122209670213668962304 s e1 := zfr_tr (zfr_tr (zfr_rf _ _) (zfr_I rfl)) (frl_154_7 h2)
  cases h
  exact f3
theorem frj_151_86 {v3 : Int} {v4 : Int} {v5 : Int} {s : zS} {q : (Int × zS)} (h : j_151_86 v3 v4 v5 s = some q) : zfr 5436526869580882564689141149180681034560674442404041576620464522996069789229984097029994713318430162828750134259311782012125184 s q.2 := by
  unfold j_151_86 at h
  by_cases hc1 : 0 < (gI (sI s 177 0 0) 177 0)
  · rw [if_pos hc1] at h
    cases h
    exact (zfr_tr (zfr_rf _ _) (zfr_I rfl))
  · rw [if_neg hc1] at h
    obtain ⟨hg2, h⟩ := zg_some h
    cases h
    exact (zfr_tr (zfr_tr (zfr_tr (zfr_rf _ _) (zfr_I rfl)) (zfr_IA rfl rfl)) (zfr_I rfl))
theorem frj_151_28 {v1 : Int} {v2 : Int} {v3 : Int} {t1 : Int} {s : zS} {q : (Int × zS)} (h : j_151_28 v1 v2 v3 t1 s = some q) : zfr 5436526869580882564689141149180681034560674442404041576620464522996069789229984097029994713318430162828750134259311782012125184 s q.2 := by
  unfold j_151_28 at h
  by_cases hc1 : 0 < (gI (sI s 177 0 t1) 177 0)
  · rw [if_pos hc1] at h
    cases h
    exact (zfr_tr (zfr_rf _ _) (zfr_I rfl))
  · rw [if_neg hc1] at h
    obtain ⟨r3, s4, h2, h⟩ := zb_some h
    have f5 := zfr_tr (zfr_tr (zfr_rf _ _) (zfr_I rfl)) (zfr_sub (m2 := 5436526869580882564689141149180681034560674442404041576620464522996069789229984097029994713318430162828750134259311782012125184) rfl (fr_154 h2))
    obtain ⟨hg6, h⟩ := zg_some h
    obtain ⟨hg7, h⟩ := zg_some h
    by_cases hc8 : v3 = 1
    · rw [if_pos hc8] at h
      by_cases hc9 : (gI s4 181 ((125 * v1) + v2)) = 1
      · rw [if_pos hc9] at h
        exact zfr_tr f5 (frj_151_86 h)
      · rw [if_neg hc9] at h
        by_cases hc10 : (gI s4 177 13) = 12
        · rw [if_pos hc10] at h
          by_cases hc11 : 0 < (gI (sI s4 177 0 3) 177 0)
          · rw [if_pos hc11] at h
            cases h
            exact (zfr_tr f5 (zfr_I rfl))
          · rw [if_neg hc11] at h
            cases h
            exact (zfr_tr (zfr_tr (zfr_tr f5 (zfr_I rfl)) (zfr_IA rfl rfl)) (zfr_I rfl))
        · rw [if_neg hc10] at h
          exact zfr_tr f5 (frj_151_86 h)
    · rw [if_neg hc8] at h
      exact zfr_tr f5 (frj_151_86 h)
theorem frj_151_23 {v1 : Int} {v2 : Int} {v3 : Int} {s : zS} {q : (Int × zS)} (h : j_151_23 v1 v2 v3 s = some q) : zfr 5436526869580882564689141149180681034560674442404041576620464522996069789229984097029994713318430162828750134259311782012125184 s q.2 := by
  unfold j_151_23 at h
  exact zfr_tr (zfr_rf _ _) (frj_151_28 h)
theorem fr_151 {v1 : Int} {v2 : Int} {v3 : Int} {s : zS} {q : (Int × zS)} (h : f_151 v1 v2 v3 s = some q) : zfr 5436526869580882564689141149180681034560674442404041576620464522996069789229984097029994713318430162828750134259311782012125184 s q.2 := by
  unfold f_151 at h
  obtain ⟨r2, h1, h⟩ := zo_some h
  obtain ⟨hg3, h⟩ := zg_some h
  by_cases hc4 : r2 = 0
  · rw [if_pos hc4] at h
    obtain ⟨hg5, h⟩ := zg_some h
    by_cases hc6 : v3 < 0
    · rw [if_pos hc6] at h
      exact zfr_tr (zfr_rf _ _) (frj_151_23 h)
    · rw [if_neg hc6] at h
      by_cases hc7 : 2 < v3
      · rw [if_pos hc7] at h
        exact zfr_tr (zfr_rf _ _) (frj_151_23 h)
      · rw [if_neg hc7] at h
        exact zfr_tr (zfr_rf _ _) (frj_151_28 h)
  · rw [if_neg hc4] at h
    exact zfr_tr (zfr_rf _ _) (frj_151_28 h)
theorem fr_158 {v1 : Int} {v2 : Int} {s : zS} {q : (Unit × zS)} (h : f_158 v1 v2 s = some q) : zfr 709803441694928604052074031140629428079727891296209043243642772637343054847672335664403558977866573700692523032925363513371656192000 s q.2 := by
  unfold f_158 at h
  obtain ⟨hg1, h⟩ := zg_some h
  cases h
  exact (zfr_tr (zfr_tr (zfr_tr (zfr_tr (zfr_tr (zfr_tr (zfr_tr (zfr_rf _ _) (zfr_IA rfl rfl)) (zfr_IA rfl rfl)) (zfr_IA rfl rfl)) (zfr_IA rfl rfl)) (zfr_IA rfl rfl)) (zfr_JA rfl rfl)) (zfr_I rfl))
theorem frb_159_0 {s : zS} {q : (zS) ⊕ (zS)} (h : b_159_0 s = some q) : zfr 5372047532359078790433177481777224675408096833540644614392804187440828783873399644639950411826770432563695471237719420418637430784 s (Sum.elim (fun e : (zS) => e) (fun e : (zS) => e) q) := by
  unfold b_159_0 at h
  by_cases hc1 : (gI s 177 26) < (gI s 177 3)
  · rw [if_pos hc1] at h
    obtain ⟨hg2, h⟩ := zg_some h
    by_cases hc3 : 32 < (gI s 178 (gI s 177 26))
    · rw [if_pos hc3] at h
      cases h
      exact (zfr_rf _ _)
    · rw [if_neg hc3] at h
      cases h
      exact (zfr_tr (zfr_rf _ _) (zfr_I rfl))
  · rw [if_neg hc1] at h
    cases h
    exact (zfr_rf _ _)
theorem frl_159_0 {n : Nat} {e0 : (zS)} {t : (zS)} (h : zlp (fun (q : zS) => b_159_0 q) n e0 = some t) : zfr 5372047532359078790433177481777224675408096833540644614392804187440828783873399644639950411826770432563695471237719420418637430784 ((fun e : (zS) => e) e0) ((fun e : (zS) => e) t) := zfr_lp (f := (fun e : (zS) => e)) (g := (fun e : (zS) => e)) (fun e q h1 => frb_159_0 h1) n e0 t h
theorem frj_159_231 {v1 : Int} {s : zS} {q : (Unit × zS)} (h : j_159_231 v1 s = some q) : zfr 5372047532359078790433177481777224675408096833540644614392804187440828783873399644639950411826770432563695471237719420418637430784 s q.2 := by
  unfold j_159_231 at h
  obtain ⟨r2, h1, h⟩ := zo_some h
  cases h
  exact (zfr_tr (zfr_tr (zfr_rf _ _) (zfr_I rfl)) (zfr_I rfl))
theorem frj_159_200 {v1 : Int} {v2 : Int} {s : zS} {q : (Unit × zS)} (h : j_159_200 v1 v2 s = some q) : zfr 5372047532359078790433177481777224675408096833540644614392804187440828783873399644639950411826770432563695471237719420418637430784 s q.2 := by
  unfold j_159_200 at h
  obtain ⟨hg1, h⟩ := zg_some h
  by_cases hc2 : v1 = 58
  · rw [if_pos hc2] at h
    obtain ⟨hg3, h⟩ := zg_some h
    by_cases hc4 : v2 = 62
    · rw [if_pos hc4] at h
      cases h
      exact (zfr_tr (zfr_tr (zfr_rf _ _) (zfr_I rfl)) (zfr_I rfl))
    · rw [if_neg hc4] at h
      exact zfr_tr (zfr_rf _ _) (frj_159_231 h)
  · rw [if_neg hc2] at h
    exact zfr_tr (zfr_rf _ _) (frj_159_231 h)
theorem frj_159_169 {v1 : Int} {v2 : Int} {s : zS} {q : (Unit × zS)} (h : j_159_169 v1 v2 s = some q) : zfr 5372047532359078790433177481777224675408096833540644614392804187440828783873399644639950411826770432563695471237719420418637430784 s q.2 := by
  unfold j_159_169 at h
  obtain ⟨hg1, h⟩ := zg_some h
  by_cases hc2 : v1 = 60
  · rw [if_pos hc2] at h
    obtain ⟨hg3, h⟩ := zg_some h
    by_cases hc4 : v2 = 58
    · rw [if_pos hc4] at h
      cases h
      exact (zfr_tr (zfr_tr (zfr_rf _ _) (zfr_I rfl)) (zfr_I rfl))
    · rw [if_neg hc4] at h
      exact zfr_tr (zfr_rf _ _) (frj_159_200 h)
  · rw [if_neg hc2] at h
    exact zfr_tr (zfr_rf _ _) (frj_159_200 h)
theorem frj_159_138 {v1 : Int} {v2 : Int} {s : zS} {q : (Unit × zS)} (h : j_159_138 v1 v2 s = some q) : zfr 5372047532359078790433177481777224675408096833540644614392804187440828783873399644639950411826770432563695471237719420418637430784 s q.2 := by
  unfold j_159_138 at h
  obtain ⟨hg1, h⟩ := zg_some h
  by_cases hc2 : v1 = 43
  · rw [if_pos hc2] at h
    obtain ⟨hg3, h⟩ := zg_some h
    by_cases hc4 : v2 = 43
    · rw [if_pos hc4] at h
      cases h
      exact (zfr_tr (zfr_tr (zfr_rf _ _) (zfr_I rfl)) (zfr_I rfl))
    · rw [if_neg hc4] at h
      exact zfr_tr (zfr_rf _ _) (frj_159_169 h)
  · rw [if_neg hc2] at h
    exact zfr_tr (zfr_rf _ _) (frj_159_169 h)
theorem frb_163_4 {v1 : Int} {v2 : Int} {s : zS} {q : (Int × Int × zS) ⊕ (Int × Int × zS)} (h : b_163_4 v1 v2 s = some q) : zfr 3292545261768467645749366843669911897830769027008782183014944501979862803019180427359969607248665748990652063016666741546906812416 s (Sum.elim (fun e : (Int × Int × zS) => e.2.2) (fun e : (Int × Int × zS) => e.2.2) q) := by
  unfold b_163_4 at h
  obtain ⟨r2, h1, h⟩ := zo_some h
  obtain ⟨r4, h3, h⟩ := zo_some h
  obtain ⟨hg5, h⟩ := zg_some h
  by_cases hc6 : r4 = 0
  · rw [if_pos hc6] at h
    cases h
    exact (zfr_rf _ _)
  · rw [if_neg hc6] at h
    obtain ⟨hg7, h⟩ := zg_some h
    by_cases hc8 : v2 < 3
    · rw [if_pos hc8] at h
      obtain ⟨r10, h9, h⟩ := zo_some h
      cases h
      exact (zfr_tr (zfr_rf _ _) (zfr_I rfl))
    · rw [if_neg hc8] at h
      cases h
      exact (zfr_tr (zfr_rf _ _) (zfr_I rfl))
theorem frl_163_4 {n : Nat} {e0 : (Int × Int × zS)} {t : (Int × Int × zS)} (h : zlp (fun (q : Int × Int × zS) => b_163_4 q.1 q.2.1 q.2.2) n e0 = some t) : zfr 3292545261768467645749366843669911897830769027008782183014944501979862803019180427359969607248665748990652063016666741546906812416 ((fun e : (Int × Int × zS) => e.2.2) e0) ((fun e : (Int × Int × zS) => e.2.2) t) := zfr_lp (f := (fun e : (Int × Int × zS) => e.2.2)) (g := (fun e : (Int × Int × zS) => e.2.2)) (fun e q h1 => frb_163_4 h1) n e0 t h
theorem fr_163 {s : zS} {q : (Unit × zS)} (h : f_163 s = some q) : zfr 3292545261768467645749366843669911897830769027008782183014944501979862803019180427359969607248665748990652063016666741546906812416 s q.2 := by
  unfold f_163 at h
  obtain ⟨e1, h2, h⟩ := zo_some h
  have f3 : zfr 3292545261768467645749366843669911897830769027008782183014944501979862803019180427359969607248665748990652063016666741546906812416 s e1.2.2 := zfr_tr (zfr_rf _ _) (frl_163_4 h2)
  obtain ⟨hg4, h⟩ := zg_some h
  by_cases hc5 : 3 < e1.2.1
  · rw [if_pos hc5] at h
    cases h
    exact (zfr_tr (zfr_tr f3 (zfr_I rfl)) (zfr_I rfl))
  · rw [if_neg hc5] at h
    cases h
    exact (zfr_tr (zfr_tr f3 (zfr_I rfl)) (zfr_I rfl))
theorem frb_161_4 {w1 : BitVec 64} {v3 : Int} {s : zS} {q : (BitVec 64 × Int × zS) ⊕ (BitVec 64 × Int × zS)} (h : b_161_4 w1 v3 s = some q) : zfr 1906210414708060215960159751598370046112550489320873895429704711672552149116367615839982404196595959941956457535964955632419733504 s (Sum.elim (fun e : (BitVec 64 × Int × zS) => e.2.2) (fun e : (BitVec 64 × Int × zS) => e.2.2) q) := by
  unfold b_161_4 at h
  obtain ⟨r2, h1, h⟩ := zo_some h
  obtain ⟨r4, h3, h⟩ := zo_some h
  obtain ⟨hg5, h⟩ := zg_some h
  by_cases hc6 : r4 = 0
  · rw [if_pos hc6] at h
    cases h
    exact (zfr_rf _ _)
  · rw [if_neg hc6] at h
    obtain ⟨hg7, h⟩ := zg_some h
    by_cases hc8 : v3 < 7
    · rw [if_pos hc8] at h
      obtain ⟨r10, h9, h⟩ := zo_some h
      obtain ⟨hg11, h⟩ := zg_some h
      cases h
      exact (zfr_tr (zfr_rf _ _) (zfr_I rfl))
    · rw [if_neg hc8] at h
      cases h
      exact (zfr_tr (zfr_rf _ _) (zfr_I rfl))
theorem frl_161_4 {n : Nat} {e0 : (BitVec 64 × Int × zS)} {t : (BitVec 64 × Int × zS)} (h : zlp (fun (q : BitVec 64 × Int × zS) => b_161_4 q.1 q.2.1 q.2.2) n e0 = some t) : zfr 1906210414708060215960159751598370046112550489320873895429704711672552149116367615839982404196595959941956457535964955632419733504 ((fun e : (BitVec 64 × Int × zS) => e.2.2) e0) ((fun e : (BitVec 64 × Int × zS) => e.2.2) t) := zfr_lp (f := (fun e : (BitVec 64 × Int × zS) => e.2.2)) (g := (fun e : (BitVec 64 × Int × zS) => e.2.2)) (fun e q h1 => frb_161_4 h1) n e0 t h
theorem frj_161_73 {w1 : BitVec 64} {v3 : Int} {t0 : Int} {s : zS} {q : (Unit × zS)} (h : j_161_73 w1 v3 t0 s = some q) : zfr 1906210414708060215960159751598370046112550489320873895429704711672552149116367615839982404196595959941956457535964955632419733504 s q.2 := by
  unfold j_161_73 at h
  obtain ⟨hg1, h⟩ := zg_some h
  by_cases hc2 : t0 = (-1)
  · rw [if_pos hc2] at h
    obtain ⟨hg3, h⟩ := zg_some h
    by_cases hc4 : 6 < v3
    · rw [if_pos hc4] at h
      cases h
      exact (zfr_tr (zfr_tr (zfr_rf _ _) (zfr_I rfl)) (zfr_J rfl))
    · rw [if_neg hc4] at h
      cases h
      exact (zfr_tr (zfr_tr (zfr_rf _ _) (zfr_I rfl)) (zfr_J rfl))
  · rw [if_neg hc2] at h
    cases h
    exact (zfr_tr (zfr_tr (zfr_rf _ _) (zfr_I rfl)) (zfr_J rfl))
theorem fr_161 {s : zS} {q : (Unit × zS)} (h : f_161 s = some q) : zfr 1906210414708060215960159751598370046112550489320873895429704711672552149116367615839982404196595959941956457535964955632419733504 s q.2 := by
  unfold f_161 at h
  obtain ⟨e1, h2, h⟩ := zo_some h
  have f3 : zfr 1906210414708060215960159751598370046112550489320873895429704711672552149116367615839982404196595959941956457535964955632419733504 s e1.2.2 := zfr_tr (zfr_rf _ _) (frl_161_4 h2)
  obtain ⟨hg4, h⟩ := zg_some h
  by_cases hc5 : 7 < e1.2.1
  · rw [if_pos hc5] at h
    exact zfr_tr f3 (frj_161_73 h)
  · rw [if_neg hc5] at h
    obtain ⟨r7, h6, h⟩ := zo_some h
    exact zfr_tr f3 (frj_161_73 h)
theorem frj_159_38 {s : zS} {q : (Unit × zS)} (h : j_159_38 s = some q) : zfr 5372047532359078790433177481777224675408096833540644614392804187440828783873399644639950411826770432563695471237719420418637430784 s q.2 := by
  unfold j_159_38 at h
  obtain ⟨r2, h1, h⟩ := zo_some h
  obtain ⟨r4, h3, h⟩ := zo_some h
  obtain ⟨hg5, h⟩ := zg_some h
  by_cases hc6 : r2 = (-1)
  · rw [if_pos hc6] at h
    cases h
    exact (zfr_tr (zfr_tr (zfr_rf _ _) (zfr_I rfl)) (zfr_I rfl))
  · rw [if_neg hc6] at h
    obtain ⟨r8, h7, h⟩ := zo_some h
    obtain ⟨hg9, h⟩ := zg_some h
    by_cases hc10 : r8 = 0
    · rw [if_pos hc10] at h
      obtain ⟨r12, h11, h⟩ := zo_some h
      obtain ⟨hg13, h⟩ := zg_some h
      by_cases hc14 : r12 = 0
      · rw [if_pos hc14] at h
        by_cases hc15 : r2 = 45
        · rw [if_pos hc15] at h
          obtain ⟨hg16, h⟩ := zg_some h
          by_cases hc17 : r4 = 62
          · rw [if_pos hc17] at h
            cases h
            exact (zfr_tr (zfr_tr (zfr_tr (zfr_rf _ _) (zfr_I rfl)) (zfr_I rfl)) (zfr_I rfl))
          · rw [if_neg hc17] at h
            exact zfr_tr (zfr_tr (zfr_rf _ _) (zfr_I rfl)) (frj_159_138 h)
        · rw [if_neg hc15] at h
          exact zfr_tr (zfr_tr (zfr_rf _ _) (zfr_I rfl)) (frj_159_138 h)
      · rw [if_neg hc14] at h
        obtain ⟨r19, s20, h18, h⟩ := zb_some h
        have f21 := zfr_tr (zfr_tr (zfr_rf _ _) (zfr_I rfl)) (zfr_sub (m2 := 5372047532359078790433177481777224675408096833540644614392804187440828783873399644639950411826770432563695471237719420418637430784) rfl (fr_163 h18))
        cases h
        exact f21
    · rw [if_neg hc10] at h
      obtain ⟨r23, s24, h22, h⟩ := zb_some h
      have f25 := zfr_tr (zfr_tr (zfr_rf _ _) (zfr_I rfl)) (zfr_sub (m2 := 5372047532359078790433177481777224675408096833540644614392804187440828783873399644639950411826770432563695471237719420418637430784) rfl (fr_161 h22))
      cases h
      exact f25
theorem fr_159 {s : zS} {q : (Unit × zS)} (h : f_159 s = some q) : zfr 5372047532359078790433177481777224675408096833540644614392804187440828783873399644639950411826770432563695471237719420418637430784 s q.2 := by
  unfold f_159 at h
  obtain ⟨e1, h2, h⟩ := zo_some h
  have f3 : zfr 5372047532359078790433177481777224675408096833540644614392804187440828783873399644639950411826770432563695471237719420418637430784 s e1 := zfr_tr (zfr_rf _ _) (frl_159_0 h2)
  exact zfr_tr f3 (frj_159_38 h)
theorem fr_172 {v1 : Int} {v2 : Int} {v3 : Int} {s : zS} {q : (Unit × zS)} (h : f_172 v1 v2 v3 s = some q) : zfr 5678427533559428832416592249125035424637823130369672345949142181098744438386092915486444563253413990810498034677519813887423638667264 s q.2 := by
  unfold f_172 at h
  obtain ⟨hg1, h⟩ := zg_some h
  cases h
  exact (zfr_tr (zfr_tr (zfr_tr (zfr_tr (zfr_rf _ _) (zfr_IA rfl rfl)) (zfr_IA rfl rfl)) (zfr_IA rfl rfl)) (zfr_I rfl))
theorem frj_171_103 {s : zS} {q : (Int × zS)} (h : j_171_103 s = some q) : zfr 9232816789566430931467395582309959789711870683684258206781748848472900541260816102671515310604432578301144184534978997929795746004992 s q.2 := by
  unfold j_171_103 at h
  obtain ⟨r2, s3, h1, h⟩ := zb_some h
  have f4 := zfr_tr (zfr_rf _ _) (zfr_sub (m2 := 9232816789566430931467395582309959789711870683684258206781748848472900541260816102671515310604432578301144184534978997929795746004992) rfl (fr_158 h1))
  cases h
  exact f4
theorem frb_175_101 {v3 : Int} {s : zS} {q : (Int × zS) ⊕ ((zS) ⊕ (Int × zS))} (h : b_175_101 v3 s = some q) : zfr 8517641300339143248624888373687553136956734695554508518923713271648116657629270367362471801214739234167887966030815914996005452382208 s (Sum.elim (fun e : (Int × zS) => e.2) (fun t : ((zS) ⊕ (Int × zS)) => Sum.elim (fun e : (zS) => e) (fun q => q.2) t) q) := by
  unfold b_175_101 at h
  obtain ⟨hg1, h⟩ := zg_some h
  by_cases hc2 : v3 < (gI s 177 10)
  · rw [if_pos hc2] at h
    obtain ⟨hg3, h⟩ := zg_some h
    by_cases hc4 : (gJ s 179 v3) = (gJ s 177 29)
    · rw [if_pos hc4] at h
      obtain ⟨r6, s7, h5, h⟩ := zb_some h
      have f8 := zfr_tr (zfr_rf _ _) (zfr_sub (m2 := 8517641300339143248624888373687553136956734695554508518923713271648116657629270367362471801214739234167887966030815914996005452382208) rfl (fr_172 h5))
      obtain ⟨hg9, h⟩ := zg_some h
      cases h
      exact (zfr_tr (zfr_tr f8 (zfr_IA rfl rfl)) (zfr_I rfl))
    · rw [if_neg hc4] at h
      cases h
      exact (zfr_rf _ _)
  · rw [if_neg hc2] at h
    cases h
    exact (zfr_rf _ _)
theorem frl_175_101 {n : Nat} {e0 : (Int × zS)} {t : ((zS) ⊕ (Int × zS))} (h : zlp (fun (q : Int × zS) => b_175_101 q.1 q.2) n e0 = some t) : zfr 8517641300339143248624888373687553136956734695554508518923713271648116657629270367362471801214739234167887966030815914996005452382208 ((fun e : (Int × zS) => e.2) e0) ((fun t : ((zS) ⊕ (Int × zS)) => Sum.elim (fun e : (zS) => e) (fun q => q.2) t) t) := zfr_lp (f := (fun e : (Int × zS) => e.2)) (g := (fun t : ((zS) ⊕ (Int × zS)) => Sum.elim (fun e : (zS) => e) (fun q => q.2) t)) (fun e q h1 => frb_175_101 h1) n e0 t h
theorem fr_175 {s : zS} {q : (Int × zS)} (h : f_175 s = some q) : zfr 8517641300339143248624888373687553136956734695554508518923713271648116657629270367362471801214739234167887966030815914996005452382208 s q.2 := by
  unfold f_175 at h
  obtain ⟨e1, h2, h⟩ := zo_some h
  obtain ⟨hg3, h⟩ := zg_some h
  by_cases hc4 : e1 = (-1)
  · rw [if_pos hc4] at h
    obtain ⟨e5, h6, h⟩ := zo_some h
    rcases e5 with e8 | q9
    · simp only [ze_l] at h
      have f7 : zfr 8517641300339143248624888373687553136956734695554508518923713271648116657629270367362471801214739234167887966030815914996005452382208 s e8 := zfr_tr (zfr_rf _ _) (frl_175_101 h6)
      cases h
      exact f7
    · cases h
      exact zfr_tr (zfr_rf _ _) (frl_175_101 h6)
  · rw [if_neg hc4] at h
    obtain ⟨r11, s12, h10, h⟩ := zb_some h
    have f13 := zfr_tr (zfr_rf _ _) (zfr_sub (m2 := 8517641300339143248624888373687553136956734695554508518923713271648116657629270367362471801214739234167887966030815914996005452382208) rfl (fr_172 h10))
    obtain ⟨hg14, h⟩ := zg_some h
    cases h
    exact (zfr_tr (zfr_tr f13 (zfr_IA rfl rfl)) (zfr_I rfl))
theorem frj_174_99 {s : zS} {q : (Int × zS)} (h : j_174_99 s = some q) : zfr 9227444742034071852676962404828182565036462586850717562167356044285459712476942703026875360192605807868580489063741278509377108574208 s q.2 := by
  unfold j_174_99 at h
  obtain ⟨r2, s3, h1, h⟩ := zb_some h
  have f4 := zfr_tr (zfr_rf _ _) (zfr_sub (m2 := 9227444742034071852676962404828182565036462586850717562167356044285459712476942703026875360192605807868580489063741278509377108574208) rfl (fr_172 h1))
  by_cases hc5 : (gI s3 177 27) = 23
  · rw [if_pos hc5] at h
    obtain ⟨hg6, h⟩ := zg_some h
    cases h
    exact (zfr_tr (zfr_tr f4 (zfr_IA rfl rfl)) (zfr_I rfl))
  · rw [if_neg hc5] at h
    obtain ⟨hg7, h⟩ := zg_some h
    cases h
    exact (zfr_tr (zfr_tr f4 (zfr_IA rfl rfl)) (zfr_I rfl))
theorem fr_174 {s : zS} {q : (Int × zS)} (h : f_174 s = some q) : zfr 9227444742034071852676962404828182565036462586850717562167356044285459712476942703026875360192605807868580489063741278509377108574208 s q.2 := by
  unfold f_174 at h
  obtain ⟨r2, h1, h⟩ := zo_some h
  obtain ⟨hg3, h⟩ := zg_some h
  by_cases hc4 : r2 = 16
  · rw [if_pos hc4] at h
    obtain ⟨r6, s7, h5, h⟩ := zb_some h
    have f8 := zfr_tr (zfr_rf _ _) (zfr_sub (m2 := 9227444742034071852676962404828182565036462586850717562167356044285459712476942703026875360192605807868580489063741278509377108574208) rfl (fr_158 h5))
    cases h
    exact f8
  · rw [if_neg hc4] at h
    by_cases hc9 : (gI s 177 27) = 45
    · rw [if_pos hc9] at h
      obtain ⟨r11, s12, h10, h⟩ := zb_some h
      have f13 := zfr_tr (zfr_rf _ _) (zfr_sub (m2 := 9227444742034071852676962404828182565036462586850717562167356044285459712476942703026875360192605807868580489063741278509377108574208) rfl (fr_158 h10))
      cases h
      exact f13
    · rw [if_neg hc9] at h
      by_cases hc14 : (gI s 177 27) = 49
      · rw [if_pos hc14] at h
        obtain ⟨r16, s17, h15, h⟩ := zb_some h
        have f18 := zfr_tr (zfr_rf _ _) (zfr_sub (m2 := 9227444742034071852676962404828182565036462586850717562167356044285459712476942703026875360192605807868580489063741278509377108574208) rfl (fr_158 h15))
        cases h
        exact f18
      · rw [if_neg hc14] at h
        by_cases hc19 : (gI s 177 27) = 1
        · rw [if_pos hc19] at h
          obtain ⟨r21, s22, h20, h⟩ := zb_some h
          have f23 := zfr_tr (zfr_rf _ _) (zfr_sub (m2 := 9227444742034071852676962404828182565036462586850717562167356044285459712476942703026875360192605807868580489063741278509377108574208) rfl (fr_175 h20))
          obtain ⟨hg24, h⟩ := zg_some h
          by_cases hc25 : r21 = 0
          · rw [if_pos hc25] at h
            cases h
            exact f23
          · rw [if_neg hc25] at h
            cases h
            exact f23
        · rw [if_neg hc19] at h
          by_cases hc26 : (gI s 177 27) = 21
          · rw [if_pos hc26] at h
            exact zfr_tr (zfr_rf _ _) (frj_174_99 h)
          · rw [if_neg hc26] at h
            by_cases hc27 : (gI s 177 27) = 22
            · rw [if_pos hc27] at h
              exact zfr_tr (zfr_rf _ _) (frj_174_99 h)
            · rw [if_neg hc27] at h
              by_cases hc28 : (gI s 177 27) = 23
              · rw [if_pos hc28] at h
                exact zfr_tr (zfr_rf _ _) (frj_174_99 h)
              · rw [if_neg hc28] at h
                cases h
                exact (zfr_rf _ _)
theorem frj_171_118 {v1 : Int} {s : zS} {q : (Int × zS)} (h : j_171_118 v1 s = some q) : zfr 9232816789566430931467395582309959789711870683684258206781748848472900541260816102671515310604432578301144184534978997929795746004992 s q.2 := by
  unfold j_171_118 at h
  obtain ⟨hg1, h⟩ := zg_some h
  by_cases hc2 : v1 = 0
  · rw [if_pos hc2] at h
    by_cases hc3 : (gI s 177 27) = 41
    · rw [if_pos hc3] at h
      obtain ⟨r5, s6, h4, h⟩ := zb_some h
      have f7 := zfr_tr (zfr_rf _ _) (zfr_sub (m2 := 9232816789566430931467395582309959789711870683684258206781748848472900541260816102671515310604432578301144184534978997929795746004992) rfl (fr_158 h4))
      cases h
      exact f7
    · rw [if_neg hc3] at h
      obtain ⟨r9, s10, h8, h⟩ := zb_some h
      have f11 := zfr_tr (zfr_rf _ _) (zfr_sub (m2 := 9232816789566430931467395582309959789711870683684258206781748848472900541260816102671515310604432578301144184534978997929795746004992) rfl (fr_174 h8))
      cases h
      exact f11
  · rw [if_neg hc2] at h
    obtain ⟨r13, s14, h12, h⟩ := zb_some h
    have f15 := zfr_tr (zfr_rf _ _) (zfr_sub (m2 := 9232816789566430931467395582309959789711870683684258206781748848472900541260816102671515310604432578301144184534978997929795746004992) rfl (fr_158 h12))
    cases h
    exact f15
theorem frj_173_32 {v1 : Int} {v2 : Int} {v3 : Int} {t0 : Int} {s : zS} {q : (Int × zS)} (h : j_173_32 v1 v2 v3 t0 s = some q) : zfr 5372047532359078790433177481777224675408096833540644614392804187440828783873399644639950411826770432563695471237719420418637430784 s q.2 := by
  unfold j_173_32 at h
  obtain ⟨hg1, h⟩ := zg_some h
  by_cases hc2 : t0 = 0
  · rw [if_pos hc2] at h
    obtain ⟨hg3, h⟩ := zg_some h
    cases h
    exact (zfr_tr (zfr_tr (zfr_tr (zfr_rf _ _) (zfr_I rfl)) (zfr_I rfl)) (zfr_I rfl))
  · rw [if_neg hc2] at h
    obtain ⟨r5, s6, h4, h⟩ := zb_some h
    have f7 := zfr_tr (zfr_rf _ _) (zfr_sub (m2 := 5372047532359078790433177481777224675408096833540644614392804187440828783873399644639950411826770432563695471237719420418637430784) rfl (fr_159 h4))
    by_cases hc8 : (gI s6 177 27) = 51
    · rw [if_pos hc8] at h
      cases h
      exact (zfr_tr (zfr_tr (zfr_tr f7 (zfr_I rfl)) (zfr_I rfl)) (zfr_I rfl))
    · rw [if_neg hc8] at h
      cases h
      exact (zfr_tr (zfr_tr (zfr_tr f7 (zfr_I rfl)) (zfr_I rfl)) (zfr_I rfl))
theorem fr_173 {s : zS} {q : (Int × zS)} (h : f_173 s = some q) : zfr 5372047532359078790433177481777224675408096833540644614392804187440828783873399644639950411826770432563695471237719420418637430784 s q.2 := by
  unfold f_173 at h
  obtain ⟨r2, s3, h1, h⟩ := zb_some h
  have f4 := zfr_tr (zfr_rf _ _) (zfr_sub (m2 := 5372047532359078790433177481777224675408096833540644614392804187440828783873399644639950411826770432563695471237719420418637430784) rfl (fr_159 h1))
  by_cases hc5 : (gI s3 177 27) = 1
  · rw [if_pos hc5] at h
    exact zfr_tr f4 (frj_173_32 h)
  · rw [if_neg hc5] at h
    exact zfr_tr f4 (frj_173_32 h)
theorem frj_171_82 {t0 : Int} {s : zS} {q : (Int × zS)} (h : j_171_82 t0 s = some q) : zfr 9232816789566430931467395582309959789711870683684258206781748848472900541260816102671515310604432578301144184534978997929795746004992 s q.2 := by
  unfold j_171_82 at h
  by_cases hc1 : (gI s 177 27) = 10
  · rw [if_pos hc1] at h
    exact zfr_tr (zfr_rf _ _) (frj_171_103 h)
  · rw [if_neg hc1] at h
    obtain ⟨hg2, h⟩ := zg_some h
    by_cases hc3 : t0 = 0
    · rw [if_pos hc3] at h
      exact zfr_tr (zfr_rf _ _) (frj_171_118 h)
    · rw [if_neg hc3] at h
      obtain ⟨r5, s6, h4, h⟩ := zb_some h
      have f7 := zfr_tr (zfr_rf _ _) (zfr_sub (m2 := 9232816789566430931467395582309959789711870683684258206781748848472900541260816102671515310604432578301144184534978997929795746004992) rfl (fr_173 h4))
      obtain ⟨hg8, h⟩ := zg_some h
      by_cases hc9 : r5 = 0
      · rw [if_pos hc9] at h
        exact zfr_tr f7 (frj_171_118 h)
      · rw [if_neg hc9] at h
        exact zfr_tr f7 (frj_171_103 h)
theorem frj_171_81 {s : zS} {q : (Int × zS)} (h : j_171_81 s = some q) : zfr 9232816789566430931467395582309959789711870683684258206781748848472900541260816102671515310604432578301144184534978997929795746004992 s q.2 := by
  unfold j_171_81 at h
  exact zfr_tr (zfr_rf _ _) (frj_171_82 h)
theorem fr_171 {s : zS} {q : (Int × zS)} (h : f_171 s = some q) : zfr 9232816789566430931467395582309959789711870683684258206781748848472900541260816102671515310604432578301144184534978997929795746004992 s q.2 := by
  unfold f_171 at h
  by_cases hc1 : (gI s 177 27) = 15
  · rw [if_pos hc1] at h
    obtain ⟨r3, s4, h2, h⟩ := zb_some h
    have f5 := zfr_tr (zfr_rf _ _) (zfr_sub (m2 := 9232816789566430931467395582309959789711870683684258206781748848472900541260816102671515310604432578301144184534978997929795746004992) rfl (fr_158 h2))
    cases h
    exact f5
  · rw [if_neg hc1] at h
    by_cases hc6 : (gI s 177 27) = 47
    · rw [if_pos hc6] at h
      obtain ⟨r8, s9, h7, h⟩ := zb_some h
      have f10 := zfr_tr (zfr_rf _ _) (zfr_sub (m2 := 9232816789566430931467395582309959789711870683684258206781748848472900541260816102671515310604432578301144184534978997929795746004992) rfl (fr_158 h7))
      cases h
      exact f10
    · rw [if_neg hc6] at h
      by_cases hc11 : (gI s 177 27) = 24
      · rw [if_pos hc11] at h
        obtain ⟨r13, s14, h12, h⟩ := zb_some h
        have f15 := zfr_tr (zfr_rf _ _) (zfr_sub (m2 := 9232816789566430931467395582309959789711870683684258206781748848472900541260816102671515310604432578301144184534978997929795746004992) rfl (fr_172 h12))
        cases h
        exact f15
      · rw [if_neg hc11] at h
        by_cases hc16 : (gI s 177 27) = 25
        · rw [if_pos hc16] at h
          obtain ⟨r18, s19, h17, h⟩ := zb_some h
          have f20 := zfr_tr (zfr_rf _ _) (zfr_sub (m2 := 9232816789566430931467395582309959789711870683684258206781748848472900541260816102671515310604432578301144184534978997929795746004992) rfl (fr_172 h17))
          cases h
          exact f20
        · rw [if_neg hc16] at h
          by_cases hc21 : (gI s 177 27) < 10
          · rw [if_pos hc21] at h
            exact zfr_tr (zfr_rf _ _) (frj_171_81 h)
          · rw [if_neg hc21] at h
            by_cases hc22 : 14 < (gI s 177 27)
            · rw [if_pos hc22] at h
              exact zfr_tr (zfr_rf _ _) (frj_171_81 h)
            · rw [if_neg hc22] at h
              exact zfr_tr (zfr_rf _ _) (frj_171_82 h)
theorem fr_180 {v1 : Int} {s : zS} {q : (Int × zS)} (h : f_180 v1 s = some q) : zfr 82631996098781074868989413504096379978550585370535152410581099409300723904538918228148651304964410605948901503127919788032 s q.2 := by
  unfold f_180 at h
  cases h
  exact (zfr_tr (zfr_rf _ _) (zfr_I rfl))
theorem frj_179_246 {v1 : Int} {v2 : Int} {v3 : Int} {v4 : Int} {v5 : Int} {s : zS} {q : (Int × zS)} (h : j_179_246 v1 v2 v3 v4 v5 s = some q) : zfr 9227444742116703848775743479697171978540558966829268147537891196696040811836811250765244167405547617465784526642884130887350756573184 s q.2 := by
  unfold j_179_246 at h
  obtain ⟨hg1, h⟩ := zg_some h
  obtain ⟨r3, s4, h2, h⟩ := zb_some h
  have f5 := zfr_tr (zfr_tr (zfr_rf _ _) (zfr_IA rfl rfl)) (zfr_sub (m2 := 9227444742116703848775743479697171978540558966829268147537891196696040811836811250765244167405547617465784526642884130887350756573184) rfl (fr_172 h2))
  obtain ⟨hg6, h⟩ := zg_some h
  by_cases hc7 : v5 = 0
  · rw [if_pos hc7] at h
    obtain ⟨hg8, h⟩ := zg_some h
    obtain ⟨r10, s11, h9, h⟩ := zb_some h
    have f12 := zfr_tr f5 (zfr_sub (m2 := 9227444742116703848775743479697171978540558966829268147537891196696040811836811250765244167405547617465784526642884130887350756573184) rfl (fr_180 h9))
    cases h
    exact f12
  · rw [if_neg hc7] at h
    cases h
    exact f5
theorem frj_179_153 {v1 : Int} {v2 : Int} {v3 : Int} {v4 : Int} {t0 : Int} {s : zS} {q : (Int × zS)} (h : j_179_153 v1 v2 v3 v4 t0 s = some q) : zfr 9227444742116703848775743479697171978540558966829268147537891196696040811836811250765244167405547617465784526642884130887350756573184 s q.2 := by
  unfold j_179_153 at h
  exact zfr_tr (zfr_rf _ _) (frj_179_246 h)
theorem frj_179_152 {v1 : Int} {v2 : Int} {v3 : Int} {v4 : Int} {s : zS} {q : (Int × zS)} (h : j_179_152 v1 v2 v3 v4 s = some q) : zfr 9227444742116703848775743479697171978540558966829268147537891196696040811836811250765244167405547617465784526642884130887350756573184 s q.2 := by
  unfold j_179_152 at h
  exact zfr_tr (zfr_rf _ _) (frj_179_153 h)
theorem frj_179_174 {v1 : Int} {v2 : Int} {v3 : Int} {v4 : Int} {t0 : Int} {s : zS} {q : (Int × zS)} (h : j_179_174 v1 v2 v3 v4 t0 s = some q) : zfr 9227444742116703848775743479697171978540558966829268147537891196696040811836811250765244167405547617465784526642884130887350756573184 s q.2 := by
  unfold j_179_174 at h
  exact zfr_tr (zfr_rf _ _) (frj_179_246 h)
theorem frj_179_195 {v1 : Int} {v2 : Int} {v3 : Int} {v4 : Int} {t0 : Int} {s : zS} {q : (Int × zS)} (h : j_179_195 v1 v2 v3 v4 t0 s = some q) : zfr 9227444742116703848775743479697171978540558966829268147537891196696040811836811250765244167405547617465784526642884130887350756573184 s q.2 := by
  unfold j_179_195 at h
  exact zfr_tr (zfr_rf _ _) (frj_179_246 h)
theorem frj_179_229 {v1 : Int} {v2 : Int} {v3 : Int} {v4 : Int} {t0 : Int} {s : zS} {q : (Int × zS)} (h : j_179_229 v1 v2 v3 v4 t0 s = some q) : zfr 9227444742116703848775743479697171978540558966829268147537891196696040811836811250765244167405547617465784526642884130887350756573184 s q.2 := by
  unfold j_179_229 at h
  exact zfr_tr (zfr_rf _ _) (frj_179_246 h)
theorem frj_179_228 {v1 : Int} {v2 : Int} {v3 : Int} {v4 : Int} {s : zS} {q : (Int × zS)} (h : j_179_228 v1 v2 v3 v4 s = some q) : zfr 9227444742116703848775743479697171978540558966829268147537891196696040811836811250765244167405547617465784526642884130887350756573184 s q.2 := by
  unfold j_179_228 at h
  exact zfr_tr (zfr_rf _ _) (frj_179_229 h)
theorem frj_179_212 {v1 : Int} {v2 : Int} {v3 : Int} {v4 : Int} {s : zS} {q : (Int × zS)} (h : j_179_212 v1 v2 v3 v4 s = some q) : zfr 9227444742116703848775743479697171978540558966829268147537891196696040811836811250765244167405547617465784526642884130887350756573184 s q.2 := by
  unfold j_179_212 at h
  obtain ⟨hg1, h⟩ := zg_some h
  by_cases hc2 : v4 < 1
  · rw [if_pos hc2] at h
    exact zfr_tr (zfr_rf _ _) (frj_179_228 h)
  · rw [if_neg hc2] at h
    by_cases hc3 : 3 < v4
    · rw [if_pos hc3] at h
      exact zfr_tr (zfr_rf _ _) (frj_179_228 h)
    · rw [if_neg hc3] at h
      exact zfr_tr (zfr_rf _ _) (frj_179_229 h)
theorem frj_179_244 {v1 : Int} {v2 : Int} {v3 : Int} {v4 : Int} {t0 : Int} {s : zS} {q : (Int × zS)} (h : j_179_244 v1 v2 v3 v4 t0 s = some q) : zfr 9227444742116703848775743479697171978540558966829268147537891196696040811836811250765244167405547617465784526642884130887350756573184 s q.2 := by
  unfold j_179_244 at h
  exact zfr_tr (zfr_rf _ _) (frj_179_246 h)
theorem frj_179_130 {v1 : Int} {v2 : Int} {v3 : Int} {t0 : Int} {s : zS} {q : (Int × zS)} (h : j_179_130 v1 v2 v3 t0 s = some q) : zfr 9227444742116703848775743479697171978540558966829268147537891196696040811836811250765244167405547617465784526642884130887350756573184 s q.2 := by
  unfold j_179_130 at h
  obtain ⟨hg1, h⟩ := zg_some h
  by_cases hc2 : v1 = 31
  · rw [if_pos hc2] at h
    obtain ⟨hg3, h⟩ := zg_some h
    by_cases hc4 : v3 = 2
    · rw [if_pos hc4] at h
      obtain ⟨hg5, h⟩ := zg_some h
      by_cases hc6 : v2 = 2
      · rw [if_pos hc6] at h
        exact zfr_tr (zfr_rf _ _) (frj_179_153 h)
      · rw [if_neg hc6] at h
        exact zfr_tr (zfr_rf _ _) (frj_179_152 h)
    · rw [if_neg hc4] at h
      exact zfr_tr (zfr_rf _ _) (frj_179_152 h)
  · rw [if_neg hc2] at h
    by_cases hc7 : v1 = 32
    · rw [if_pos hc7] at h
      obtain ⟨hg8, h⟩ := zg_some h
      by_cases hc9 : v3 = 1
      · rw [if_pos hc9] at h
        exact zfr_tr (zfr_rf _ _) (frj_179_174 h)
      · rw [if_neg hc9] at h
        exact zfr_tr (zfr_rf _ _) (frj_179_174 h)
    · rw [if_neg hc7] at h
      by_cases hc10 : v1 = 33
      · rw [if_pos hc10] at h
        obtain ⟨hg11, h⟩ := zg_some h
        by_cases hc12 : v2 = 1
        · rw [if_pos hc12] at h
          exact zfr_tr (zfr_rf _ _) (frj_179_195 h)
        · rw [if_neg hc12] at h
          exact zfr_tr (zfr_rf _ _) (frj_179_195 h)
      · rw [if_neg hc10] at h
        by_cases hc13 : v1 = 30
        · rw [if_pos hc13] at h
          exact zfr_tr (zfr_rf _ _) (frj_179_212 h)
        · rw [if_neg hc13] at h
          by_cases hc14 : v1 = 37
          · rw [if_pos hc14] at h
            exact zfr_tr (zfr_rf _ _) (frj_179_212 h)
          · rw [if_neg hc14] at h
            obtain ⟨hg15, h⟩ := zg_some h
            obtain ⟨hg16, h⟩ := zg_some h
            by_cases hc17 : v3 = v2
            · rw [if_pos hc17] at h
              exact zfr_tr (zfr_rf _ _) (frj_179_244 h)
            · rw [if_neg hc17] at h
              exact zfr_tr (zfr_rf _ _) (frj_179_244 h)
theorem fr_179 {s : zS} {q : (Int × zS)} (h : f_179 s = some q) : zfr 9227444742116703848775743479697171978540558966829268147537891196696040811836811250765244167405547617465784526642884130887350756573184 s q.2 := by
  unfold f_179 at h
  obtain ⟨hg1, h⟩ := zg_some h
  obtain ⟨hg2, h⟩ := zg_some h
  obtain ⟨r4, h3, h⟩ := zo_some h
  obtain ⟨hg5, h⟩ := zg_some h
  by_cases hc6 : r4 = 16
  · rw [if_pos hc6] at h
    obtain ⟨r8, s9, h7, h⟩ := zb_some h
    have f10 := zfr_tr (zfr_tr (zfr_rf _ _) (zfr_I rfl)) (zfr_sub (m2 := 9227444742116703848775743479697171978540558966829268147537891196696040811836811250765244167405547617465784526642884130887350756573184) rfl (fr_172 h7))
    by_cases hc11 : (gI s 195 ((gI s 177 40) - 1)) = 2
    · rw [if_pos hc11] at h
      cases h
      exact f10
    · rw [if_neg hc11] at h
      obtain ⟨hg12, h⟩ := zg_some h
      obtain ⟨r14, s15, h13, h⟩ := zb_some h
      have f16 := zfr_tr f10 (zfr_sub (m2 := 9227444742116703848775743479697171978540558966829268147537891196696040811836811250765244167405547617465784526642884130887350756573184) rfl (fr_180 h13))
      cases h
      exact f16
  · rw [if_neg hc6] at h
    obtain ⟨hg17, h⟩ := zg_some h
    by_cases hc18 : (gI s 189 (gI (sI s 177 38 ((gI s 177 38) - 1)) 177 38)) = 30
    · rw [if_pos hc18] at h
      exact zfr_tr (zfr_tr (zfr_tr (zfr_rf _ _) (zfr_I rfl)) (zfr_I rfl)) (frj_179_130 h)
    · rw [if_neg hc18] at h
      by_cases hc19 : (gI s 189 (gI (sI s 177 38 ((gI s 177 38) - 1)) 177 38)) = 37
      · rw [if_pos hc19] at h
        exact zfr_tr (zfr_tr (zfr_tr (zfr_rf _ _) (zfr_I rfl)) (zfr_I rfl)) (frj_179_130 h)
      · rw [if_neg hc19] at h
        by_cases hc20 : (gI s 189 (gI (sI s 177 38 ((gI s 177 38) - 1)) 177 38)) = 32
        · rw [if_pos hc20] at h
          exact zfr_tr (zfr_tr (zfr_tr (zfr_rf _ _) (zfr_I rfl)) (zfr_I rfl)) (frj_179_130 h)
        · rw [if_neg hc20] at h
          exact zfr_tr (zfr_tr (zfr_tr (zfr_rf _ _) (zfr_I rfl)) (zfr_I rfl)) (frj_179_130 h)
theorem frb_177_0 {v1 : Int} {s : zS} {q : (zS) ⊕ ((zS) ⊕ (Int × zS))} (h : b_177_0 v1 s = some q) : zfr 9227444742116703848775743479697171978540558966829268147537891196696040811836811250765244167405547617465784526642884130887350756573184 s (Sum.elim (fun e : (zS) => e) (fun t : ((zS) ⊕ (Int × zS)) => Sum.elim (fun e : (zS) => e) (fun q => q.2) t) q) := by
  unfold b_177_0 at h
  obtain ⟨r2, h1, h⟩ := zo_some h
  obtain ⟨r4, h3, h⟩ := zo_some h
  obtain ⟨hg5, h⟩ := zg_some h
  obtain ⟨hg6, h⟩ := zg_some h
  by_cases hc7 : r4 < v1
  · rw [if_pos hc7] at h
    cases h
    exact (zfr_rf _ _)
  · rw [if_neg hc7] at h
    obtain ⟨r9, h8, h⟩ := zo_some h
    obtain ⟨r11, h10, h⟩ := zo_some h
    obtain ⟨hg12, h⟩ := zg_some h
    by_cases hc13 : 10 < r11
    · rw [if_pos hc13] at h
      obtain ⟨r15, s16, h14, h⟩ := zb_some h
      have f17 := zfr_tr (zfr_rf _ _) (zfr_sub (m2 := 9227444742116703848775743479697171978540558966829268147537891196696040811836811250765244167405547617465784526642884130887350756573184) rfl (fr_179 h14))
      obtain ⟨hg18, h⟩ := zg_some h
      by_cases hc19 : 0 < r15
      · rw [if_pos hc19] at h
        cases h
        exact f17
      · rw [if_neg hc19] at h
        cases h
        exact f17
    · rw [if_neg hc13] at h
      cases h
      exact (zfr_rf _ _)
theorem frl_177_0 {v1 : Int} {n : Nat} {e0 : (zS)} {t : ((zS) ⊕ (Int × zS))} (h : zlp (fun (q : zS) => b_177_0 v1 q) n e0 = some t) : zfr 9227444742116703848775743479697171978540558966829268147537891196696040811836811250765244167405547617465784526642884130887350756573184 ((fun e : (zS) => e) e0) ((fun t : ((zS) ⊕ (Int × zS)) => Sum.elim (fun e : (zS) => e) (fun q => q.2) t) t) := zfr_lp (f := (fun e : (zS) => e)) (g := (fun t : ((zS) ⊕ (Int × zS)) => Sum.elim (fun e : (zS) => e) (fun q => q.2) t)) (fun e q h1 => frb_177_0 h1) n e0 t h
theorem fr_177 {v1 : Int} {s : zS} {q : (Int × zS)} (h : f_177 v1 s = some q) : zfr 9227444742116703848775743479697171978540558966829268147537891196696040811836811250765244167405547617465784526642884130887350756573184 s q.2 := by
  unfold f_177 at h
  obtain ⟨e1, h2, h⟩ := zo_some h
  rcases e1 with e4 | q5
  · simp only [ze_l] at h
    have f3 : zfr 9227444742116703848775743479697171978540558966829268147537891196696040811836811250765244167405547617465784526642884130887350756573184 s e4 := zfr_tr (zfr_rf _ _) (frl_177_0 h2)
    cases h
    exact f3
  · cases h
    exact zfr_tr (zfr_rf _ _) (frl_177_0 h2)
theorem frj_181_86 {s : zS} {q : (Int × zS)} (h : j_181_86 s = some q) : zfr 9227444742116703848775743479697171978540558966829268147537891196696040811836811250765244167405547617465784526642884130887350756573184 s q.2 := by
  unfold j_181_86 at h
  obtain ⟨hg1, h⟩ := zg_some h
  by_cases hc2 : (gI s 195 ((gI s 177 40) - 1)) = 1
  · rw [if_pos hc2] at h
    cases h
    exact (zfr_rf _ _)
  · rw [if_neg hc2] at h
    obtain ⟨hg3, h⟩ := zg_some h
    obtain ⟨r5, s6, h4, h⟩ := zb_some h
    have f7 := zfr_tr (zfr_rf _ _) (zfr_sub (m2 := 9227444742116703848775743479697171978540558966829268147537891196696040811836811250765244167405547617465784526642884130887350756573184) rfl (fr_180 h4))
    cases h
    exact f7
theorem fr_181 {s : zS} {q : (Int × zS)} (h : f_181 s = some q) : zfr 9227444742116703848775743479697171978540558966829268147537891196696040811836811250765244167405547617465784526642884130887350756573184 s q.2 := by
  unfold f_181 at h
  obtain ⟨r2, s3, h1, h⟩ := zb_some h
  have f4 := zfr_tr (zfr_rf _ _) (zfr_sub (m2 := 9227444742116703848775743479697171978540558966829268147537891196696040811836811250765244167405547617465784526642884130887350756573184) rfl (fr_177 h1))
  obtain ⟨hg5, h⟩ := zg_some h
  by_cases hc6 : 0 < r2
  · rw [if_pos hc6] at h
    cases h
    exact f4
  · rw [if_neg hc6] at h
    obtain ⟨r8, h7, h⟩ := zo_some h
    obtain ⟨hg9, h⟩ := zg_some h
    by_cases hc10 : r8 = 68
    · rw [if_pos hc10] at h
      obtain ⟨hg11, h⟩ := zg_some h
      obtain ⟨hg12, h⟩ := zg_some h
      by_cases hc13 : (gI s3 191 ((gI s3 177 38) - 1)) = (gI s3 195 ((gI s3 177 40) - 1))
      · rw [if_pos hc13] at h
        cases h
        exact f4
      · rw [if_neg hc13] at h
        obtain ⟨r15, s16, h14, h⟩ := zb_some h
        have f17 := zfr_tr f4 (zfr_sub (m2 := 9227444742116703848775743479697171978540558966829268147537891196696040811836811250765244167405547617465784526642884130887350756573184) rfl (fr_180 h14))
        cases h
        exact f17
    · rw [if_neg hc10] at h
      obtain ⟨r19, h18, h⟩ := zo_some h
      obtain ⟨hg20, h⟩ := zg_some h
      by_cases hc21 : r19 = 62
      · rw [if_pos hc21] at h
        exact zfr_tr f4 (frj_181_86 h)
      · rw [if_neg hc21] at h
        obtain ⟨r23, h22, h⟩ := zo_some h
        obtain ⟨hg24, h⟩ := zg_some h
        by_cases hc25 : r23 = 64
        · rw [if_pos hc25] at h
          exact zfr_tr f4 (frj_181_86 h)
        · rw [if_neg hc25] at h
          cases h
          exact f4
theorem frj_176_132 {t1 : Int} {t2 : Int} {s : zS} {q : (Int × zS)} (h : j_176_132 t1 t2 s = some q) : zfr 9227444742116703848775743479697171978540558966829268147537891196696040811886243426931414278420754459173544899669690180012505028362240 s q.2 := by
  unfold j_176_132 at h
  obtain ⟨hg1, h⟩ := zg_some h
  obtain ⟨hg2, h⟩ := zg_some h
  obtain ⟨r4, s5, h3, h⟩ := zb_some h
  have f6 := zfr_tr (zfr_tr (zfr_tr (zfr_tr (zfr_rf _ _) (zfr_IA rfl rfl)) (zfr_IA rfl rfl)) (zfr_I rfl)) (zfr_sub (m2 := 9227444742116703848775743479697171978540558966829268147537891196696040811886243426931414278420754459173544899669690180012505028362240) rfl (fr_172 h3))
  cases h
  exact f6
theorem frj_176_109 {v2 : Int} {s : zS} {q : (Int × zS)} (h : j_176_109 v2 s = some q) : zfr 9227444742116703848775743479697171978540558966829268147537891196696040811886243426931414278420754459173544899669690180012505028362240 s q.2 := by
  unfold j_176_109 at h
  obtain ⟨hg1, h⟩ := zg_some h
  by_cases hc2 : v2 = 62
  · rw [if_pos hc2] at h
    exact zfr_tr (zfr_rf _ _) (frj_176_132 h)
  · rw [if_neg hc2] at h
    exact zfr_tr (zfr_rf _ _) (frj_176_132 h)
theorem frj_176_200 {s : zS} {q : (Int × zS)} (h : j_176_200 s = some q) : zfr 9227444742116703848775743479697171978540558966829268147537891196696040811886243426931414278420754459173544899669690180012505028362240 s q.2 := by
  unfold j_176_200 at h
  obtain ⟨r2, s3, h1, h⟩ := zb_some h
  have f4 := zfr_tr (zfr_tr (zfr_tr (zfr_rf _ _) (zfr_I rfl)) (zfr_I rfl)) (zfr_sub (m2 := 9227444742116703848775743479697171978540558966829268147537891196696040811886243426931414278420754459173544899669690180012505028362240) rfl (fr_158 h1))
  cases h
  exact f4
theorem frj_182_33 {t1 : Int} {s : zS} {q : (Int × zS)} (h : j_182_33 t1 s = some q) : zfr 9227444742034071852676962404828182565036462586850717562167356044285459712377293712977611803066712650775158784708116385828510560681984 s q.2 := by
  unfold j_182_33 at h
  obtain ⟨r2, s3, h1, h⟩ := zb_some h
  have f4 := zfr_tr (zfr_rf _ _) (zfr_sub (m2 := 9227444742034071852676962404828182565036462586850717562167356044285459712377293712977611803066712650775158784708116385828510560681984) rfl (fr_172 h1))
  cases h
  exact (zfr_tr (zfr_tr f4 (zfr_I rfl)) (zfr_I rfl))
theorem fr_182 {s : zS} {q : (Int × zS)} (h : f_182 s = some q) : zfr 9227444742034071852676962404828182565036462586850717562167356044285459712377293712977611803066712650775158784708116385828510560681984 s q.2 := by
  unfold f_182 at h
  obtain ⟨r2, h1, h⟩ := zo_some h
  obtain ⟨hg3, h⟩ := zg_some h
  by_cases hc4 : r2 = 68
  · rw [if_pos hc4] at h
    obtain ⟨hg5, h⟩ := zg_some h
    by_cases hc6 : (gI s 193 ((gI s 177 38) - 1)) = 20
    · rw [if_pos hc6] at h
      exact zfr_tr (zfr_rf _ _) (frj_182_33 h)
    · rw [if_neg hc6] at h
      exact zfr_tr (zfr_rf _ _) (frj_182_33 h)
  · rw [if_neg hc4] at h
    obtain ⟨r8, h7, h⟩ := zo_some h
    obtain ⟨hg9, h⟩ := zg_some h
    by_cases hc10 : r8 = 106
    · rw [if_pos hc10] at h
      obtain ⟨hg11, h⟩ := zg_some h
      obtain ⟨r13, s14, h12, h⟩ := zb_some h
      have f15 := zfr_tr (zfr_rf _ _) (zfr_sub (m2 := 9227444742034071852676962404828182565036462586850717562167356044285459712377293712977611803066712650775158784708116385828510560681984) rfl (fr_172 h12))
      cases h
      exact (zfr_tr (zfr_tr f15 (zfr_I rfl)) (zfr_I rfl))
    · rw [if_neg hc10] at h
      cases h
      exact (zfr_rf _ _)
theorem fr_185 {s : zS} {q : (Unit × zS)} (h : f_185 s = some q) : zfr 6388230975254357436468666280265664852717551021665881389192784953736087493184333074984678011216073722803430184683639128275641023070208 s q.2 := by
  unfold f_185 at h
  obtain ⟨hg1, h⟩ := zg_some h
  obtain ⟨r3, s4, h2, h⟩ := zb_some h
  have f5 := zfr_tr (zfr_tr (zfr_rf _ _) (zfr_I rfl)) (zfr_sub (m2 := 6388230975254357436468666280265664852717551021665881389192784953736087493184333074984678011216073722803430184683639128275641023070208) rfl (fr_172 h2))
  cases h
  exact f5
theorem frb_184_0 {v1 : Int} {s : zS} {q : (zS) ⊕ (zS)} (h : b_184_0 v1 s = some q) : zfr 6388230975254357436468666280265664852717551021665881389192784953736087493184333074984678011216073722803430184683639128275641023070208 s (Sum.elim (fun e : (zS) => e) (fun e : (zS) => e) q) := by
  unfold b_184_0 at h
  obtain ⟨r2, h1, h⟩ := zo_some h
  obtain ⟨hg3, h⟩ := zg_some h
  by_cases hc4 : r2 = 15
  · rw [if_pos hc4] at h
    obtain ⟨r6, s7, h5, h⟩ := zb_some h
    have f8 := zfr_tr (zfr_rf _ _) (zfr_sub (m2 := 6388230975254357436468666280265664852717551021665881389192784953736087493184333074984678011216073722803430184683639128275641023070208) rfl (fr_185 h5))
    cases h
    exact f8
  · rw [if_neg hc4] at h
    obtain ⟨r10, h9, h⟩ := zo_some h
    obtain ⟨r12, h11, h⟩ := zo_some h
    obtain ⟨hg13, h⟩ := zg_some h
    by_cases hc14 : r12 = 0
    · rw [if_pos hc14] at h
      cases h
      exact (zfr_rf _ _)
    · rw [if_neg hc14] at h
      obtain ⟨r16, h15, h⟩ := zo_some h
      obtain ⟨r18, h17, h⟩ := zo_some h
      obtain ⟨hg19, h⟩ := zg_some h
      obtain ⟨hg20, h⟩ := zg_some h
      by_cases hc21 : r18 < v1
      · rw [if_pos hc21] at h
        cases h
        exact (zfr_rf _ _)
      · rw [if_neg hc21] at h
        obtain ⟨r23, s24, h22, h⟩ := zb_some h
        have f25 := zfr_tr (zfr_rf _ _) (zfr_sub (m2 := 6388230975254357436468666280265664852717551021665881389192784953736087493184333074984678011216073722803430184683639128275641023070208) rfl (fr_185 h22))
        cases h
        exact f25
theorem frl_184_0 {v1 : Int} {n : Nat} {e0 : (zS)} {t : (zS)} (h : zlp (fun (q : zS) => b_184_0 v1 q) n e0 = some t) : zfr 6388230975254357436468666280265664852717551021665881389192784953736087493184333074984678011216073722803430184683639128275641023070208 ((fun e : (zS) => e) e0) ((fun e : (zS) => e) t) := zfr_lp (f := (fun e : (zS) => e)) (g := (fun e : (zS) => e)) (fun e q h1 => frb_184_0 h1) n e0 t h
theorem fr_184 {v1 : Int} {s : zS} {q : (Unit × zS)} (h : f_184 v1 s = some q) : zfr 6388230975254357436468666280265664852717551021665881389192784953736087493184333074984678011216073722803430184683639128275641023070208 s q.2 := by
  unfold f_184 at h
  obtain ⟨e1, h2, h⟩ := zo_some h
  have f3 : zfr 6388230975254357436468666280265664852717551021665881389192784953736087493184333074984678011216073722803430184683639128275641023070208 s e1 := zfr_tr (zfr_rf _ _) (frl_184_0 h2)
  cases h
  exact f3
theorem fr_187 {s : zS} {q : (Unit × zS)} (h : f_187 s = some q) : zfr 6388230975254357436468666280265664852717551021665881389192784953736087493184333074984678011216073722803430184683639128275641023070208 s q.2 := by
  unfold f_187 at h
  obtain ⟨hg1, h⟩ := zg_some h
  obtain ⟨r3, s4, h2, h⟩ := zb_some h
  have f5 := zfr_tr (zfr_tr (zfr_rf _ _) (zfr_I rfl)) (zfr_sub (m2 := 6388230975254357436468666280265664852717551021665881389192784953736087493184333074984678011216073722803430184683639128275641023070208) rfl (fr_172 h2))
  obtain ⟨hg6, h⟩ := zg_some h
  obtain ⟨hg7, h⟩ := zg_some h
  cases h
  exact (zfr_tr f5 (zfr_IA rfl rfl))
theorem frj_186_2_25 {t0 : Int} {s : zS} {q : (Int × zS) ⊕ (zS)} (h : j_186_2_25 t0 s = some q) : zfr 6388230975254357436468666280265664852717551021665881389192784953736087493184333074984678011216073722803430184683639128275641023070208 s (Sum.elim (fun e : (Int × zS) => e.2) (fun e : (zS) => e) q) := by
  unfold j_186_2_25 at h
  obtain ⟨hg1, h⟩ := zg_some h
  by_cases hc2 : t0 = 0
  · rw [if_pos hc2] at h
    cases h
    exact (zfr_rf _ _)
  · rw [if_neg hc2] at h
    obtain ⟨r4, s5, h3, h⟩ := zb_some h
    have f6 := zfr_tr (zfr_rf _ _) (zfr_sub (m2 := 6388230975254357436468666280265664852717551021665881389192784953736087493184333074984678011216073722803430184683639128275641023070208) rfl (fr_187 h3))
    cases h
    exact f6
theorem frb_186_2 {v1 : Int} {s : zS} {q : (Int × zS) ⊕ (zS)} (h : b_186_2 v1 s = some q) : zfr 6388230975254357436468666280265664852717551021665881389192784953736087493184333074984678011216073722803430184683639128275641023070208 s (Sum.elim (fun e : (Int × zS) => e.2) (fun e : (zS) => e) q) := by
  unfold b_186_2 at h
  obtain ⟨hg1, h⟩ := zg_some h
  by_cases hc2 : v1 = 0
  · rw [if_pos hc2] at h
    cases h
    exact (zfr_rf _ _)
  · rw [if_neg hc2] at h
    obtain ⟨r4, s5, h3, h⟩ := zb_some h
    have f6 := zfr_tr (zfr_rf _ _) (zfr_sub (m2 := 6388230975254357436468666280265664852717551021665881389192784953736087493184333074984678011216073722803430184683639128275641023070208) rfl (fr_184 h3))
    obtain ⟨r8, h7, h⟩ := zo_some h
    obtain ⟨hg9, h⟩ := zg_some h
    by_cases hc10 : r8 = 63
    · rw [if_pos hc10] at h
      exact zfr_tr f6 (frj_186_2_25 h)
    · rw [if_neg hc10] at h
      exact zfr_tr f6 (frj_186_2_25 h)
theorem frl_186_2 {n : Nat} {e0 : (Int × zS)} {t : (zS)} (h : zlp (fun (q : Int × zS) => b_186_2 q.1 q.2) n e0 = some t) : zfr 6388230975254357436468666280265664852717551021665881389192784953736087493184333074984678011216073722803430184683639128275641023070208 ((fun e : (Int × zS) => e.2) e0) ((fun e : (zS) => e) t) := zfr_lp (f := (fun e : (Int × zS) => e.2)) (g := (fun e : (zS) => e)) (fun e q h1 => frb_186_2 h1) n e0 t h
theorem fr_186 {s : zS} {q : (Unit × zS)} (h : f_186 s = some q) : zfr 6388230975254357436468666280265664852717551021665881389192784953736087493184333074984678011216073722803430184683639128275641023070208 s q.2 := by
  unfold f_186 at h
  obtain ⟨e1, h2, h⟩ := zo_some h
  have f3 : zfr 6388230975254357436468666280265664852717551021665881389192784953736087493184333074984678011216073722803430184683639128275641023070208 s e1 := zfr_tr (zfr_rf _ _) (frl_186_2 h2)
  cases h
  exact f3
theorem frj_183_81 {v1 : Int} {s : zS} {q : (Int × zS)} (h : j_183_81 v1 s = some q) : zfr 9227444742034071852676962404828182565036462586850717562167356044285459712476942703026875360192605807868580489063741278509377108574208 s q.2 := by
  unfold j_183_81 at h
  by_cases hc1 : (gI s 177 27) = 50
  · rw [if_pos hc1] at h
    obtain ⟨hg2, h⟩ := zg_some h
    by_cases hc3 : v1 = 65
    · rw [if_pos hc3] at h
      obtain ⟨r5, s6, h4, h⟩ := zb_some h
      have f7 := zfr_tr (zfr_rf _ _) (zfr_sub (m2 := 9227444742034071852676962404828182565036462586850717562167356044285459712476942703026875360192605807868580489063741278509377108574208) rfl (fr_187 h4))
      obtain ⟨hg8, h⟩ := zg_some h
      cases h
      exact (zfr_tr (zfr_tr f7 (zfr_IA rfl rfl)) (zfr_I rfl))
    · rw [if_neg hc3] at h
      by_cases hc9 : v1 = 60
      · rw [if_pos hc9] at h
        by_cases hc10 : (gI s 177 27) = 0
        · rw [if_pos hc10] at h
          cases h
          exact (zfr_rf _ _)
        · rw [if_neg hc10] at h
          cases h
          exact (zfr_rf _ _)
      · rw [if_neg hc9] at h
        cases h
        exact (zfr_rf _ _)
  · rw [if_neg hc1] at h
    obtain ⟨hg11, h⟩ := zg_some h
    by_cases hc12 : v1 = 60
    · rw [if_pos hc12] at h
      by_cases hc13 : (gI s 177 27) = 0
      · rw [if_pos hc13] at h
        cases h
        exact (zfr_rf _ _)
      · rw [if_neg hc13] at h
        cases h
        exact (zfr_rf _ _)
    · rw [if_neg hc12] at h
      cases h
      exact (zfr_rf _ _)
theorem frj_183_31 {t1 : Int} {s : zS} {q : (Int × zS)} (h : j_183_31 t1 s = some q) : zfr 9227444742034071852676962404828182565036462586850717562167356044285459712476942703026875360192605807868580489063741278509377108574208 s q.2 := by
  unfold j_183_31 at h
  obtain ⟨r2, s3, h1, h⟩ := zb_some h
  have f4 := zfr_tr (zfr_rf _ _) (zfr_sub (m2 := 9227444742034071852676962404828182565036462586850717562167356044285459712476942703026875360192605807868580489063741278509377108574208) rfl (fr_184 h1))
  obtain ⟨r6, s7, h5, h⟩ := zb_some h
  have f8 := zfr_tr f4 (zfr_sub (m2 := 9227444742034071852676962404828182565036462586850717562167356044285459712476942703026875360192605807868580489063741278509377108574208) rfl (fr_158 h5))
  cases h
  exact f8
theorem fr_183 {s : zS} {q : (Int × zS)} (h : f_183 s = some q) : zfr 9227444742034071852676962404828182565036462586850717562167356044285459712476942703026875360192605807868580489063741278509377108574208 s q.2 := by
  unfold f_183 at h
  obtain ⟨r2, h1, h⟩ := zo_some h
  obtain ⟨hg3, h⟩ := zg_some h
  by_cases hc4 : r2 = 0
  · rw [if_pos hc4] at h
    obtain ⟨r6, s7, h5, h⟩ := zb_some h
    have f8 := zfr_tr (zfr_rf _ _) (zfr_sub (m2 := 9227444742034071852676962404828182565036462586850717562167356044285459712476942703026875360192605807868580489063741278509377108574208) rfl (fr_186 h5))
    obtain ⟨r10, h9, h⟩ := zo_some h
    by_cases hc11 : (gI s7 177 27) = 48
    · rw [if_pos hc11] at h
      obtain ⟨hg12, h⟩ := zg_some h
      by_cases hc13 : r10 = 47
      · rw [if_pos hc13] at h
        cases h
        exact (zfr_tr f8 (zfr_I rfl))
      · rw [if_neg hc13] at h
        exact zfr_tr f8 (frj_183_81 h)
    · rw [if_neg hc11] at h
      exact zfr_tr f8 (frj_183_81 h)
  · rw [if_neg hc4] at h
    by_cases hc14 : (gI s 177 27) = 18
    · rw [if_pos hc14] at h
      exact zfr_tr (zfr_rf _ _) (frj_183_31 h)
    · rw [if_neg hc14] at h
      obtain ⟨r16, h15, h⟩ := zo_some h
      exact zfr_tr (zfr_rf _ _) (frj_183_31 h)
theorem frj_176_302 {v2 : Int} {s : zS} {q : (Int × zS)} (h : j_176_302 v2 s = some q) : zfr 9227444742116703848775743479697171978540558966829268147537891196696040811886243426931414278420754459173544899669690180012505028362240 s q.2 := by
  unfold j_176_302 at h
  obtain ⟨hg1, h⟩ := zg_some h
  by_cases hc2 : v2 = 61
  · rw [if_pos hc2] at h
    by_cases hc3 : (gI s 177 27) = 0
    · rw [if_pos hc3] at h
      cases h
      exact (zfr_rf _ _)
    · rw [if_neg hc3] at h
      cases h
      exact (zfr_rf _ _)
  · rw [if_neg hc2] at h
    obtain ⟨r5, s6, h4, h⟩ := zb_some h
    have f7 := zfr_tr (zfr_rf _ _) (zfr_sub (m2 := 9227444742116703848775743479697171978540558966829268147537891196696040811886243426931414278420754459173544899669690180012505028362240) rfl (fr_182 h4))
    obtain ⟨hg8, h⟩ := zg_some h
    by_cases hc9 : r5 = 0
    · rw [if_pos hc9] at h
      cases h
      exact f7
    · rw [if_neg hc9] at h
      obtain ⟨r11, s12, h10, h⟩ := zb_some h
      have f13 := zfr_tr f7 (zfr_sub (m2 := 9227444742116703848775743479697171978540558966829268147537891196696040811886243426931414278420754459173544899669690180012505028362240) rfl (fr_183 h10))
      cases h
      exact f13
theorem frj_176_251 {v2 : Int} {s : zS} {q : (Int × zS)} (h : j_176_251 v2 s = some q) : zfr 9227444742116703848775743479697171978540558966829268147537891196696040811886243426931414278420754459173544899669690180012505028362240 s q.2 := by
  unfold j_176_251 at h
  obtain ⟨r2, h1, h⟩ := zo_some h
  obtain ⟨hg3, h⟩ := zg_some h
  by_cases hc4 : r2 = 0
  · rw [if_pos hc4] at h
    exact zfr_tr (zfr_rf _ _) (frj_176_302 h)
  · rw [if_neg hc4] at h
    obtain ⟨r6, s7, h5, h⟩ := zb_some h
    have f8 := zfr_tr (zfr_rf _ _) (zfr_sub (m2 := 9227444742116703848775743479697171978540558966829268147537891196696040811886243426931414278420754459173544899669690180012505028362240) rfl (fr_158 h5))
    obtain ⟨hg9, h⟩ := zg_some h
    obtain ⟨hg10, h⟩ := zg_some h
    cases h
    exact (zfr_tr (zfr_tr f8 (zfr_IA rfl rfl)) (zfr_I rfl))
theorem frj_176_233 {v2 : Int} {s : zS} {q : (Int × zS)} (h : j_176_233 v2 s = some q) : zfr 9227444742116703848775743479697171978540558966829268147537891196696040811886243426931414278420754459173544899669690180012505028362240 s q.2 := by
  unfold j_176_233 at h
  by_cases hc1 : (gI s 177 27) = 20
  · rw [if_pos hc1] at h
    exact zfr_tr (zfr_rf _ _) (frj_176_251 h)
  · rw [if_neg hc1] at h
    by_cases hc2 : (gI s 177 27) = 42
    · rw [if_pos hc2] at h
      exact zfr_tr (zfr_rf _ _) (frj_176_251 h)
    · rw [if_neg hc2] at h
      exact zfr_tr (zfr_rf _ _) (frj_176_302 h)
theorem frj_176_167 {v2 : Int} {s : zS} {q : (Int × zS)} (h : j_176_167 v2 s = some q) : zfr 9227444742116703848775743479697171978540558966829268147537891196696040811886243426931414278420754459173544899669690180012505028362240 s q.2 := by
  unfold j_176_167 at h
  obtain ⟨hg1, h⟩ := zg_some h
  by_cases hc2 : v2 = 66
  · rw [if_pos hc2] at h
    by_cases hc3 : (gI s 177 27) = 42
    · rw [if_pos hc3] at h
      exact zfr_tr (zfr_rf _ _) (frj_176_200 h)
    · rw [if_neg hc3] at h
      by_cases hc4 : (gI s 177 27) = 43
      · rw [if_pos hc4] at h
        exact zfr_tr (zfr_rf _ _) (frj_176_200 h)
      · rw [if_neg hc4] at h
        by_cases hc5 : (gI s 177 27) = 44
        · rw [if_pos hc5] at h
          exact zfr_tr (zfr_rf _ _) (frj_176_200 h)
        · rw [if_neg hc5] at h
          exact zfr_tr (zfr_rf _ _) (frj_176_233 h)
  · rw [if_neg hc2] at h
    exact zfr_tr (zfr_rf _ _) (frj_176_233 h)
theorem frj_176_88 {v2 : Int} {s : zS} {q : (Int × zS)} (h : j_176_88 v2 s = some q) : zfr 9227444742116703848775743479697171978540558966829268147537891196696040811886243426931414278420754459173544899669690180012505028362240 s q.2 := by
  unfold j_176_88 at h
  by_cases hc1 : (gI s 177 27) = 52
  · rw [if_pos hc1] at h
    obtain ⟨hg2, h⟩ := zg_some h
    by_cases hc3 : v2 = 62
    · rw [if_pos hc3] at h
      exact zfr_tr (zfr_rf _ _) (frj_176_109 h)
    · rw [if_neg hc3] at h
      by_cases hc4 : v2 = 64
      · rw [if_pos hc4] at h
        exact zfr_tr (zfr_rf _ _) (frj_176_109 h)
      · rw [if_neg hc4] at h
        exact zfr_tr (zfr_rf _ _) (frj_176_167 h)
  · rw [if_neg hc1] at h
    exact zfr_tr (zfr_rf _ _) (frj_176_167 h)
theorem fr_176 {s : zS} {q : (Int × zS)} (h : f_176 s = some q) : zfr 9227444742116703848775743479697171978540558966829268147537891196696040811886243426931414278420754459173544899669690180012505028362240 s q.2 := by
  unfold f_176 at h
  obtain ⟨r2, h1, h⟩ := zo_some h
  obtain ⟨hg3, h⟩ := zg_some h
  by_cases hc4 : r2 = 0
  · rw [if_pos hc4] at h
    obtain ⟨r6, s7, h5, h⟩ := zb_some h
    have f8 := zfr_tr (zfr_rf _ _) (zfr_sub (m2 := 9227444742116703848775743479697171978540558966829268147537891196696040811886243426931414278420754459173544899669690180012505028362240) rfl (fr_181 h5))
    obtain ⟨hg9, h⟩ := zg_some h
    by_cases hc10 : 0 < r6
    · rw [if_pos hc10] at h
      cases h
      exact f8
    · rw [if_neg hc10] at h
      obtain ⟨r12, h11, h⟩ := zo_some h
      by_cases hc13 : (gI s7 177 27) = 46
      · rw [if_pos hc13] at h
        obtain ⟨hg14, h⟩ := zg_some h
        by_cases hc15 : r12 = 45
        · rw [if_pos hc15] at h
          cases h
          exact (zfr_tr f8 (zfr_I rfl))
        · rw [if_neg hc15] at h
          exact zfr_tr f8 (frj_176_88 h)
      · rw [if_neg hc13] at h
        exact zfr_tr f8 (frj_176_88 h)
  · rw [if_neg hc4] at h
    obtain ⟨r17, h16, h⟩ := zo_some h
    obtain ⟨r19, s20, h18, h⟩ := zb_some h
    have f21 := zfr_tr (zfr_rf _ _) (zfr_sub (m2 := 9227444742116703848775743479697171978540558966829268147537891196696040811886243426931414278420754459173544899669690180012505028362240) rfl (fr_177 h18))
    obtain ⟨hg22, h⟩ := zg_some h
    by_cases hc23 : 0 < r19
    · rw [if_pos hc23] at h
      cases h
      exact f21
    · rw [if_neg hc23] at h
      obtain ⟨r25, s26, h24, h⟩ := zb_some h
      have f27 := zfr_tr f21 (zfr_sub (m2 := 9227444742116703848775743479697171978540558966829268147537891196696040811886243426931414278420754459173544899669690180012505028362240) rfl (fr_158 h24))
      cases h
      exact f27
theorem frj_188_46 {v1 : Int} {s : zS} {q : (Int × zS)} (h : j_188_46 v1 s = some q) : zfr 6388230975254357436468666280265664852717551021665881389192784953736087493209441481926224734271416880496260850348048550053497161121792 s q.2 := by
  unfold j_188_46 at h
  obtain ⟨hg1, h⟩ := zg_some h
  by_cases hc2 : v1 = 6
  · rw [if_pos hc2] at h
    by_cases hc3 : (gI s 177 27) = 2
    · rw [if_pos hc3] at h
      obtain ⟨hg4, h⟩ := zg_some h
      obtain ⟨r6, s7, h5, h⟩ := zb_some h
      have f8 := zfr_tr (zfr_rf _ _) (zfr_sub (m2 := 6388230975254357436468666280265664852717551021665881389192784953736087493209441481926224734271416880496260850348048550053497161121792) rfl (fr_172 h5))
      cases h
      exact (zfr_tr f8 (zfr_I rfl))
    · rw [if_neg hc3] at h
      cases h
      exact (zfr_rf _ _)
  · rw [if_neg hc2] at h
    cases h
    exact (zfr_rf _ _)
theorem frj_188_30 {v1 : Int} {s : zS} {q : (Int × zS)} (h : j_188_30 v1 s = some q) : zfr 6388230975254357436468666280265664852717551021665881389192784953736087493209441481926224734271416880496260850348048550053497161121792 s q.2 := by
  unfold j_188_30 at h
  obtain ⟨hg1, h⟩ := zg_some h
  by_cases hc2 : v1 = 5
  · rw [if_pos hc2] at h
    by_cases hc3 : (gI s 177 27) = 51
    · rw [if_pos hc3] at h
      cases h
      exact (zfr_rf _ _)
    · rw [if_neg hc3] at h
      exact zfr_tr (zfr_rf _ _) (frj_188_46 h)
  · rw [if_neg hc2] at h
    exact zfr_tr (zfr_rf _ _) (frj_188_46 h)
theorem fr_188 {v1 : Int} {s : zS} {q : (Int × zS)} (h : f_188 v1 s = some q) : zfr 6388230975254357436468666280265664852717551021665881389192784953736087493209441481926224734271416880496260850348048550053497161121792 s q.2 := by
  unfold f_188 at h
  obtain ⟨hg1, h⟩ := zg_some h
  by_cases hc2 : v1 = 4
  · rw [if_pos hc2] at h
    by_cases hc3 : (gI s 177 27) = 1
    · rw [if_pos hc3] at h
      obtain ⟨hg4, h⟩ := zg_some h
      cases h
      exact (zfr_tr (zfr_rf _ _) (zfr_JA rfl rfl))
    · rw [if_neg hc3] at h
      exact zfr_tr (zfr_rf _ _) (frj_188_30 h)
  · rw [if_neg hc2] at h
    exact zfr_tr (zfr_rf _ _) (frj_188_30 h)
theorem fr_170 {v1 : Int} {s : zS} {q : (Int × zS)} (h : f_170 v1 s = some q) : zfr 9232816789649062927566176657178949203215967063662808792152284000883481640670116826576054228832581229606108595140927899432923665793024 s q.2 := by
  unfold f_170 at h
  obtain ⟨hg1, h⟩ := zg_some h
  by_cases hc2 : t_170_1 v1 = 32
  · rw [if_pos hc2] at h
    obtain ⟨r4, s5, h3, h⟩ := zb_some h
    have f6 := zfr_tr (zfr_rf _ _) (zfr_sub (m2 := 9232816789649062927566176657178949203215967063662808792152284000883481640670116826576054228832581229606108595140927899432923665793024) rfl (fr_171 h3))
    cases h
    exact f6
  · rw [if_neg hc2] at h
    by_cases hc7 : t_170_1 v1 = 37
    · rw [if_pos hc7] at h
      obtain ⟨r9, s10, h8, h⟩ := zb_some h
      have f11 := zfr_tr (zfr_rf _ _) (zfr_sub (m2 := 9232816789649062927566176657178949203215967063662808792152284000883481640670116826576054228832581229606108595140927899432923665793024) rfl (fr_174 h8))
      cases h
      exact f11
    · rw [if_neg hc7] at h
      by_cases hc12 : t_170_1 v1 = 42
      · rw [if_pos hc12] at h
        obtain ⟨r14, s15, h13, h⟩ := zb_some h
        have f16 := zfr_tr (zfr_rf _ _) (zfr_sub (m2 := 9232816789649062927566176657178949203215967063662808792152284000883481640670116826576054228832581229606108595140927899432923665793024) rfl (fr_176 h13))
        cases h
        exact f16
      · rw [if_neg hc12] at h
        by_cases hc17 : t_170_1 v1 = 47
        · rw [if_pos hc17] at h
          obtain ⟨r19, s20, h18, h⟩ := zb_some h
          have f21 := zfr_tr (zfr_rf _ _) (zfr_sub (m2 := 9232816789649062927566176657178949203215967063662808792152284000883481640670116826576054228832581229606108595140927899432923665793024) rfl (fr_183 h18))
          cases h
          exact f21
        · rw [if_neg hc17] at h
          by_cases hc22 : t_170_1 v1 = 52
          · rw [if_pos hc22] at h
            obtain ⟨r24, s25, h23, h⟩ := zb_some h
            have f26 := zfr_tr (zfr_rf _ _) (zfr_sub (m2 := 9232816789649062927566176657178949203215967063662808792152284000883481640670116826576054228832581229606108595140927899432923665793024) rfl (fr_188 h23))
            cases h
            exact f26
          · rw [if_neg hc22] at h
            cases h
theorem frj_157_56_122 {v2 : Int} {s : zS} {q : (Int × zS) ⊕ ((Int × zS) ⊕ (Int × zS))} (h : j_157_56_122 v2 s = some q) : zfr 9238362129037304557285333485547235370622839937813560425302624960044710883285728077822134177644789508762303377562850706576581614108672 s (Sum.elim (fun e : (Int × zS) => e.2) (fun t : ((Int × zS) ⊕ (Int × zS)) => Sum.elim (fun e : (Int × zS) => e.2) (fun q => q.2) t) q) := by
  unfold j_157_56_122 at h
  obtain ⟨r2, s3, h1, h⟩ := zb_some h
  have f4 := zfr_tr (zfr_rf _ _) (zfr_sub (m2 := 9238362129037304557285333485547235370622839937813560425302624960044710883285728077822134177644789508762303377562850706576581614108672) rfl (fr_170 h1))
  obtain ⟨hg5, h⟩ := zg_some h
  by_cases hc6 : r2 = 105
  · rw [if_pos hc6] at h
    cases h
    exact (zfr_tr f4 (zfr_I rfl))
  · rw [if_neg hc6] at h
    cases h
    exact (zfr_tr f4 (zfr_I rfl))
theorem frb_157_56 {v2 : Int} {s : zS} {q : (Int × zS) ⊕ ((Int × zS) ⊕ (Int × zS))} (h : b_157_56 v2 s = some q) : zfr 9238362129037304557285333485547235370622839937813560425302624960044710883285728077822134177644789508762303377562850706576581614108672 s (Sum.elim (fun e : (Int × zS) => e.2) (fun t : ((Int × zS) ⊕ (Int × zS)) => Sum.elim (fun e : (Int × zS) => e.2) (fun q => q.2) t) q) := by
  unfold b_157_56 at h
  obtain ⟨hg1, h⟩ := zg_some h
  by_cases hc2 : v2 < 100
  · rw [if_pos hc2] at h
    obtain ⟨r4, s5, h3, h⟩ := zb_some h
    have f6 := zfr_tr (zfr_rf _ _) (zfr_sub (m2 := 9238362129037304557285333485547235370622839937813560425302624960044710883285728077822134177644789508762303377562850706576581614108672) rfl (fr_159 h3))
    by_cases hc7 : (gI s5 177 27) = 3
    · rw [if_pos hc7] at h
      cases h
      exact (zfr_tr f6 (zfr_I rfl))
    · rw [if_neg hc7] at h
      by_cases hc8 : (gI s5 177 27) = 0
      · rw [if_pos hc8] at h
        exact zfr_tr (zfr_tr f6 (zfr_I rfl)) (frj_157_56_122 h)
      · rw [if_neg hc8] at h
        by_cases hc9 : 200 < (gI (sI (sI s5 177 5 (gI s5 177 28)) 177 31 ((gI s5 177 31) + 1)) 177 31)
        · rw [if_pos hc9] at h
          cases h
          exact (zfr_tr (zfr_tr f6 (zfr_I rfl)) (zfr_I rfl))
        · rw [if_neg hc9] at h
          obtain ⟨r11, h10, h⟩ := zo_some h
          obtain ⟨hg12, h⟩ := zg_some h
          by_cases hc13 : r11 = 0
          · rw [if_pos hc13] at h
            exact zfr_tr (zfr_tr (zfr_tr f6 (zfr_I rfl)) (zfr_I rfl)) (frj_157_56_122 h)
          · rw [if_neg hc13] at h
            cases h
            exact (zfr_tr (zfr_tr f6 (zfr_I rfl)) (zfr_I rfl))
  · rw [if_neg hc2] at h
    cases h
    exact (zfr_rf _ _)
theorem frl_157_56 {n : Nat} {e0 : (Int × zS)} {t : ((Int × zS) ⊕ (Int × zS))} (h : zlp (fun (q : Int × zS) => b_157_56 q.1 q.2) n e0 = some t) : zfr 9238362129037304557285333485547235370622839937813560425302624960044710883285728077822134177644789508762303377562850706576581614108672 ((fun e : (Int × zS) => e.2) e0) ((fun t : ((Int × zS) ⊕ (Int × zS)) => Sum.elim (fun e : (Int × zS) => e.2) (fun q => q.2) t) t) := zfr_lp (f := (fun e : (Int × zS) => e.2)) (g := (fun t : ((Int × zS) ⊕ (Int × zS)) => Sum.elim (fun e : (Int × zS) => e.2) (fun q => q.2) t)) (fun e q h1 => frb_157_56 h1) n e0 t h
theorem frj_157_55 {t0 : Int} {s : zS} {q : (Int × zS)} (h : j_157_55 t0 s = some q) : zfr 9238362129037304557285333485547235370622839937813560425302624960044710883285728077822134177644789508762303377562850706576581614108672 s q.2 := by
  unfold j_157_55 at h
  obtain ⟨e1, h2, h⟩ := zo_some h
  rcases e1 with e4 | q5
  · simp only [ze_l] at h
    have f3 : zfr 9238362129037304557285333485547235370622839937813560425302624960044710883285728077822134177644789508762303377562850706576581614108672 s e4.2 := zfr_tr (zfr_rf _ _) (frl_157_56 h2)
    obtain ⟨hg6, h⟩ := zg_some h
    by_cases hc7 : (e4.1 - 100) = 3
    · rw [if_pos hc7] at h
      by_cases hc8 : (gI e4.2 177 27) = 0
      · rw [if_pos hc8] at h
        cases h
        exact f3
      · rw [if_neg hc8] at h
        cases h
        exact f3
    · rw [if_neg hc7] at h
      cases h
      exact f3
  · cases h
    exact zfr_tr (zfr_rf _ _) (frl_157_56 h2)
theorem frj_157_42 {v1 : Int} {t1 : Int} {s : zS} {q : (Int × zS)} (h : j_157_42 v1 t1 s = some q) : zfr 9238362129037304557285333485547235370622839937813560425302624960044710883285728077822134177644789508762303377562850706576581614108672 s q.2 := by
  unfold j_157_42 at h
  obtain ⟨r2, s3, h1, h⟩ := zb_some h
  have f4 := zfr_tr (zfr_rf _ _) (zfr_sub (m2 := 9238362129037304557285333485547235370622839937813560425302624960044710883285728077822134177644789508762303377562850706576581614108672) rfl (fr_158 h1))
  obtain ⟨hg5, h⟩ := zg_some h
  by_cases hc6 : v1 = 0
  · rw [if_pos hc6] at h
    exact zfr_tr f4 (frj_157_55 h)
  · rw [if_neg hc6] at h
    exact zfr_tr f4 (frj_157_55 h)
theorem fr_157 {v1 : Int} {s : zS} {q : (Int × zS)} (h : f_157 v1 s = some q) : zfr 9238362129037304557285333485547235370622839937813560425302624960044710883285728077822134177644789508762303377562850706576581614108672 s q.2 := by
  unfold f_157 at h
  obtain ⟨hg1, h⟩ := zg_some h
  by_cases hc2 : v1 = 0
  · rw [if_pos hc2] at h
    exact zfr_tr (zfr_tr (zfr_tr (zfr_tr (zfr_tr (zfr_tr (zfr_tr (zfr_rf _ _) (zfr_I rfl)) (zfr_I rfl)) (zfr_I rfl)) (zfr_I rfl)) (zfr_I rfl)) (zfr_I rfl)) (frj_157_42 h)
  · rw [if_neg hc2] at h
    exact zfr_tr (zfr_tr (zfr_tr (zfr_tr (zfr_tr (zfr_tr (zfr_tr (zfr_rf _ _) (zfr_I rfl)) (zfr_I rfl)) (zfr_I rfl)) (zfr_I rfl)) (zfr_I rfl)) (zfr_I rfl)) (frj_157_42 h)
theorem frj_156_25 {t1 : Int} {s : zS} {q : (Int × zS)} (h : j_156_25 t1 s = some q) : zfr 9238362129264542546556981441436956257759104982754574535071596629173808906661501227988847036546068168270430746304713384317822894604288 s q.2 := by
  unfold j_156_25 at h
  by_cases hc1 : (gI s 177 4) = 0
  · rw [if_pos hc1] at h
    cases h
    exact (zfr_tr (zfr_tr (zfr_tr (zfr_tr (zfr_rf _ _) (zfr_I rfl)) (zfr_I rfl)) (zfr_I rfl)) (zfr_IA rfl rfl))
  · rw [if_neg hc1] at h
    cases h
    exact (zfr_tr (zfr_tr (zfr_tr (zfr_tr (zfr_rf _ _) (zfr_I rfl)) (zfr_I rfl)) (zfr_I rfl)) (zfr_IA rfl rfl))
theorem fr_156 {v1 : Int} {s : zS} {q : (Int × zS)} (h : f_156 v1 s = some q) : zfr 9238362129264542546556981441436956257759104982754574535071596629173808906661501227988847036546068168270430746304713384317822894604288 s q.2 := by
  unfold f_156 at h
  obtain ⟨r2, s3, h1, h⟩ := zb_some h
  have f4 := zfr_tr (zfr_rf _ _) (zfr_sub (m2 := 9238362129264542546556981441436956257759104982754574535071596629173808906661501227988847036546068168270430746304713384317822894604288) rfl (fr_157 h1))
  by_cases hc5 : (gI (sI s3 177 4 r2) 177 4) = 0
  · rw [if_pos hc5] at h
    exact zfr_tr (zfr_tr f4 (zfr_I rfl)) (frj_156_25 h)
  · rw [if_neg hc5] at h
    exact zfr_tr (zfr_tr f4 (zfr_I rfl)) (frj_156_25 h)
theorem frb_189_2 {v1 : Int} {v2 : Int} {s : zS} {q : (Int × zS) ⊕ (zS)} (h : b_189_2 v1 v2 s = some q) : zfr 367798929807813326006003286516074204068497389324064522240 s (Sum.elim (fun e : (Int × zS) => e.2) (fun e : (zS) => e) q) := by
  unfold b_189_2 at h
  obtain ⟨hg1, h⟩ := zg_some h
  by_cases hc2 : v2 < (gI s 177 41)
  · rw [if_pos hc2] at h
    obtain ⟨hg3, h⟩ := zg_some h
    obtain ⟨hg4, h⟩ := zg_some h
    cases h
    exact (zfr_tr (zfr_tr (zfr_tr (zfr_rf _ _) (zfr_IA rfl rfl)) (zfr_IA rfl rfl)) (zfr_IA rfl rfl))
  · rw [if_neg hc2] at h
    cases h
    exact (zfr_rf _ _)
theorem frl_189_2 {v1 : Int} {n : Nat} {e0 : (Int × zS)} {t : (zS)} (h : zlp (fun (q : Int × zS) => b_189_2 v1 q.1 q.2) n e0 = some t) : zfr 367798929807813326006003286516074204068497389324064522240 ((fun e : (Int × zS) => e.2) e0) ((fun e : (zS) => e) t) := zfr_lp (f := (fun e : (Int × zS) => e.2)) (g := (fun e : (zS) => e)) (fun e q h1 => frb_189_2 h1) n e0 t h
theorem fr_189 {v1 : Int} {s : zS} {q : (Unit × zS)} (h : f_189 v1 s = some q) : zfr 367798929807813326006003286516074204068497389324064522240 s q.2 := by
  unfold f_189 at h
  obtain ⟨e1, h2, h⟩ := zo_some h
  have f3 : zfr 367798929807813326006003286516074204068497389324064522240 s e1 := zfr_tr (zfr_rf _ _) (frl_189_2 h2)
  obtain ⟨hg4, h⟩ := zg_some h
  cases h
  exact (zfr_tr f3 (zfr_IA rfl rfl))
theorem frj_155_15 {t1 : Int} {s : zS} {q : (Int × zS)} (h : j_155_15 t1 s = some q) : zfr 9238368221558933167366156290878091006949011053206462439680142780009936814942206228314688670232200962878726518687765707320344776278016 s q.2 := by
  unfold j_155_15 at h
  by_cases hc1 : 0 < (gI (sI s 177 0 t1) 177 0)
  · rw [if_pos hc1] at h
    cases h
    exact (zfr_tr (zfr_tr (zfr_rf _ _) (zfr_I rfl)) (zfr_I rfl))
  · rw [if_neg hc1] at h
    obtain ⟨r3, s4, h2, h⟩ := zb_some h
    have f5 := zfr_tr (zfr_tr (zfr_rf _ _) (zfr_I rfl)) (zfr_sub (m2 := 9238368221558933167366156290878091006949011053206462439680142780009936814942206228314688670232200962878726518687765707320344776278016) rfl (fr_156 h2))
    obtain ⟨hg6, h⟩ := zg_some h
    by_cases hc7 : r3 = 0
    · rw [if_pos hc7] at h
      cases h
      exact f5
    · rw [if_neg hc7] at h
      obtain ⟨r9, s10, h8, h⟩ := zb_some h
      have f11 := zfr_tr f5 (zfr_sub (m2 := 9238368221558933167366156290878091006949011053206462439680142780009936814942206228314688670232200962878726518687765707320344776278016) rfl (fr_189 h8))
      obtain ⟨hg12, h⟩ := zg_some h
      cases h
      exact (zfr_tr (zfr_tr (zfr_tr f11 (zfr_IA rfl rfl)) (zfr_I rfl)) (zfr_I rfl))
theorem fr_155 {s : zS} {q : (Int × zS)} (h : f_155 s = some q) : zfr 9238368221558933167366156290878091006949011053206462439680142780009936814942206228314688670232200962878726518687765707320344776278016 s q.2 := by
  unfold f_155 at h
  by_cases hc1 : (gI s 177 18) = 16
  · rw [if_pos hc1] at h
    exact zfr_tr (zfr_rf _ _) (frj_155_15 h)
  · rw [if_neg hc1] at h
    exact zfr_tr (zfr_rf _ _) (frj_155_15 h)
theorem frj_190_13 {t1 : Int} {s : zS} {q : (Int × zS)} (h : j_190_13 t1 s = some q) : zfr 6092294390620809174849441134749189906070451887904608546150836127908280312681467379966138393057769345293232045925787242879516672 s q.2 := by
  unfold j_190_13 at h
  by_cases hc1 : 0 < (gI (sI s 177 0 t1) 177 0)
  · rw [if_pos hc1] at h
    cases h
    exact (zfr_tr (zfr_rf _ _) (zfr_I rfl))
  · rw [if_neg hc1] at h
    cases h
    exact (zfr_tr (zfr_tr (zfr_tr (zfr_rf _ _) (zfr_I rfl)) (zfr_I rfl)) (zfr_I rfl))
theorem fr_190 {s : zS} {q : (Int × zS)} (h : f_190 s = some q) : zfr 6092294390620809174849441134749189906070451887904608546150836127908280312681467379966138393057769345293232045925787242879516672 s q.2 := by
  unfold f_190 at h
  by_cases hc1 : (gI s 177 18) = 0
  · rw [if_pos hc1] at h
    exact zfr_tr (zfr_rf _ _) (frj_190_13 h)
  · rw [if_neg hc1] at h
    exact zfr_tr (zfr_rf _ _) (frj_190_13 h)
theorem fr_191 {s : zS} {q : (Int × zS)} (h : f_191 s = some q) : zfr 9238368898480245208580721617639366432506555837492857795104111327490303175933344135439045127678212716308227723470160423728984677679104 s q.2 := by
  unfold f_191 at h
  obtain ⟨r2, s3, h1, h⟩ := zb_some h
  have f4 := zfr_tr (zfr_tr (zfr_rf _ _) (zfr_I rfl)) (zfr_sub (m2 := 9238368898480245208580721617639366432506555837492857795104111327490303175933344135439045127678212716308227723470160423728984677679104) rfl (fr_156 h1))
  obtain ⟨hg5, h⟩ := zg_some h
  by_cases hc6 : r2 = 0
  · rw [if_pos hc6] at h
    cases h
    exact f4
  · rw [if_neg hc6] at h
    obtain ⟨r8, s9, h7, h⟩ := zb_some h
    have f10 := zfr_tr f4 (zfr_sub (m2 := 9238368898480245208580721617639366432506555837492857795104111327490303175933344135439045127678212716308227723470160423728984677679104) rfl (fr_189 h7))
    cases h
    exact (zfr_tr (zfr_tr f10 (zfr_I rfl)) (zfr_I rfl))
theorem frb_195_2 {v1 : Int} {v2 : Int} {s : zS} {q : (Int × zS) ⊕ (zS)} (h : b_195_2 v1 v2 s = some q) : zfr 301300883298560676664117892313967987972913061334273656619008 s (Sum.elim (fun e : (Int × zS) => e.2) (fun e : (zS) => e) q) := by
  unfold b_195_2 at h
  obtain ⟨hg1, h⟩ := zg_some h
  by_cases hc2 : v2 < (gI s 177 10)
  · rw [if_pos hc2] at h
    obtain ⟨hg3, h⟩ := zg_some h
    cases h
    exact (zfr_tr (zfr_tr (zfr_rf _ _) (zfr_JA rfl rfl)) (zfr_JA rfl rfl))
  · rw [if_neg hc2] at h
    cases h
    exact (zfr_rf _ _)
theorem frl_195_2 {v1 : Int} {n : Nat} {e0 : (Int × zS)} {t : (zS)} (h : zlp (fun (q : Int × zS) => b_195_2 v1 q.1 q.2) n e0 = some t) : zfr 301300883298560676664117892313967987972913061334273656619008 ((fun e : (Int × zS) => e.2) e0) ((fun e : (zS) => e) t) := zfr_lp (f := (fun e : (Int × zS) => e.2)) (g := (fun e : (zS) => e)) (fun e q h1 => frb_195_2 h1) n e0 t h
theorem fr_196 {v1 : Int} {v2 : Int} {s : zS} {q : (Unit × zS)} (h : f_196 v1 v2 s = some q) : zfr 301300883298560676664117892313967987972913061334273656619008 s q.2 := by
  unfold f_196 at h
  obtain ⟨hg1, h⟩ := zg_some h
  by_cases hc2 : v2 < 64
  · rw [if_pos hc2] at h
    obtain ⟨hg3, h⟩ := zg_some h
    cases h
    exact (zfr_tr (zfr_rf _ _) (zfr_JA rfl rfl))
  · rw [if_neg hc2] at h
    obtain ⟨hg4, h⟩ := zg_some h
    obtain ⟨hg5, h⟩ := zg_some h
    cases h
    exact (zfr_tr (zfr_rf _ _) (zfr_JA rfl rfl))
theorem frb_195_32 {v1 : Int} {v2 : Int} {s : zS} {q : (Int × zS) ⊕ (zS)} (h : b_195_32 v1 v2 s = some q) : zfr 301300883298560676664117892313967987972913061334273656619008 s (Sum.elim (fun e : (Int × zS) => e.2) (fun e : (zS) => e) q) := by
  unfold b_195_32 at h
  obtain ⟨hg1, h⟩ := zg_some h
  obtain ⟨hg2, h⟩ := zg_some h
  by_cases hc3 : v2 < (125 * (gI s 177 10))
  · rw [if_pos hc3] at h
    obtain ⟨hg4, h⟩ := zg_some h
    by_cases hc5 : (gI s 181 v2) = 2
    · rw [if_pos hc5] at h
      obtain ⟨hg6, h⟩ := zg_some h
      obtain ⟨r8, s9, h7, h⟩ := zb_some h
      have f10 := zfr_tr (zfr_rf _ _) (zfr_sub (m2 := 301300883298560676664117892313967987972913061334273656619008) rfl (fr_196 h7))
      cases h
      exact f10
    · rw [if_neg hc5] at h
      cases h
      exact (zfr_rf _ _)
  · rw [if_neg hc3] at h
    cases h
    exact (zfr_rf _ _)
theorem frl_195_32 {v1 : Int} {n : Nat} {e0 : (Int × zS)} {t : (zS)} (h : zlp (fun (q : Int × zS) => b_195_32 v1 q.1 q.2) n e0 = some t) : zfr 301300883298560676664117892313967987972913061334273656619008 ((fun e : (Int × zS) => e.2) e0) ((fun e : (zS) => e) t) := zfr_lp (f := (fun e : (Int × zS) => e.2)) (g := (fun e : (zS) => e)) (fun e q h1 => frb_195_32 h1) n e0 t h
theorem frb_195_73 {v1 : Int} {v2 : Int} {s : zS} {q : (Int × zS) ⊕ (zS)} (h : b_195_73 v1 v2 s = some q) : zfr 301300883298560676664117892313967987972913061334273656619008 s (Sum.elim (fun e : (Int × zS) => e.2) (fun e : (zS) => e) q) := by
  unfold b_195_73 at h
  obtain ⟨hg1, h⟩ := zg_some h
  by_cases hc2 : v2 < (gI s 177 13)
  · rw [if_pos hc2] at h
    obtain ⟨r4, h3, h⟩ := zo_some h
    obtain ⟨hg5, h⟩ := zg_some h
    by_cases hc6 : r4 = 0
    · rw [if_pos hc6] at h
      cases h
      exact (zfr_rf _ _)
    · rw [if_neg hc6] at h
      obtain ⟨hg7, h⟩ := zg_some h
      obtain ⟨r9, s10, h8, h⟩ := zb_some h
      have f11 := zfr_tr (zfr_rf _ _) (zfr_sub (m2 := 301300883298560676664117892313967987972913061334273656619008) rfl (fr_196 h8))
      cases h
      exact f11
  · rw [if_neg hc2] at h
    cases h
    exact (zfr_rf _ _)
theorem frl_195_73 {v1 : Int} {n : Nat} {e0 : (Int × zS)} {t : (zS)} (h : zlp (fun (q : Int × zS) => b_195_73 v1 q.1 q.2) n e0 = some t) : zfr 301300883298560676664117892313967987972913061334273656619008 ((fun e : (Int × zS) => e.2) e0) ((fun e : (zS) => e) t) := zfr_lp (f := (fun e : (Int × zS) => e.2)) (g := (fun e : (zS) => e)) (fun e q h1 => frb_195_73 h1) n e0 t h
theorem fr_195 {v1 : Int} {s : zS} {q : (Unit × zS)} (h : f_195 v1 s = some q) : zfr 301300883298560676664117892313967987972913061334273656619008 s q.2 := by
  unfold f_195 at h
  obtain ⟨e1, h2, h⟩ := zo_some h
  have f3 : zfr 301300883298560676664117892313967987972913061334273656619008 s e1 := zfr_tr (zfr_rf _ _) (frl_195_2 h2)
  obtain ⟨e4, h5, h⟩ := zo_some h
  have f6 : zfr 301300883298560676664117892313967987972913061334273656619008 s e4 := zfr_tr f3 (frl_195_32 h5)
  obtain ⟨e7, h8, h⟩ := zo_some h
  have f9 : zfr 301300883298560676664117892313967987972913061334273656619008 s e7 := zfr_tr f6 (frl_195_73 h8)
  cases h
  exact f9
theorem fr_203 {w1 : BitVec 64} {w3 : BitVec 64} {s : zS} {q : (Unit × zS)} (h : f_203 w1 w3 s = some q) : zfr 181709681073901722637330951972001133588410340171829515070372549795159822029554684364742005385097362959446502353458196728720745033629696 s q.2 := by
  unfold f_203 at h
  obtain ⟨hg1, h⟩ := zg_some h
  cases h
  exact (zfr_tr (zfr_tr (zfr_tr (zfr_rf _ _) (zfr_JA rfl rfl)) (zfr_JA rfl rfl)) (zfr_I rfl))
theorem fr_206 {v1 : Int} {s : zS} {q : (Unit × zS)} (h : f_206 v1 s = some q) : zfr 181709681073901722637330951972001133588410340171829515070372549795159822029554684364742005385097362959446502353458196728720745033629696 s q.2 := by
  unfold f_206 at h
  obtain ⟨hg1, h⟩ := zg_some h
  by_cases hc2 : v1 = 0
  · rw [if_pos hc2] at h
    obtain ⟨r4, s5, h3, h⟩ := zb_some h
    have f6 := zfr_tr (zfr_rf _ _) (zfr_sub (m2 := 181709681073901722637330951972001133588410340171829515070372549795159822029554684364742005385097362959446502353458196728720745033629696) rfl (fr_203 h3))
    cases h
    exact f6
  · rw [if_neg hc2] at h
    obtain ⟨r8, s9, h7, h⟩ := zb_some h
    have f10 := zfr_tr (zfr_rf _ _) (zfr_sub (m2 := 181709681073901722637330951972001133588410340171829515070372549795159822029554684364742005385097362959446502353458196728720745033629696) rfl (fr_203 h7))
    cases h
    exact f10
theorem fr_202 {v1 : Int} {s : zS} {q : (Unit × zS)} (h : f_202 v1 s = some q) : zfr 23440548858533322220215692804388146232904933882166007444078058923575617041658288230802855628225531460903847193753975890601827997149298688 s q.2 := by
  unfold f_202 at h
  obtain ⟨hg1, h⟩ := zg_some h
  obtain ⟨hg2, h⟩ := zg_some h
  by_cases hc3 : v1 = 5
  · rw [if_pos hc3] at h
    obtain ⟨r5, s6, h4, h⟩ := zb_some h
    have f7 := zfr_tr (zfr_tr (zfr_rf _ _) (zfr_I rfl)) (zfr_sub (m2 := 23440548858533322220215692804388146232904933882166007444078058923575617041658288230802855628225531460903847193753975890601827997149298688) rfl (fr_203 h4))
    cases h
    exact f7
  · rw [if_neg hc3] at h
    obtain ⟨r9, h8, h⟩ := zo_some h
    obtain ⟨r11, h10, h⟩ := zo_some h
    obtain ⟨r13, h12, h⟩ := zo_some h
    obtain ⟨r15, s16, h14, h⟩ := zb_some h
    have f17 := zfr_tr (zfr_tr (zfr_rf _ _) (zfr_I rfl)) (zfr_sub (m2 := 23440548858533322220215692804388146232904933882166007444078058923575617041658288230802855628225531460903847193753975890601827997149298688) rfl (fr_206 h14))
    cases h
    exact f17
theorem fr_200 {v1 : Int} {v2 : Int} {s : zS} {q : (Int × zS)} (h : f_200 v1 v2 s = some q) : zfr 23440548858533322220215692804388146232904933882166007444078058923575617041682392301466740482358660892288964632791808935508569889678819328 s q.2 := by
  unfold f_200 at h
  obtain ⟨hg1, h⟩ := zg_some h
  obtain ⟨hg2, h⟩ := zg_some h
  obtain ⟨r4, h3, h⟩ := zo_some h
  obtain ⟨hg5, h⟩ := zg_some h
  by_cases hc6 : (gI (sI (sI (sI (sI (sI s 177 46 ((gI s 177 46) - 1)) 202 (gI s 177 53) ((BitVec.toNat (gJ s 198 (gI (sI s 177 46 ((gI s 177 46) - 1)) 177 46)) : Nat) : Int)) 203 (gI s 177 53) 0) 200 (gI s 177 53) (v2 + 1)) 201 (gI s 177 53) r4) 201 ((gI (sI (sI (sI (sI (sI (sI s 177 46 ((gI s 177 46) - 1)) 202 (gI s 177 53) ((BitVec.toNat (gJ s 198 (gI (sI s 177 46 ((gI s 177 46) - 1)) 177 46)) : Nat) : Int)) 203 (gI s 177 53) 0) 200 (gI s 177 53) (v2 + 1)) 201 (gI s 177 53) r4) 177 53 ((gI s 177 53) + 1)) 177 53) - 1)) < (gI s 177 1)
  · rw [if_pos hc6] at h
    cases h
    exact (zfr_tr (zfr_tr (zfr_tr (zfr_tr (zfr_tr (zfr_tr (zfr_rf _ _) (zfr_I rfl)) (zfr_IA rfl rfl)) (zfr_IA rfl rfl)) (zfr_IA rfl rfl)) (zfr_IA rfl rfl)) (zfr_I rfl))
  · rw [if_neg hc6] at h
    obtain ⟨hg7, h⟩ := zg_some h
    obtain ⟨hg8, h⟩ := zg_some h
    obtain ⟨r10, s11, h9, h⟩ := zb_some h
    have f12 := zfr_tr (zfr_tr (zfr_tr (zfr_tr (zfr_tr (zfr_tr (zfr_tr (zfr_rf _ _) (zfr_I rfl)) (zfr_IA rfl rfl)) (zfr_IA rfl rfl)) (zfr_IA rfl rfl)) (zfr_IA rfl rfl)) (zfr_I rfl)) (zfr_sub (m2 := 23440548858533322220215692804388146232904933882166007444078058923575617041682392301466740482358660892288964632791808935508569889678819328) rfl (fr_202 h9))
    cases h
    exact f12
theorem frj_207_60 {v1 : Int} {v2 : Int} {v3 : Int} {t1 : Int} {t2 : Int} {s : zS} {q : (Int × zS)} (h : j_207_60 v1 v2 v3 t1 t2 s = some q) : zfr 23440548858533322220215692804388146232904933882166007444078058923575617041674357611245445530980951081827258819779197920539655925502312448 s q.2 := by
  unfold j_207_60 at h
  obtain ⟨hg1, h⟩ := zg_some h
  obtain ⟨hg2, h⟩ := zg_some h
  obtain ⟨r4, h3, h⟩ := zo_some h
  by_cases hc5 : (gI (sI (sI s 203 t1 t2) 201 v3 r4) 201 v3) < (gI s 177 1)
  · rw [if_pos hc5] at h
    cases h
    exact (zfr_tr (zfr_tr (zfr_rf _ _) (zfr_IA rfl rfl)) (zfr_IA rfl rfl))
  · rw [if_neg hc5] at h
    obtain ⟨r7, s8, h6, h⟩ := zb_some h
    have f9 := zfr_tr (zfr_tr (zfr_tr (zfr_rf _ _) (zfr_IA rfl rfl)) (zfr_IA rfl rfl)) (zfr_sub (m2 := 23440548858533322220215692804388146232904933882166007444078058923575617041674357611245445530980951081827258819779197920539655925502312448) rfl (fr_202 h6))
    cases h
    exact f9
theorem fr_207 {v1 : Int} {v2 : Int} {s : zS} {q : (Int × zS)} (h : f_207 v1 v2 s = some q) : zfr 23440548858533322220215692804388146232904933882166007444078058923575617041674357611245445530980951081827258819779197920539655925502312448 s q.2 := by
  unfold f_207 at h
  obtain ⟨hg1, h⟩ := zg_some h
  by_cases hc2 : (gJ s 198 (gI (sI s 177 46 ((gI s 177 46) - 1)) 177 46)) = (1#64)
  · rw [if_pos hc2] at h
    obtain ⟨hg3, h⟩ := zg_some h
    exact zfr_tr (zfr_tr (zfr_rf _ _) (zfr_I rfl)) (frj_207_60 h)
  · rw [if_neg hc2] at h
    obtain ⟨hg4, h⟩ := zg_some h
    exact zfr_tr (zfr_tr (zfr_rf _ _) (zfr_I rfl)) (frj_207_60 h)
theorem frj_217_197 {w4 : BitVec 64} {s : zS} {q : (Unit × zS)} (h : j_217_197 w4 s = some q) : zfr 1205203533194242706656471569255871951891652245337094626476032 s q.2 := by
  unfold j_217_197 at h
  obtain ⟨hg1, h⟩ := zg_some h
  cases h
  exact (zfr_tr (zfr_tr (zfr_rf _ _) (zfr_JA rfl rfl)) (zfr_JA rfl rfl))
theorem frj_217_195 {u0 : BitVec 64} {s : zS} {q : (Unit × zS)} (h : j_217_195 u0 s = some q) : zfr 1205203533194242706656471569255871951891652245337094626476032 s q.2 := by
  unfold j_217_195 at h
  exact zfr_tr (zfr_rf _ _) (frj_217_197 h)
theorem fr_217 {v1 : Int} {s : zS} {q : (Unit × zS)} (h : f_217 v1 s = some q) : zfr 1205203533194242706656471569255871951891652245337094626476032 s q.2 := by
  unfold f_217 at h
  obtain ⟨hg1, h⟩ := zg_some h
  obtain ⟨hg2, h⟩ := zg_some h
  by_cases hc3 : v1 = 38
  · rw [if_pos hc3] at h
    obtain ⟨e4, h5, h⟩ := zo_some h
    exact zfr_tr (zfr_rf _ _) (frj_217_197 h)
  · rw [if_neg hc3] at h
    obtain ⟨e6, h7, h⟩ := zo_some h
    by_cases hc8 : v1 = 40
    · rw [if_pos hc8] at h
      obtain ⟨r10, h9, h⟩ := zo_some h
      exact zfr_tr (zfr_rf _ _) (frj_217_195 h)
    · rw [if_neg hc8] at h
      exact zfr_tr (zfr_rf _ _) (frj_217_195 h)
theorem fr_220 {v1 : Int} {v2 : Int} {v3 : Int} {s : zS} {q : (Unit × zS)} (h : f_220 v1 v2 v3 s = some q) : zfr 181709681073901722637330951972001133588410340171829515070372549795159822029554684364742005385097362959446502353458196728720745033629696 s q.2 := by
  unfold f_220 at h
  obtain ⟨hg1, h⟩ := zg_some h
  by_cases hc2 : t_220_1 v1 = 184
  · rw [if_pos hc2] at h
    obtain ⟨hg3, h⟩ := zg_some h
    obtain ⟨r5, s6, h4, h⟩ := zb_some h
    have f7 := zfr_tr (zfr_rf _ _) (zfr_sub (m2 := 181709681073901722637330951972001133588410340171829515070372549795159822029554684364742005385097362959446502353458196728720745033629696) rfl (fr_203 h4))
    cases h
    exact f7
  · rw [if_neg hc2] at h
    by_cases hc8 : t_220_1 v1 = 203
    · rw [if_pos hc8] at h
      obtain ⟨hg9, h⟩ := zg_some h
      obtain ⟨r11, s12, h10, h⟩ := zb_some h
      have f13 := zfr_tr (zfr_rf _ _) (zfr_sub (m2 := 181709681073901722637330951972001133588410340171829515070372549795159822029554684364742005385097362959446502353458196728720745033629696) rfl (fr_203 h10))
      cases h
      exact f13
    · rw [if_neg hc8] at h
      by_cases hc14 : t_220_1 v1 = 219
      · rw [if_pos hc14] at h
        obtain ⟨r16, s17, h15, h⟩ := zb_some h
        have f18 := zfr_tr (zfr_rf _ _) (zfr_sub (m2 := 181709681073901722637330951972001133588410340171829515070372549795159822029554684364742005385097362959446502353458196728720745033629696) rfl (fr_203 h15))
        cases h
        exact f18
      · rw [if_neg hc14] at h
        by_cases hc19 : t_220_1 v1 = 228
        · rw [if_pos hc19] at h
          obtain ⟨r21, s22, h20, h⟩ := zb_some h
          have f23 := zfr_tr (zfr_rf _ _) (zfr_sub (m2 := 181709681073901722637330951972001133588410340171829515070372549795159822029554684364742005385097362959446502353458196728720745033629696) rfl (fr_203 h20))
          cases h
          exact f23
        · rw [if_neg hc19] at h
          by_cases hc24 : t_220_1 v1 = 244
          · rw [if_pos hc24] at h
            obtain ⟨r26, h25, h⟩ := zo_some h
            obtain ⟨r28, s29, h27, h⟩ := zb_some h
            have f30 := zfr_tr (zfr_rf _ _) (zfr_sub (m2 := 181709681073901722637330951972001133588410340171829515070372549795159822029554684364742005385097362959446502353458196728720745033629696) rfl (fr_203 h27))
            cases h
            exact f30
          · rw [if_neg hc24] at h
            by_cases hc31 : t_220_1 v1 = 256
            · rw [if_pos hc31] at h
              by_cases hc32 : v1 = 24
              · rw [if_pos hc32] at h
                obtain ⟨r34, s35, h33, h⟩ := zb_some h
                have f36 := zfr_tr (zfr_rf _ _) (zfr_sub (m2 := 181709681073901722637330951972001133588410340171829515070372549795159822029554684364742005385097362959446502353458196728720745033629696) rfl (fr_206 h33))
                cases h
                exact f36
              · rw [if_neg hc32] at h
                obtain ⟨r38, s39, h37, h⟩ := zb_some h
                have f40 := zfr_tr (zfr_rf _ _) (zfr_sub (m2 := 181709681073901722637330951972001133588410340171829515070372549795159822029554684364742005385097362959446502353458196728720745033629696) rfl (fr_206 h37))
                cases h
                exact f40
            · rw [if_neg hc31] at h
              by_cases hc41 : t_220_1 v1 = 274
              · rw [if_pos hc41] at h
                obtain ⟨hg42, h⟩ := zg_some h
                by_cases hc43 : (gJ s 198 (gI (sI s 177 46 ((gI s 177 46) - 1)) 177 46)) = (0#64)
                · rw [if_pos hc43] at h
                  obtain ⟨r45, s46, h44, h⟩ := zb_some h
                  have f47 := zfr_tr (zfr_tr (zfr_rf _ _) (zfr_I rfl)) (zfr_sub (m2 := 181709681073901722637330951972001133588410340171829515070372549795159822029554684364742005385097362959446502353458196728720745033629696) rfl (fr_206 h44))
                  cases h
                  exact f47
                · rw [if_neg hc43] at h
                  obtain ⟨r49, s50, h48, h⟩ := zb_some h
                  have f51 := zfr_tr (zfr_tr (zfr_rf _ _) (zfr_I rfl)) (zfr_sub (m2 := 181709681073901722637330951972001133588410340171829515070372549795159822029554684364742005385097362959446502353458196728720745033629696) rfl (fr_206 h48))
                  cases h
                  exact f51
              · rw [if_neg hc41] at h
                by_cases hc52 : t_220_1 v1 = 310
                · rw [if_pos hc52] at h
                  obtain ⟨hg53, h⟩ := zg_some h
                  obtain ⟨hg54, h⟩ := zg_some h
                  by_cases hc55 : ((gJ s 198 (gI (sI s 177 46 ((gI s 177 46) - 2)) 177 46)) &&& ((gJ s 198 ((gI (sI s 177 46 ((gI s 177 46) - 2)) 177 46) + 1)) ^^^ (18446744073709551615#64))) = (0#64)
                  · rw [if_pos hc55] at h
                    by_cases hc56 : ((gJ s 199 (gI (sI s 177 46 ((gI s 177 46) - 2)) 177 46)) &&& ((gJ s 199 ((gI (sI s 177 46 ((gI s 177 46) - 2)) 177 46) + 1)) ^^^ (18446744073709551615#64))) = (0#64)
                    · rw [if_pos hc56] at h
                      obtain ⟨r58, s59, h57, h⟩ := zb_some h
                      have f60 := zfr_tr (zfr_tr (zfr_rf _ _) (zfr_I rfl)) (zfr_sub (m2 := 181709681073901722637330951972001133588410340171829515070372549795159822029554684364742005385097362959446502353458196728720745033629696) rfl (fr_206 h57))
                      cases h
                      exact f60
                    · rw [if_neg hc56] at h
                      obtain ⟨r62, s63, h61, h⟩ := zb_some h
                      have f64 := zfr_tr (zfr_tr (zfr_rf _ _) (zfr_I rfl)) (zfr_sub (m2 := 181709681073901722637330951972001133588410340171829515070372549795159822029554684364742005385097362959446502353458196728720745033629696) rfl (fr_206 h61))
                      cases h
                      exact f64
                  · rw [if_neg hc55] at h
                    obtain ⟨r66, s67, h65, h⟩ := zb_some h
                    have f68 := zfr_tr (zfr_tr (zfr_rf _ _) (zfr_I rfl)) (zfr_sub (m2 := 181709681073901722637330951972001133588410340171829515070372549795159822029554684364742005385097362959446502353458196728720745033629696) rfl (fr_206 h65))
                    cases h
                    exact f68
                · rw [if_neg hc52] at h
                  by_cases hc69 : t_220_1 v1 = 392
                  · rw [if_pos hc69] at h
                    obtain ⟨hg70, h⟩ := zg_some h
                    obtain ⟨hg71, h⟩ := zg_some h
                    by_cases hc72 : (gJ s 198 (gI (sI s 177 46 ((gI s 177 46) - 2)) 177 46)) = (gJ s 198 ((gI (sI s 177 46 ((gI s 177 46) - 2)) 177 46) + 1))
                    · rw [if_pos hc72] at h
                      by_cases hc73 : (gJ s 199 (gI (sI s 177 46 ((gI s 177 46) - 2)) 177 46)) = (gJ s 199 ((gI (sI s 177 46 ((gI s 177 46) - 2)) 177 46) + 1))
                      · rw [if_pos hc73] at h
                        obtain ⟨r75, s76, h74, h⟩ := zb_some h
                        have f77 := zfr_tr (zfr_tr (zfr_rf _ _) (zfr_I rfl)) (zfr_sub (m2 := 181709681073901722637330951972001133588410340171829515070372549795159822029554684364742005385097362959446502353458196728720745033629696) rfl (fr_206 h74))
                        cases h
                        exact f77
                      · rw [if_neg hc73] at h
                        obtain ⟨r79, s80, h78, h⟩ := zb_some h
                        have f81 := zfr_tr (zfr_tr (zfr_rf _ _) (zfr_I rfl)) (zfr_sub (m2 := 181709681073901722637330951972001133588410340171829515070372549795159822029554684364742005385097362959446502353458196728720745033629696) rfl (fr_206 h78))
                        cases h
                        exact f81
                    · rw [if_neg hc72] at h
                      obtain ⟨r83, s84, h82, h⟩ := zb_some h
                      have f85 := zfr_tr (zfr_tr (zfr_rf _ _) (zfr_I rfl)) (zfr_sub (m2 := 181709681073901722637330951972001133588410340171829515070372549795159822029554684364742005385097362959446502353458196728720745033629696) rfl (fr_206 h82))
                      cases h
                      exact f85
                  · rw [if_neg hc69] at h
                    by_cases hc86 : t_220_1 v1 = 462
                    · rw [if_pos hc86] at h
                      obtain ⟨hg87, h⟩ := zg_some h
                      obtain ⟨r89, h88, h⟩ := zo_some h
                      obtain ⟨r91, h90, h⟩ := zo_some h
                      obtain ⟨r93, s94, h92, h⟩ := zb_some h
                      have f95 := zfr_tr (zfr_tr (zfr_rf _ _) (zfr_I rfl)) (zfr_sub (m2 := 181709681073901722637330951972001133588410340171829515070372549795159822029554684364742005385097362959446502353458196728720745033629696) rfl (fr_206 h92))
                      cases h
                      exact f95
                    · rw [if_neg hc86] at h
                      by_cases hc96 : t_220_1 v1 = 505
                      · rw [if_pos hc96] at h
                        obtain ⟨hg97, h⟩ := zg_some h
                        obtain ⟨r99, h98, h⟩ := zo_some h
                        obtain ⟨hg100, h⟩ := zg_some h
                        by_cases hc101 : v2 = 42
                        · rw [if_pos hc101] at h
                          obtain ⟨hg102, h⟩ := zg_some h
                          obtain ⟨hg103, h⟩ := zg_some h
                          by_cases hc104 : r99 = v3
                          · rw [if_pos hc104] at h
                            obtain ⟨r106, s107, h105, h⟩ := zb_some h
                            have f108 := zfr_tr (zfr_tr (zfr_rf _ _) (zfr_I rfl)) (zfr_sub (m2 := 181709681073901722637330951972001133588410340171829515070372549795159822029554684364742005385097362959446502353458196728720745033629696) rfl (fr_206 h105))
                            cases h
                            exact f108
                          · rw [if_neg hc104] at h
                            obtain ⟨r110, s111, h109, h⟩ := zb_some h
                            have f112 := zfr_tr (zfr_tr (zfr_rf _ _) (zfr_I rfl)) (zfr_sub (m2 := 181709681073901722637330951972001133588410340171829515070372549795159822029554684364742005385097362959446502353458196728720745033629696) rfl (fr_206 h109))
                            cases h
                            exact f112
                        · rw [if_neg hc101] at h
                          by_cases hc113 : v2 = 43
                          · rw [if_pos hc113] at h
                            obtain ⟨hg114, h⟩ := zg_some h
                            obtain ⟨hg115, h⟩ := zg_some h
                            by_cases hc116 : r99 < v3
                            · rw [if_pos hc116] at h
                              obtain ⟨r118, s119, h117, h⟩ := zb_some h
                              have f120 := zfr_tr (zfr_tr (zfr_rf _ _) (zfr_I rfl)) (zfr_sub (m2 := 181709681073901722637330951972001133588410340171829515070372549795159822029554684364742005385097362959446502353458196728720745033629696) rfl (fr_206 h117))
                              cases h
                              exact f120
                            · rw [if_neg hc116] at h
                              obtain ⟨r122, s123, h121, h⟩ := zb_some h
                              have f124 := zfr_tr (zfr_tr (zfr_rf _ _) (zfr_I rfl)) (zfr_sub (m2 := 181709681073901722637330951972001133588410340171829515070372549795159822029554684364742005385097362959446502353458196728720745033629696) rfl (fr_206 h121))
                              cases h
                              exact f124
                          · rw [if_neg hc113] at h
                            obtain ⟨hg125, h⟩ := zg_some h
                            obtain ⟨hg126, h⟩ := zg_some h
                            by_cases hc127 : v3 < r99
                            · rw [if_pos hc127] at h
                              obtain ⟨r129, s130, h128, h⟩ := zb_some h
                              have f131 := zfr_tr (zfr_tr (zfr_rf _ _) (zfr_I rfl)) (zfr_sub (m2 := 181709681073901722637330951972001133588410340171829515070372549795159822029554684364742005385097362959446502353458196728720745033629696) rfl (fr_206 h128))
                              cases h
                              exact f131
                            · rw [if_neg hc127] at h
                              obtain ⟨r133, s134, h132, h⟩ := zb_some h
                              have f135 := zfr_tr (zfr_tr (zfr_rf _ _) (zfr_I rfl)) (zfr_sub (m2 := 181709681073901722637330951972001133588410340171829515070372549795159822029554684364742005385097362959446502353458196728720745033629696) rfl (fr_206 h132))
                              cases h
                              exact f135
                      · rw [if_neg hc96] at h
                        cases h
theorem frj_219_51 {v1 : Int} {v2 : Int} {t0 : Int} {s : zS} {q : (Unit × zS)} (h : j_219_51 v1 v2 t0 s = some q) : zfr 181709681073901722637330951972001133588410340171829515070372549795159822029554684364742005385097362959446502353458196728720745033629696 s q.2 := by
  unfold j_219_51 at h
  obtain ⟨hg1, h⟩ := zg_some h
  by_cases hc2 : v1 = 16
  · rw [if_pos hc2] at h
    obtain ⟨hg3, h⟩ := zg_some h
    by_cases hc4 : t0 = 0
    · rw [if_pos hc4] at h
      obtain ⟨r6, s7, h5, h⟩ := zb_some h
      have f8 := zfr_tr (zfr_tr (zfr_rf _ _) (zfr_I rfl)) (zfr_sub (m2 := 181709681073901722637330951972001133588410340171829515070372549795159822029554684364742005385097362959446502353458196728720745033629696) rfl (fr_206 h5))
      cases h
      exact f8
    · rw [if_neg hc4] at h
      obtain ⟨hg9, h⟩ := zg_some h
      by_cases hc10 : v2 = 0
      · rw [if_pos hc10] at h
        obtain ⟨r12, s13, h11, h⟩ := zb_some h
        have f14 := zfr_tr (zfr_tr (zfr_rf _ _) (zfr_I rfl)) (zfr_sub (m2 := 181709681073901722637330951972001133588410340171829515070372549795159822029554684364742005385097362959446502353458196728720745033629696) rfl (fr_206 h11))
        cases h
        exact f14
      · rw [if_neg hc10] at h
        obtain ⟨r16, s17, h15, h⟩ := zb_some h
        have f18 := zfr_tr (zfr_tr (zfr_rf _ _) (zfr_I rfl)) (zfr_sub (m2 := 181709681073901722637330951972001133588410340171829515070372549795159822029554684364742005385097362959446502353458196728720745033629696) rfl (fr_206 h15))
        cases h
        exact f18
  · rw [if_neg hc2] at h
    by_cases hc19 : v1 = 17
    · rw [if_pos hc19] at h
      obtain ⟨hg20, h⟩ := zg_some h
      by_cases hc21 : t0 = 0
      · rw [if_pos hc21] at h
        obtain ⟨hg22, h⟩ := zg_some h
        by_cases hc23 : v2 = 0
        · rw [if_pos hc23] at h
          obtain ⟨r25, s26, h24, h⟩ := zb_some h
          have f27 := zfr_tr (zfr_tr (zfr_rf _ _) (zfr_I rfl)) (zfr_sub (m2 := 181709681073901722637330951972001133588410340171829515070372549795159822029554684364742005385097362959446502353458196728720745033629696) rfl (fr_206 h24))
          cases h
          exact f27
        · rw [if_neg hc23] at h
          obtain ⟨r29, s30, h28, h⟩ := zb_some h
          have f31 := zfr_tr (zfr_tr (zfr_rf _ _) (zfr_I rfl)) (zfr_sub (m2 := 181709681073901722637330951972001133588410340171829515070372549795159822029554684364742005385097362959446502353458196728720745033629696) rfl (fr_206 h28))
          cases h
          exact f31
      · rw [if_neg hc21] at h
        obtain ⟨r33, s34, h32, h⟩ := zb_some h
        have f35 := zfr_tr (zfr_tr (zfr_rf _ _) (zfr_I rfl)) (zfr_sub (m2 := 181709681073901722637330951972001133588410340171829515070372549795159822029554684364742005385097362959446502353458196728720745033629696) rfl (fr_206 h32))
        cases h
        exact f35
    · rw [if_neg hc19] at h
      by_cases hc36 : v1 = 18
      · rw [if_pos hc36] at h
        obtain ⟨hg37, h⟩ := zg_some h
        by_cases hc38 : t0 = 0
        · rw [if_pos hc38] at h
          obtain ⟨r40, s41, h39, h⟩ := zb_some h
          have f42 := zfr_tr (zfr_tr (zfr_rf _ _) (zfr_I rfl)) (zfr_sub (m2 := 181709681073901722637330951972001133588410340171829515070372549795159822029554684364742005385097362959446502353458196728720745033629696) rfl (fr_206 h39))
          cases h
          exact f42
        · rw [if_neg hc38] at h
          obtain ⟨hg43, h⟩ := zg_some h
          by_cases hc44 : v2 = 0
          · rw [if_pos hc44] at h
            obtain ⟨r46, s47, h45, h⟩ := zb_some h
            have f48 := zfr_tr (zfr_tr (zfr_rf _ _) (zfr_I rfl)) (zfr_sub (m2 := 181709681073901722637330951972001133588410340171829515070372549795159822029554684364742005385097362959446502353458196728720745033629696) rfl (fr_206 h45))
            cases h
            exact f48
          · rw [if_neg hc44] at h
            obtain ⟨r50, s51, h49, h⟩ := zb_some h
            have f52 := zfr_tr (zfr_tr (zfr_rf _ _) (zfr_I rfl)) (zfr_sub (m2 := 181709681073901722637330951972001133588410340171829515070372549795159822029554684364742005385097362959446502353458196728720745033629696) rfl (fr_206 h49))
            cases h
            exact f52
      · rw [if_neg hc36] at h
        obtain ⟨hg53, h⟩ := zg_some h
        obtain ⟨hg54, h⟩ := zg_some h
        by_cases hc55 : t0 = v2
        · rw [if_pos hc55] at h
          obtain ⟨r57, s58, h56, h⟩ := zb_some h
          have f59 := zfr_tr (zfr_tr (zfr_rf _ _) (zfr_I rfl)) (zfr_sub (m2 := 181709681073901722637330951972001133588410340171829515070372549795159822029554684364742005385097362959446502353458196728720745033629696) rfl (fr_206 h56))
          cases h
          exact f59
        · rw [if_neg hc55] at h
          obtain ⟨r61, s62, h60, h⟩ := zb_some h
          have f63 := zfr_tr (zfr_tr (zfr_rf _ _) (zfr_I rfl)) (zfr_sub (m2 := 181709681073901722637330951972001133588410340171829515070372549795159822029554684364742005385097362959446502353458196728720745033629696) rfl (fr_206 h60))
          cases h
          exact f63
theorem frj_219_29 {v1 : Int} {t0 : Int} {s : zS} {q : (Unit × zS)} (h : j_219_29 v1 t0 s = some q) : zfr 181709681073901722637330951972001133588410340171829515070372549795159822029554684364742005385097362959446502353458196728720745033629696 s q.2 := by
  unfold j_219_29 at h
  obtain ⟨hg1, h⟩ := zg_some h
  by_cases hc2 : (gJ s 198 ((gI s 177 46) - 1)) = (1#64)
  · rw [if_pos hc2] at h
    exact zfr_tr (zfr_rf _ _) (frj_219_51 h)
  · rw [if_neg hc2] at h
    exact zfr_tr (zfr_rf _ _) (frj_219_51 h)
theorem fr_219 {v1 : Int} {s : zS} {q : (Unit × zS)} (h : f_219 v1 s = some q) : zfr 181709681073901722637330951972001133588410340171829515070372549795159822029554684364742005385097362959446502353458196728720745033629696 s q.2 := by
  unfold f_219 at h
  obtain ⟨hg1, h⟩ := zg_some h
  by_cases hc2 : (gJ s 198 (gI (sI s 177 46 ((gI s 177 46) - 1)) 177 46)) = (1#64)
  · rw [if_pos hc2] at h
    exact zfr_tr (zfr_tr (zfr_rf _ _) (zfr_I rfl)) (frj_219_29 h)
  · rw [if_neg hc2] at h
    exact zfr_tr (zfr_tr (zfr_rf _ _) (zfr_I rfl)) (frj_219_29 h)
theorem frj_208_239 {s : zS} {q : (Unit × zS)} (h : j_208_239 s = some q) : zfr 1271967767517312058461316663804007935118872381202806605492607848566118754199651569354028581455742711300590284762857463629022647476551680 s q.2 := by
  unfold j_208_239 at h
  obtain ⟨hg1, h⟩ := zg_some h
  cases h
  exact (zfr_tr (zfr_tr (zfr_rf _ _) (zfr_JA rfl rfl)) (zfr_JA rfl rfl))
theorem fr_212 {v1 : Int} {w2 : BitVec 64} {s : zS} {q : (Unit × zS)} (h : f_212 v1 w2 s = some q) : zfr 1090258086443410335823985711832006801530462041030977090422235298770958932170096884989286576070645348341143782409399266900301902442921984 s q.2 := by
  unfold f_212 at h
  obtain ⟨hg1, h⟩ := zg_some h
  by_cases hc2 : v1 < 64
  · rw [if_pos hc2] at h
    by_cases hc3 : v1 = 0
    · rw [if_pos hc3] at h
      cases h
      exact (zfr_tr (zfr_tr (zfr_rf _ _) (zfr_J rfl)) (zfr_J rfl))
    · rw [if_neg hc3] at h
      obtain ⟨hg4, h⟩ := zg_some h
      cases h
      exact (zfr_tr (zfr_tr (zfr_rf _ _) (zfr_J rfl)) (zfr_J rfl))
  · rw [if_neg hc2] at h
    obtain ⟨hg5, h⟩ := zg_some h
    cases h
    exact (zfr_tr (zfr_rf _ _) (zfr_J rfl))
theorem frb_209_34 {v1 : Int} {v3 : Int} {w4 : BitVec 64} {v6 : Int} {s : zS} {q : (Int × zS) ⊕ (zS)} (h : b_209_34 v1 v3 w4 v6 s = some q) : zfr 1090258086443410335823985711832006801530462041030977090422235298770958932170096884989286576070645348341143782409399266900301902442921984 s (Sum.elim (fun e : (Int × zS) => e.2) (fun e : (zS) => e) q) := by
  unfold b_209_34 at h
  obtain ⟨r2, h1, h⟩ := zo_some h
  obtain ⟨hg3, h⟩ := zg_some h
  obtain ⟨hg4, h⟩ := zg_some h
  by_cases hc5 : v6 < r2
  · rw [if_pos hc5] at h
    obtain ⟨hg6, h⟩ := zg_some h
    obtain ⟨r8, h7, h⟩ := zo_some h
    obtain ⟨hg9, h⟩ := zg_some h
    by_cases hc10 : r8 = 0
    · rw [if_pos hc10] at h
      cases h
      exact (zfr_rf _ _)
    · rw [if_neg hc10] at h
      obtain ⟨r12, s13, h11, h⟩ := zb_some h
      have f14 := zfr_tr (zfr_rf _ _) (zfr_sub (m2 := 1090258086443410335823985711832006801530462041030977090422235298770958932170096884989286576070645348341143782409399266900301902442921984) rfl (fr_212 h11))
      cases h
      exact f14
  · rw [if_neg hc5] at h
    cases h
    exact (zfr_rf _ _)
theorem frl_209_34 {v1 : Int} {v3 : Int} {w4 : BitVec 64} {n : Nat} {e0 : (Int × zS)} {t : (zS)} (h : zlp (fun (q : Int × zS) => b_209_34 v1 v3 w4 q.1 q.2) n e0 = some t) : zfr 1090258086443410335823985711832006801530462041030977090422235298770958932170096884989286576070645348341143782409399266900301902442921984 ((fun e : (Int × zS) => e.2) e0) ((fun e : (zS) => e) t) := zfr_lp (f := (fun e : (Int × zS) => e.2)) (g := (fun e : (zS) => e)) (fun e q h1 => frb_209_34 h1) n e0 t h
theorem fr_209 {v1 : Int} {v2 : Int} {s : zS} {q : (Unit × zS)} (h : f_209 v1 v2 s = some q) : zfr 1090258086443410335823985711832006801530462041030977090422235298770958932170096884989286576070645348341143782409399266900301902442921984 s q.2 := by
  unfold f_209 at h
  obtain ⟨r2, h1, h⟩ := zo_some h
  obtain ⟨hg3, h⟩ := zg_some h
  obtain ⟨r5, h4, h⟩ := zo_some h
  obtain ⟨e6, h7, h⟩ := zo_some h
  have f8 : zfr 1090258086443410335823985711832006801530462041030977090422235298770958932170096884989286576070645348341143782409399266900301902442921984 s e6 := zfr_tr (zfr_rf _ _) (frl_209_34 h7)
  cases h
  exact f8
theorem frb_213_2 {v1 : Int} {s : zS} {q : (Int × zS) ⊕ (zS)} (h : b_213_2 v1 s = some q) : zfr 1090258086443410335823985711832006801530462041030977090422235298770958932170096884989286576070645348341143782409399266900301902442921984 s (Sum.elim (fun e : (Int × zS) => e.2) (fun e : (zS) => e) q) := by
  unfold b_213_2 at h
  obtain ⟨hg1, h⟩ := zg_some h
  by_cases hc2 : v1 < (gI s 177 1)
  · rw [if_pos hc2] at h
    obtain ⟨hg3, h⟩ := zg_some h
    obtain ⟨r5, h4, h⟩ := zo_some h
    by_cases hc6 : r5 = (0#64)
    · rw [if_pos hc6] at h
      obtain ⟨hg7, h⟩ := zg_some h
      obtain ⟨r9, h8, h⟩ := zo_some h
      obtain ⟨r11, s12, h10, h⟩ := zb_some h
      have f13 := zfr_tr (zfr_rf _ _) (zfr_sub (m2 := 1090258086443410335823985711832006801530462041030977090422235298770958932170096884989286576070645348341143782409399266900301902442921984) rfl (fr_212 h10))
      cases h
      exact f13
    · rw [if_neg hc6] at h
      obtain ⟨r15, s16, h14, h⟩ := zb_some h
      have f17 := zfr_tr (zfr_rf _ _) (zfr_sub (m2 := 1090258086443410335823985711832006801530462041030977090422235298770958932170096884989286576070645348341143782409399266900301902442921984) rfl (fr_212 h14))
      cases h
      exact f17
  · rw [if_neg hc2] at h
    cases h
    exact (zfr_rf _ _)
theorem frl_213_2 {n : Nat} {e0 : (Int × zS)} {t : (zS)} (h : zlp (fun (q : Int × zS) => b_213_2 q.1 q.2) n e0 = some t) : zfr 1090258086443410335823985711832006801530462041030977090422235298770958932170096884989286576070645348341143782409399266900301902442921984 ((fun e : (Int × zS) => e.2) e0) ((fun e : (zS) => e) t) := zfr_lp (f := (fun e : (Int × zS) => e.2)) (g := (fun e : (zS) => e)) (fun e q h1 => frb_213_2 h1) n e0 t h
theorem fr_213 {s : zS} {q : (Unit × zS)} (h : f_213 s = some q) : zfr 1090258086443410335823985711832006801530462041030977090422235298770958932170096884989286576070645348341143782409399266900301902442921984 s q.2 := by
  unfold f_213 at h
  obtain ⟨e1, h2, h⟩ := zo_some h
  have f3 : zfr 1090258086443410335823985711832006801530462041030977090422235298770958932170096884989286576070645348341143782409399266900301902442921984 s e1 := zfr_tr (zfr_rf _ _) (frl_213_2 h2)
  cases h
  exact f3
theorem frb_214_10 {v2 : Int} {v3 : Int} {s : zS} {q : (Int × zS) ⊕ (zS)} (h : b_214_10 v2 v3 s = some q) : zfr 1090258086443410335823985711832006801530462041030977090422235298770958932170096884989286576070645348341143782409399266900301902442921984 s (Sum.elim (fun e : (Int × zS) => e.2) (fun e : (zS) => e) q) := by
  unfold b_214_10 at h
  obtain ⟨hg1, h⟩ := zg_some h
  by_cases hc2 : v3 < (gI s 177 1)
  · rw [if_pos hc2] at h
    obtain ⟨hg3, h⟩ := zg_some h
    obtain ⟨r5, h4, h⟩ := zo_some h
    obtain ⟨hg6, h⟩ := zg_some h
    by_cases hc7 : r5 = 0
    · rw [if_pos hc7] at h
      cases h
      exact (zfr_rf _ _)
    · rw [if_neg hc7] at h
      obtain ⟨hg8, h⟩ := zg_some h
      obtain ⟨r10, h9, h⟩ := zo_some h
      obtain ⟨r12, s13, h11, h⟩ := zb_some h
      have f14 := zfr_tr (zfr_rf _ _) (zfr_sub (m2 := 1090258086443410335823985711832006801530462041030977090422235298770958932170096884989286576070645348341143782409399266900301902442921984) rfl (fr_212 h11))
      cases h
      exact f14
  · rw [if_neg hc2] at h
    cases h
    exact (zfr_rf _ _)
theorem frl_214_10 {v2 : Int} {n : Nat} {e0 : (Int × zS)} {t : (zS)} (h : zlp (fun (q : Int × zS) => b_214_10 v2 q.1 q.2) n e0 = some t) : zfr 1090258086443410335823985711832006801530462041030977090422235298770958932170096884989286576070645348341143782409399266900301902442921984 ((fun e : (Int × zS) => e.2) e0) ((fun e : (zS) => e) t) := zfr_lp (f := (fun e : (Int × zS) => e.2)) (g := (fun e : (zS) => e)) (fun e q h1 => frb_214_10 h1) n e0 t h
theorem fr_214 {v1 : Int} {s : zS} {q : (Unit × zS)} (h : f_214 v1 s = some q) : zfr 1090258086443410335823985711832006801530462041030977090422235298770958932170096884989286576070645348341143782409399266900301902442921984 s q.2 := by
  unfold f_214 at h
  obtain ⟨r2, h1, h⟩ := zo_some h
  obtain ⟨e3, h4, h⟩ := zo_some h
  have f5 : zfr 1090258086443410335823985711832006801530462041030977090422235298770958932170096884989286576070645348341143782409399266900301902442921984 s e3 := zfr_tr (zfr_rf _ _) (frl_214_10 h4)
  cases h
  exact f5
theorem frb_215_2 {v1 : Int} {v2 : Int} {s : zS} {q : (Int × zS) ⊕ (zS)} (h : b_215_2 v1 v2 s = some q) : zfr 1090258086443410335823985711832006801530462041030977090422235298770958932170096884989286576070645348341143782409399266900301902442921984 s (Sum.elim (fun e : (Int × zS) => e.2) (fun e : (zS) => e) q) := by
  unfold b_215_2 at h
  obtain ⟨r2, h1, h⟩ := zo_some h
  obtain ⟨hg3, h⟩ := zg_some h
  obtain ⟨hg4, h⟩ := zg_some h
  by_cases hc5 : v2 < r2
  · rw [if_pos hc5] at h
    obtain ⟨hg6, h⟩ := zg_some h
    obtain ⟨r8, h7, h⟩ := zo_some h
    obtain ⟨hg9, h⟩ := zg_some h
    by_cases hc10 : r8 = 0
    · rw [if_pos hc10] at h
      cases h
      exact (zfr_rf _ _)
    · rw [if_neg hc10] at h
      obtain ⟨hg11, h⟩ := zg_some h
      obtain ⟨hg12, h⟩ := zg_some h
      obtain ⟨r14, h13, h⟩ := zo_some h
      obtain ⟨hg15, h⟩ := zg_some h
      by_cases hc16 : r14 = 0
      · rw [if_pos hc16] at h
        cases h
        exact (zfr_rf _ _)
      · rw [if_neg hc16] at h
        obtain ⟨r18, s19, h17, h⟩ := zb_some h
        have f20 := zfr_tr (zfr_rf _ _) (zfr_sub (m2 := 1090258086443410335823985711832006801530462041030977090422235298770958932170096884989286576070645348341143782409399266900301902442921984) rfl (fr_212 h17))
        cases h
        exact f20
  · rw [if_neg hc5] at h
    cases h
    exact (zfr_rf _ _)
theorem frl_215_2 {v1 : Int} {n : Nat} {e0 : (Int × zS)} {t : (zS)} (h : zlp (fun (q : Int × zS) => b_215_2 v1 q.1 q.2) n e0 = some t) : zfr 1090258086443410335823985711832006801530462041030977090422235298770958932170096884989286576070645348341143782409399266900301902442921984 ((fun e : (Int × zS) => e.2) e0) ((fun e : (zS) => e) t) := zfr_lp (f := (fun e : (Int × zS) => e.2)) (g := (fun e : (zS) => e)) (fun e q h1 => frb_215_2 h1) n e0 t h
theorem fr_215 {v1 : Int} {s : zS} {q : (Unit × zS)} (h : f_215 v1 s = some q) : zfr 1090258086443410335823985711832006801530462041030977090422235298770958932170096884989286576070645348341143782409399266900301902442921984 s q.2 := by
  unfold f_215 at h
  obtain ⟨e1, h2, h⟩ := zo_some h
  have f3 : zfr 1090258086443410335823985711832006801530462041030977090422235298770958932170096884989286576070645348341143782409399266900301902442921984 s e1 := zfr_tr (zfr_rf _ _) (frl_215_2 h2)
  cases h
  exact f3
theorem frb_216_11 {v1 : Int} {v3 : Int} {v4 : Int} {s : zS} {q : (Int × zS) ⊕ (zS)} (h : b_216_11 v1 v3 v4 s = some q) : zfr 1090258086443410335823985711832006801530462041030977090422235298770958932170096884989286576070645348341143782409399266900301902442921984 s (Sum.elim (fun e : (Int × zS) => e.2) (fun e : (zS) => e) q) := by
  unfold b_216_11 at h
  obtain ⟨r2, h1, h⟩ := zo_some h
  obtain ⟨hg3, h⟩ := zg_some h
  obtain ⟨hg4, h⟩ := zg_some h
  by_cases hc5 : v4 < r2
  · rw [if_pos hc5] at h
    obtain ⟨hg6, h⟩ := zg_some h
    obtain ⟨r8, h7, h⟩ := zo_some h
    obtain ⟨hg9, h⟩ := zg_some h
    by_cases hc10 : r8 = 0
    · rw [if_pos hc10] at h
      cases h
      exact (zfr_rf _ _)
    · rw [if_neg hc10] at h
      obtain ⟨hg11, h⟩ := zg_some h
      obtain ⟨hg12, h⟩ := zg_some h
      obtain ⟨r14, h13, h⟩ := zo_some h
      obtain ⟨r16, s17, h15, h⟩ := zb_some h
      have f18 := zfr_tr (zfr_rf _ _) (zfr_sub (m2 := 1090258086443410335823985711832006801530462041030977090422235298770958932170096884989286576070645348341143782409399266900301902442921984) rfl (fr_212 h15))
      cases h
      exact f18
  · rw [if_neg hc5] at h
    cases h
    exact (zfr_rf _ _)
theorem frl_216_11 {v1 : Int} {v3 : Int} {n : Nat} {e0 : (Int × zS)} {t : (zS)} (h : zlp (fun (q : Int × zS) => b_216_11 v1 v3 q.1 q.2) n e0 = some t) : zfr 1090258086443410335823985711832006801530462041030977090422235298770958932170096884989286576070645348341143782409399266900301902442921984 ((fun e : (Int × zS) => e.2) e0) ((fun e : (zS) => e) t) := zfr_lp (f := (fun e : (Int × zS) => e.2)) (g := (fun e : (zS) => e)) (fun e q h1 => frb_216_11 h1) n e0 t h
theorem fr_216 {v1 : Int} {v2 : Int} {s : zS} {q : (Unit × zS)} (h : f_216 v1 v2 s = some q) : zfr 1090258086443410335823985711832006801530462041030977090422235298770958932170096884989286576070645348341143782409399266900301902442921984 s q.2 := by
  unfold f_216 at h
  obtain ⟨r2, h1, h⟩ := zo_some h
  obtain ⟨e3, h4, h⟩ := zo_some h
  have f5 : zfr 1090258086443410335823985711832006801530462041030977090422235298770958932170096884989286576070645348341143782409399266900301902442921984 s e3 := zfr_tr (zfr_rf _ _) (frl_216_11 h4)
  cases h
  exact f5
theorem fr_208 {v1 : Int} {v2 : Int} {v3 : Int} {s : zS} {q : (Unit × zS)} (h : f_208 v1 v2 v3 s = some q) : zfr 1271967767517312058461316663804007935118872381202806605492607848566118754199651569354028581455742711300590284762857463629022647476551680 s q.2 := by
  unfold f_208 at h
  obtain ⟨hg1, h⟩ := zg_some h
  obtain ⟨hg2, h⟩ := zg_some h
  by_cases hc3 : t_208_47 v1 = 88
  · rw [if_pos hc3] at h
    obtain ⟨hg4, h⟩ := zg_some h
    exact zfr_tr (zfr_tr (zfr_tr (zfr_tr (zfr_tr (zfr_tr (zfr_rf _ _) (zfr_I rfl)) (zfr_J rfl)) (zfr_J rfl)) (zfr_J rfl)) (zfr_J rfl)) (frj_208_239 h)
  · rw [if_neg hc3] at h
    by_cases hc5 : t_208_47 v1 = 123
    · rw [if_pos hc5] at h
      obtain ⟨hg6, h⟩ := zg_some h
      exact zfr_tr (zfr_tr (zfr_tr (zfr_tr (zfr_tr (zfr_tr (zfr_rf _ _) (zfr_I rfl)) (zfr_J rfl)) (zfr_J rfl)) (zfr_J rfl)) (zfr_J rfl)) (frj_208_239 h)
    · rw [if_neg hc5] at h
      by_cases hc7 : t_208_47 v1 = 166
      · rw [if_pos hc7] at h
        obtain ⟨hg8, h⟩ := zg_some h
        exact zfr_tr (zfr_tr (zfr_tr (zfr_tr (zfr_tr (zfr_tr (zfr_rf _ _) (zfr_I rfl)) (zfr_J rfl)) (zfr_J rfl)) (zfr_J rfl)) (zfr_J rfl)) (frj_208_239 h)
      · rw [if_neg hc7] at h
        by_cases hc9 : t_208_47 v1 = 201
        · rw [if_pos hc9] at h
          obtain ⟨r11, s12, h10, h⟩ := zb_some h
          have f13 := zfr_tr (zfr_tr (zfr_tr (zfr_tr (zfr_rf _ _) (zfr_I rfl)) (zfr_J rfl)) (zfr_J rfl)) (zfr_sub (m2 := 1271967767517312058461316663804007935118872381202806605492607848566118754199651569354028581455742711300590284762857463629022647476551680) rfl (fr_209 h10))
          exact zfr_tr f13 (frj_208_239 h)
        · rw [if_neg hc9] at h
          by_cases hc14 : t_208_47 v1 = 210
          · rw [if_pos hc14] at h
            obtain ⟨r16, s17, h15, h⟩ := zb_some h
            have f18 := zfr_tr (zfr_tr (zfr_tr (zfr_tr (zfr_rf _ _) (zfr_I rfl)) (zfr_J rfl)) (zfr_J rfl)) (zfr_sub (m2 := 1271967767517312058461316663804007935118872381202806605492607848566118754199651569354028581455742711300590284762857463629022647476551680) rfl (fr_213 h15))
            exact zfr_tr f18 (frj_208_239 h)
          · rw [if_neg hc14] at h
            by_cases hc19 : t_208_47 v1 = 217
            · rw [if_pos hc19] at h
              obtain ⟨r21, s22, h20, h⟩ := zb_some h
              have f23 := zfr_tr (zfr_tr (zfr_tr (zfr_tr (zfr_rf _ _) (zfr_I rfl)) (zfr_J rfl)) (zfr_J rfl)) (zfr_sub (m2 := 1271967767517312058461316663804007935118872381202806605492607848566118754199651569354028581455742711300590284762857463629022647476551680) rfl (fr_214 h20))
              exact zfr_tr f23 (frj_208_239 h)
            · rw [if_neg hc19] at h
              by_cases hc24 : t_208_47 v1 = 225
              · rw [if_pos hc24] at h
                obtain ⟨r26, s27, h25, h⟩ := zb_some h
                have f28 := zfr_tr (zfr_tr (zfr_tr (zfr_tr (zfr_rf _ _) (zfr_I rfl)) (zfr_J rfl)) (zfr_J rfl)) (zfr_sub (m2 := 1271967767517312058461316663804007935118872381202806605492607848566118754199651569354028581455742711300590284762857463629022647476551680) rfl (fr_215 h25))
                exact zfr_tr f28 (frj_208_239 h)
              · rw [if_neg hc24] at h
                by_cases hc29 : t_208_47 v1 = 233
                · rw [if_pos hc29] at h
                  obtain ⟨r31, s32, h30, h⟩ := zb_some h
                  have f33 := zfr_tr (zfr_tr (zfr_tr (zfr_tr (zfr_rf _ _) (zfr_I rfl)) (zfr_J rfl)) (zfr_J rfl)) (zfr_sub (m2 := 1271967767517312058461316663804007935118872381202806605492607848566118754199651569354028581455742711300590284762857463629022647476551680) rfl (fr_216 h30))
                  exact zfr_tr f33 (frj_208_239 h)
                · rw [if_neg hc29] at h
                  cases h
theorem frb_199_12 {v1 : Int} {v2 : Int} {s : zS} {q : (Int × zS) ⊕ (zS)} (h : b_199_12 v1 v2 s = some q) : zfr 24530806944976732556039678516220153034435395923196984534500294222346575973852489186456027058429306240630108415201208202408871792121741312 s (Sum.elim (fun e : (Int × zS) => e.2) (fun e : (zS) => e) q) := by
  unfold b_199_12 at h
  obtain ⟨hg1, h⟩ := zg_some h
  obtain ⟨hg2, h⟩ := zg_some h
  by_cases hc3 : v2 < (gI s 187 v1)
  · rw [if_pos hc3] at h
    obtain ⟨hg4, h⟩ := zg_some h
    by_cases hc5 : (gI s 184 ((320 * v1) + v2)) = 3
    · rw [if_pos hc5] at h
      obtain ⟨r7, s8, h6, h⟩ := zb_some h
      have f9 := zfr_tr (zfr_rf _ _) (zfr_sub (m2 := 24530806944976732556039678516220153034435395923196984534500294222346575973852489186456027058429306240630108415201208202408871792121741312) rfl (fr_200 h6))
      cases h
      exact f9
    · rw [if_neg hc5] at h
      by_cases hc10 : (gI s 184 ((320 * v1) + v2)) = 4
      · rw [if_pos hc10] at h
        obtain ⟨r12, s13, h11, h⟩ := zb_some h
        have f14 := zfr_tr (zfr_rf _ _) (zfr_sub (m2 := 24530806944976732556039678516220153034435395923196984534500294222346575973852489186456027058429306240630108415201208202408871792121741312) rfl (fr_207 h11))
        cases h
        exact f14
      · rw [if_neg hc10] at h
        obtain ⟨r16, h15, h⟩ := zo_some h
        obtain ⟨hg17, h⟩ := zg_some h
        by_cases hc18 : r16 = 0
        · rw [if_pos hc18] at h
          obtain ⟨r20, h19, h⟩ := zo_some h
          obtain ⟨hg21, h⟩ := zg_some h
          by_cases hc22 : r20 = 16
          · rw [if_pos hc22] at h
            obtain ⟨r24, s25, h23, h⟩ := zb_some h
            have f26 := zfr_tr (zfr_rf _ _) (zfr_sub (m2 := 24530806944976732556039678516220153034435395923196984534500294222346575973852489186456027058429306240630108415201208202408871792121741312) rfl (fr_217 h23))
            cases h
            exact f26
          · rw [if_neg hc22] at h
            obtain ⟨r28, h27, h⟩ := zo_some h
            obtain ⟨hg29, h⟩ := zg_some h
            by_cases hc30 : r28 = 0
            · rw [if_pos hc30] at h
              obtain ⟨r32, s33, h31, h⟩ := zb_some h
              have f34 := zfr_tr (zfr_rf _ _) (zfr_sub (m2 := 24530806944976732556039678516220153034435395923196984534500294222346575973852489186456027058429306240630108415201208202408871792121741312) rfl (fr_220 h31))
              cases h
              exact f34
            · rw [if_neg hc30] at h
              obtain ⟨r36, s37, h35, h⟩ := zb_some h
              have f38 := zfr_tr (zfr_rf _ _) (zfr_sub (m2 := 24530806944976732556039678516220153034435395923196984534500294222346575973852489186456027058429306240630108415201208202408871792121741312) rfl (fr_219 h35))
              cases h
              exact f38
        · rw [if_neg hc18] at h
          obtain ⟨r40, s41, h39, h⟩ := zb_some h
          have f42 := zfr_tr (zfr_rf _ _) (zfr_sub (m2 := 24530806944976732556039678516220153034435395923196984534500294222346575973852489186456027058429306240630108415201208202408871792121741312) rfl (fr_208 h39))
          cases h
          exact f42
  · rw [if_neg hc3] at h
    cases h
    exact (zfr_rf _ _)
theorem frl_199_12 {v1 : Int} {n : Nat} {e0 : (Int × zS)} {t : (zS)} (h : zlp (fun (q : Int × zS) => b_199_12 v1 q.1 q.2) n e0 = some t) : zfr 24530806944976732556039678516220153034435395923196984534500294222346575973852489186456027058429306240630108415201208202408871792121741312 ((fun e : (Int × zS) => e.2) e0) ((fun e : (zS) => e) t) := zfr_lp (f := (fun e : (Int × zS) => e.2)) (g := (fun e : (zS) => e)) (fun e q h1 => frb_199_12 h1) n e0 t h
theorem fr_199 {v1 : Int} {s : zS} {q : (Unit × zS)} (h : f_199 v1 s = some q) : zfr 24530806944976732556039678516220153034435395923196984534500294222346575973852489186456027058429306240630108415201208202408871792121741312 s q.2 := by
  unfold f_199 at h
  obtain ⟨e1, h2, h⟩ := zo_some h
  have f3 : zfr 24530806944976732556039678516220153034435395923196984534500294222346575973852489186456027058429306240630108415201208202408871792121741312 s e1 := zfr_tr (zfr_tr (zfr_tr (zfr_rf _ _) (zfr_I rfl)) (zfr_I rfl)) (frl_199_12 h2)
  cases h
  exact f3
theorem fr_198 {v1 : Int} {s : zS} {q : (Int × zS)} (h : f_198 v1 s = some q) : zfr 24530806944976732556039678516220153034435395923196984534500294222346575973852489186456027058429306240630108415201208202408871792121741312 s q.2 := by
  unfold f_198 at h
  obtain ⟨r2, s3, h1, h⟩ := zb_some h
  have f4 := zfr_tr (zfr_rf _ _) (zfr_sub (m2 := 24530806944976732556039678516220153034435395923196984534500294222346575973852489186456027058429306240630108415201208202408871792121741312) rfl (fr_199 h1))
  by_cases hc5 : (gJ s3 198 0) = (1#64)
  · rw [if_pos hc5] at h
    cases h
    exact f4
  · rw [if_neg hc5] at h
    cases h
    exact f4
theorem frb_194_10 {v2 : Int} {v3 : Int} {v4 : Int} {s : zS} {q : (Int × Int × zS) ⊕ (Int × zS)} (h : b_194_10 v2 v3 v4 s = some q) : zfr 24530806944976732556039678516220153034435395923196984534500294222346575973852790487339325619105970358522422383189181115470206065778360320 s (Sum.elim (fun e : (Int × Int × zS) => e.2.2) (fun e : (Int × zS) => e.2) q) := by
  unfold b_194_10 at h
  obtain ⟨hg1, h⟩ := zg_some h
  by_cases hc2 : v4 < (gI s 177 18)
  · rw [if_pos hc2] at h
    obtain ⟨hg3, h⟩ := zg_some h
    by_cases hc4 : v3 = 0
    · rw [if_pos hc4] at h
      cases h
      exact (zfr_rf _ _)
    · rw [if_neg hc4] at h
      obtain ⟨hg5, h⟩ := zg_some h
      by_cases hc6 : (zand (v2 / 2 ^ zsh v4) 1) = 0
      · rw [if_pos hc6] at h
        cases h
        exact (zfr_rf _ _)
      · rw [if_neg hc6] at h
        obtain ⟨r8, s9, h7, h⟩ := zb_some h
        have f10 := zfr_tr (zfr_rf _ _) (zfr_sub (m2 := 24530806944976732556039678516220153034435395923196984534500294222346575973852790487339325619105970358522422383189181115470206065778360320) rfl (fr_198 h7))
        obtain ⟨hg11, h⟩ := zg_some h
        by_cases hc12 : r8 = 0
        · rw [if_pos hc12] at h
          cases h
          exact f10
        · rw [if_neg hc12] at h
          cases h
          exact f10
  · rw [if_neg hc2] at h
    cases h
    exact (zfr_rf _ _)
theorem frl_194_10 {v2 : Int} {n : Nat} {e0 : (Int × Int × zS)} {t : (Int × zS)} (h : zlp (fun (q : Int × Int × zS) => b_194_10 v2 q.1 q.2.1 q.2.2) n e0 = some t) : zfr 24530806944976732556039678516220153034435395923196984534500294222346575973852790487339325619105970358522422383189181115470206065778360320 ((fun e : (Int × Int × zS) => e.2.2) e0) ((fun e : (Int × zS) => e.2) t) := zfr_lp (f := (fun e : (Int × Int × zS) => e.2.2)) (g := (fun e : (Int × zS) => e.2)) (fun e q h1 => frb_194_10 h1) n e0 t h
theorem fr_194 {v1 : Int} {v2 : Int} {s : zS} {q : (Int × zS)} (h : f_194 v1 v2 s = some q) : zfr 24530806944976732556039678516220153034435395923196984534500294222346575973852790487339325619105970358522422383189181115470206065778360320 s q.2 := by
  unfold f_194 at h
  obtain ⟨r2, s3, h1, h⟩ := zb_some h
  have f4 := zfr_tr (zfr_rf _ _) (zfr_sub (m2 := 24530806944976732556039678516220153034435395923196984534500294222346575973852790487339325619105970358522422383189181115470206065778360320) rfl (fr_195 h1))
  obtain ⟨e5, h6, h⟩ := zo_some h
  have f7 : zfr 24530806944976732556039678516220153034435395923196984534500294222346575973852790487339325619105970358522422383189181115470206065778360320 s e5.2 := zfr_tr f4 (frl_194_10 h6)
  obtain ⟨hg8, h⟩ := zg_some h
  cases h
  exact f7
theorem frb_193_7 {v2 : Int} {v3 : Int} {v4 : Int} {s : zS} {q : (Int × zS) ⊕ ((zS) ⊕ (Int × zS))} (h : b_193_7 v2 v3 v4 s = some q) : zfr 24530806944997886347040966471386614324292444596471493484355151221363684735301571491048834072563042713556657598108014237679876279447322624 s (Sum.elim (fun e : (Int × zS) => e.2) (fun t : ((zS) ⊕ (Int × zS)) => Sum.elim (fun e : (zS) => e) (fun q => q.2) t) q) := by
  unfold b_193_7 at h
  obtain ⟨hg1, h⟩ := zg_some h
  obtain ⟨hg2, h⟩ := zg_some h
  by_cases hc3 : v4 < (1 * 2 ^ zsh (gI s 177 13))
  · rw [if_pos hc3] at h
    obtain ⟨r5, s6, h4, h⟩ := zb_some h
    have f7 := zfr_tr (zfr_rf _ _) (zfr_sub (m2 := 24530806944997886347040966471386614324292444596471493484355151221363684735301571491048834072563042713556657598108014237679876279447322624) rfl (fr_194 h4))
    obtain ⟨hg8, h⟩ := zg_some h
    by_cases hc9 : r5 = 0
    · rw [if_pos hc9] at h
      cases h
      exact f7
    · rw [if_neg hc9] at h
      obtain ⟨hg10, h⟩ := zg_some h
      by_cases hc11 : v3 = 0
      · rw [if_pos hc11] at h
        cases h
        exact f7
      · rw [if_neg hc11] at h
        obtain ⟨r13, s14, h12, h⟩ := zb_some h
        have f15 := zfr_tr f7 (zfr_sub (m2 := 24530806944997886347040966471386614324292444596471493484355151221363684735301571491048834072563042713556657598108014237679876279447322624) rfl (fr_198 h12))
        obtain ⟨hg16, h⟩ := zg_some h
        by_cases hc17 : r13 = 0
        · rw [if_pos hc17] at h
          cases h
          exact f15
        · rw [if_neg hc17] at h
          cases h
          exact f15
  · rw [if_neg hc3] at h
    cases h
    exact (zfr_rf _ _)
theorem frl_193_7 {v2 : Int} {v3 : Int} {n : Nat} {e0 : (Int × zS)} {t : ((zS) ⊕ (Int × zS))} (h : zlp (fun (q : Int × zS) => b_193_7 v2 v3 q.1 q.2) n e0 = some t) : zfr 24530806944997886347040966471386614324292444596471493484355151221363684735301571491048834072563042713556657598108014237679876279447322624 ((fun e : (Int × zS) => e.2) e0) ((fun t : ((zS) ⊕ (Int × zS)) => Sum.elim (fun e : (zS) => e) (fun q => q.2) t) t) := zfr_lp (f := (fun e : (Int × zS) => e.2)) (g := (fun t : ((zS) ⊕ (Int × zS)) => Sum.elim (fun e : (zS) => e) (fun q => q.2) t)) (fun e q h1 => frb_193_7 h1) n e0 t h
theorem fr_193 {v1 : Int} {v2 : Int} {v3 : Int} {s : zS} {q : (Int × zS)} (h : f_193 v1 v2 v3 s = some q) : zfr 24530806944997886347040966471386614324292444596471493484355151221363684735301571491048834072563042713556657598108014237679876279447322624 s q.2 := by
  unfold f_193 at h
  obtain ⟨r2, s3, h1, h⟩ := zb_some h
  have f4 := zfr_tr (zfr_rf _ _) (zfr_sub (m2 := 24530806944997886347040966471386614324292444596471493484355151221363684735301571491048834072563042713556657598108014237679876279447322624) rfl (fr_154 h1))
  obtain ⟨e5, h6, h⟩ := zo_some h
  rcases e5 with e8 | q9
  · simp only [ze_l] at h
    have f7 : zfr 24530806944997886347040966471386614324292444596471493484355151221363684735301571491048834072563042713556657598108014237679876279447322624 s e8 := zfr_tr f4 (frl_193_7 h6)
    cases h
    exact f7
  · cases h
    exact zfr_tr f4 (frl_193_7 h6)
theorem fr_222 {v1 : Int} {s : zS} {q : (Int × zS)} (h : f_222 v1 s = some q) : zfr 16246111488989149567842270610213381074822873488530175245139528792663796725423587634999850035766442840414401626726974053685395456 s q.2 := by
  unfold f_222 at h
  obtain ⟨hg1, h⟩ := zg_some h
  by_cases hc2 : v1 = (-1)
  · rw [if_pos hc2] at h
    by_cases hc3 : (gI (sI s 177 21 0) 177 21) = 0
    · rw [if_pos hc3] at h
      cases h
      exact (zfr_tr (zfr_tr (zfr_rf _ _) (zfr_I rfl)) (zfr_I rfl))
    · rw [if_neg hc3] at h
      cases h
      exact (zfr_tr (zfr_tr (zfr_rf _ _) (zfr_I rfl)) (zfr_I rfl))
  · rw [if_neg hc2] at h
    by_cases hc4 : (gI (sI s 177 21 1) 177 21) = 0
    · rw [if_pos hc4] at h
      cases h
      exact (zfr_tr (zfr_tr (zfr_rf _ _) (zfr_I rfl)) (zfr_I rfl))
    · rw [if_neg hc4] at h
      cases h
      exact (zfr_tr (zfr_tr (zfr_rf _ _) (zfr_I rfl)) (zfr_I rfl))
theorem fr_192 {s : zS} {q : (Int × zS)} (h : f_192 s = some q) : zfr 24530806961244000418279994126137474590424997674306241302591119295726726358624724757120043724404087378968453718660247300310022305880211456 s q.2 := by
  unfold f_192 at h
  obtain ⟨r2, s3, h1, h⟩ := zb_some h
  have f4 := zfr_tr (zfr_tr (zfr_rf _ _) (zfr_I rfl)) (zfr_sub (m2 := 24530806961244000418279994126137474590424997674306241302591119295726726358624724757120043724404087378968453718660247300310022305880211456) rfl (fr_193 h1))
  obtain ⟨r6, s7, h5, h⟩ := zb_some h
  have f8 := zfr_tr f4 (zfr_sub (m2 := 24530806961244000418279994126137474590424997674306241302591119295726726358624724757120043724404087378968453718660247300310022305880211456) rfl (fr_222 h5))
  cases h
  exact f8
theorem frj_223_13 {t1 : Int} {s : zS} {q : (Int × zS)} (h : j_223_13 t1 s = some q) : zfr 24530806961244000418279994126137474590424997674306241302591119295726726358624724757120043724404087378968453718660247300310022305880211456 s q.2 := by
  unfold j_223_13 at h
  by_cases hc1 : 0 < (gI (sI s 177 0 t1) 177 0)
  · rw [if_pos hc1] at h
    cases h
    exact (zfr_tr (zfr_rf _ _) (zfr_I rfl))
  · rw [if_neg hc1] at h
    obtain ⟨r3, s4, h2, h⟩ := zb_some h
    have f5 := zfr_tr (zfr_tr (zfr_rf _ _) (zfr_I rfl)) (zfr_sub (m2 := 24530806961244000418279994126137474590424997674306241302591119295726726358624724757120043724404087378968453718660247300310022305880211456) rfl (fr_193 h2))
    obtain ⟨r7, s8, h6, h⟩ := zb_some h
    have f9 := zfr_tr f5 (zfr_sub (m2 := 24530806961244000418279994126137474590424997674306241302591119295726726358624724757120043724404087378968453718660247300310022305880211456) rfl (fr_222 h6))
    cases h
    exact f9
theorem fr_223 {s : zS} {q : (Int × zS)} (h : f_223 s = some q) : zfr 24530806961244000418279994126137474590424997674306241302591119295726726358624724757120043724404087378968453718660247300310022305880211456 s q.2 := by
  unfold f_223 at h
  by_cases hc1 : (gI s 177 21) = 0
  · rw [if_pos hc1] at h
    exact zfr_tr (zfr_rf _ _) (frj_223_13 h)
  · rw [if_neg hc1] at h
    exact zfr_tr (zfr_rf _ _) (frj_223_13 h)
theorem frj_224_13 {t1 : Int} {s : zS} {q : (Int × zS)} (h : j_224_13 t1 s = some q) : zfr 24530806961244000418279994126137474590424997674306241302591119295726726358624724757120043724404087378968453718660247300310022305880211456 s q.2 := by
  unfold j_224_13 at h
  by_cases hc1 : 0 < (gI (sI s 177 0 t1) 177 0)
  · rw [if_pos hc1] at h
    cases h
    exact (zfr_tr (zfr_rf _ _) (zfr_I rfl))
  · rw [if_neg hc1] at h
    obtain ⟨r3, s4, h2, h⟩ := zb_some h
    have f5 := zfr_tr (zfr_tr (zfr_rf _ _) (zfr_I rfl)) (zfr_sub (m2 := 24530806961244000418279994126137474590424997674306241302591119295726726358624724757120043724404087378968453718660247300310022305880211456) rfl (fr_193 h2))
    obtain ⟨r7, s8, h6, h⟩ := zb_some h
    have f9 := zfr_tr f5 (zfr_sub (m2 := 24530806961244000418279994126137474590424997674306241302591119295726726358624724757120043724404087378968453718660247300310022305880211456) rfl (fr_222 h6))
    cases h
    exact f9
