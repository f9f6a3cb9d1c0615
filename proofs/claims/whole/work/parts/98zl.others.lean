/-! CODES that are not being written stay as they were, while the class reads. By program (py/gen98zl.py). -/
/-- outside of the code c -/
def zot (c x : Nat) : Prop := 29 ≤ x ∧ x < 173 ∧ (x < c ∨ c + 7 < x)
/-- other codes, and all references, stay -/
def zfw (c : Nat) (a b : zS) : Prop := b.2.2 = a.2.2 ∧ ∀ x i, zot c x → b.1 x i = a.1 x i
/-- the same, if the parser writes into the code c -/
def zfu (c : Nat) (a b : zS) : Prop := gP a 10 2 = c → gP b 10 2 = c ∧ ∀ x i, zot c x → b.1 x i = a.1 x i
theorem zfw_rf (c : Nat) (s : zS) : zfw c s s := ⟨rfl, fun _ _ _ => rfl⟩
theorem zfw_tr {k : Nat} {a b c : zS} (h1 : zfw k a b) (h2 : zfw k b c) : zfw k a c := ⟨h2.1.trans h1.1, fun x i hx => (h2.2 x i hx).trans (h1.2 x i hx)⟩
theorem zfw_C {c j : Nat} {s : zS} {i v : Int} (hj : j ≤ 7) : zfw c s (sI s (c + j) i v) := ⟨rfl, fun x y hx => by
  show (if x = c + j then (if y = i then _ else _) else _) = _
  have := hx.2.2
  rw [if_neg (by omega)]⟩
theorem zfw_C0 {c : Nat} {s : zS} {i v : Int} : zfw c s (sI s c i v) := zfw_C (j := 0) (by decide)
theorem zfw_lp {S T : Type} {B : S → Option (S ⊕ T)} {m : Nat} {f : S → zS} {g : T → zS} (h : ∀ s q, B s = some q → zfw m (f s) (Sum.elim f g q)) : ∀ n s t, zlp B n s = some t → zfw m (f s) (g t) := by
  intro n
  induction n with
  | zero => intro s t h1; cases h1
  | succ n ih =>
    intro s t h1
    unfold zlp at h1
    split at h1
    · rename_i s' e
      exact zfw_tr (h s _ e) (ih s' t h1)
    · rename_i t' e
      cases h1
      exact h s _ e
    · cases h1
theorem zfu_rf (c : Nat) (s : zS) : zfu c s s := fun h => ⟨h, fun _ _ _ => rfl⟩
theorem zfu_tr {k : Nat} {a b c : zS} (h1 : zfu k a b) (h2 : zfu k b c) : zfu k a c := fun h => ⟨(h2 (h1 h).1).1, fun x i hx => ((h2 (h1 h).1).2 x i hx).trans ((h1 h).2 x i hx)⟩
theorem zfu_I {k c : Nat} {s : zS} {i v : Int} (hc : c < 29) : zfu k s (sI s c i v) := fun h => ⟨h, fun x y hx => by
  show (if x = c then (if y = i then _ else _) else _) = _
  have := hx.1
  rw [if_neg (by omega)]⟩
theorem zfu_J {k c : Nat} {s : zS} {i : Int} {v : BitVec 64} : zfu k s (sJ s c i v) := fun h => ⟨h, fun _ _ _ => rfl⟩
theorem zfu_w {k d : Nat} {s t : zS} (hd : gP s 10 2 = d) (h : zfw d s t) : zfu k s t := fun hk => by
  have e : d = k := by rw [← hd]; exact hk
  rw [e] at h
  refine ⟨?_, h.2⟩
  show t.2.2 10 2 = k
  rw [h.1]
  exact hk
theorem zfu_lp {S T : Type} {B : S → Option (S ⊕ T)} {m : Nat} {f : S → zS} {g : T → zS} (h : ∀ s q, B s = some q → zfu m (f s) (Sum.elim f g q)) : ∀ n s t, zlp B n s = some t → zfu m (f s) (g t) := by
  intro n
  induction n with
  | zero => intro s t h1; cases h1
  | succ n ih =>
    intro s t h1
    unfold zlp at h1
    split at h1
    · rename_i s' e
      exact zfu_tr (h s _ e) (ih s' t h1)
    · rename_i t' e
      cases h1
      exact h s _ e
    · cases h1
theorem zfu_of {k m : Nat} {s t : zS} (h : zfr m s t) (hm : Nat.land (11972621413014756705924586149611790497021398855188480) m = 0) (hp : Nat.testBit m 352 = false) : zfu k s t := fun hk => ⟨by rw [h.p (c := 10) (i := 2) hp]; exact hk, fun x i hx => by
  have hx1 := hx.1
  have hx2 := hx.2.1
  obtain ⟨o1, -⟩ := zC_out hx1 hx2
  have hb : Nat.testBit m x = false := by
    have e : Nat.testBit (Nat.land (11972621413014756705924586149611790497021398855188480) m) x = false := by rw [hm]; exact Nat.zero_testBit x
    have e2 : Nat.testBit (11972621413014756705924586149611790497021398855188480) x = true := by
      rw [show (11972621413014756705924586149611790497021398855188480) = (2 ^ 144 - 1) * 2 ^ 29 by decide, Nat.testBit_mul_two_pow, Nat.testBit_two_pow_sub_one]
      rw [decide_eq_true (by omega), decide_eq_true (by omega)]
      rfl
    have e3 : Nat.testBit (11972621413014756705924586149611790497021398855188480 &&& m) x = false := e
    rw [Nat.testBit_and, e2, Bool.true_and] at e3
    exact e3
  have hz : zloc x i = x := by unfold zloc; rw [o1]; rfl
  exact (h x i (by rw [hz]; exact hb)).1⟩
theorem ou_138 {c0 : Nat} {s : zS} {q : (Unit × zS)} (h : f_138 c0 s = some q) : zfw c0 s q.2 := by
  unfold f_138 at h
  obtain ⟨hg1, h⟩ := zg_some h
  cases h
  exact (zfw_tr (zfw_tr (zfw_rf c0 _) (zfw_C0)) (zfw_C0))
theorem ou_74 {κ : Nat} {v1 : Int} {v2 : Int} {s : zS} {q : (Unit × zS)} (h : f_74 v1 v2 s = some q) : zfu κ s q.2 := by
  unfold f_74 at h
  cases h
  exact (zfu_tr (zfu_tr (zfu_rf κ _) (zfu_I (by decide))) (zfu_I (by decide)))
theorem ou_139 {c0 : Nat} {v1 : Int} {v2 : Int} {v3 : Int} {s : zS} {q : (Int × zS)} (h : f_139 c0 v1 v2 v3 s = some q) : zfw c0 s q.2 := by
  unfold f_139 at h
  obtain ⟨hg1, h⟩ := zg_some h
  by_cases hc2 : (gI s c0 0) < 200
  · rw [if_pos hc2] at h
    obtain ⟨hg3, h⟩ := zg_some h
    obtain ⟨hg4, h⟩ := zg_some h
    obtain ⟨hg5, h⟩ := zg_some h
    obtain ⟨hg6, h⟩ := zg_some h
    obtain ⟨hg7, h⟩ := zg_some h
    obtain ⟨hg8, h⟩ := zg_some h
    obtain ⟨hg9, h⟩ := zg_some h
    cases h
    exact (zfw_tr (zfw_tr (zfw_tr (zfw_tr (zfw_tr (zfw_tr (zfw_tr (zfw_tr (zfw_rf c0 _) (zfw_C (j := 1) (by decide))) (zfw_C (j := 2) (by decide))) (zfw_C (j := 3) (by decide))) (zfw_C (j := 4) (by decide))) (zfw_C (j := 5) (by decide))) (zfw_C (j := 6) (by decide))) (zfw_C (j := 7) (by decide))) (zfw_C0))
  · rw [if_neg hc2] at h
    cases h
    exact (zfw_rf c0 _)
theorem ou_76 {κ : Nat} {v1 : Int} {s : zS} {q : (Int × zS)} (h : f_76 v1 s = some q) : zfu κ s q.2 := by
  unfold f_76 at h
  by_cases hc1 : (gI s 10 8) < 20
  · rw [if_pos hc1] at h
    obtain ⟨hg2, h⟩ := zg_some h
    obtain ⟨r4, h3, h⟩ := zo_some h
    obtain ⟨hg5, h⟩ := zg_some h
    by_cases hc6 : r4 = 0
    · rw [if_pos hc6] at h
      cases h
      exact (zfu_tr (zfu_tr (zfu_tr (zfu_tr (zfu_tr (zfu_tr (zfu_tr (zfu_rf κ _) (zfu_I (by decide))) (zfu_I (by decide))) (zfu_I (by decide))) (zfu_I (by decide))) (zfu_I (by decide))) (zfu_I (by decide))) (zfu_I (by decide)))
    · rw [if_neg hc6] at h
      obtain ⟨hg7, h⟩ := zg_some h
      obtain ⟨r9, s10, h8, h⟩ := zb_some h
      have f11 := zfu_tr (zfu_tr (zfu_tr (zfu_tr (zfu_tr (zfu_rf κ _) (zfu_I (by decide))) (zfu_I (by decide))) (zfu_I (by decide))) (zfu_I (by decide))) (zfu_w rfl (ou_139 h8))
      cases h
      exact (zfu_tr (zfu_tr (zfu_tr f11 (zfu_I (by decide))) (zfu_I (by decide))) (zfu_I (by decide)))
  · rw [if_neg hc1] at h
    obtain ⟨r13, s14, h12, h⟩ := zb_some h
    have f15 := zfu_tr (zfu_rf κ _) (ou_74 h12)
    cases h
    exact f15
theorem ou_77 {κ : Nat} {v1 : Int} {s : zS} {q : (Unit × zS)} (h : f_77 v1 s = some q) : zfu κ s q.2 := by
  unfold f_77 at h
  obtain ⟨r2, s3, h1, h⟩ := zb_some h
  have f4 := zfu_tr (zfu_rf κ _) (ou_76 h1)
  obtain ⟨hg5, h⟩ := zg_some h
  by_cases hc6 : r2 = 0
  · rw [if_pos hc6] at h
    cases h
    exact f4
  · rw [if_neg hc6] at h
    obtain ⟨hg7, h⟩ := zg_some h
    obtain ⟨hg8, h⟩ := zg_some h
    obtain ⟨r10, s11, h9, h⟩ := zb_some h
    have f12 := zfu_tr (zfu_tr f4 (zfu_I (by decide))) (zfu_w rfl (ou_139 h9))
    cases h
    exact (zfu_tr (zfu_tr f12 (zfu_I (by decide))) (zfu_I (by decide)))
theorem ou_80 {κ : Nat} {v1 : Int} {s : zS} {q : (Unit × zS)} (h : f_80 v1 s = some q) : zfu κ s q.2 := by
  unfold f_80 at h
  cases h
  exact (zfu_tr (zfu_tr (zfu_rf κ _) (zfu_I (by decide))) (zfu_I (by decide)))
theorem ou_79 {κ : Nat} {v1 : Int} {v2 : Int} {v3 : Int} {s : zS} {q : (Unit × zS)} (h : f_79 v1 v2 v3 s = some q) : zfu κ s q.2 := by
  unfold f_79 at h
  obtain ⟨hg1, h⟩ := zg_some h
  obtain ⟨r3, s4, h2, h⟩ := zb_some h
  have f5 := zfu_tr (zfu_rf κ _) (zfu_w rfl (ou_139 h2))
  obtain ⟨r7, s8, h6, h⟩ := zb_some h
  have f9 := zfu_tr f5 (ou_80 h6)
  cases h
  exact f9
theorem oub_78_7 {κ : Nat} {v1 : Int} {s : zS} {q : (Int × zS) ⊕ ((zS) ⊕ (Unit × zS))} (h : b_78_7 v1 s = some q) : zfu κ s (Sum.elim (fun e : (Int × zS) => e.2) (fun t : ((zS) ⊕ (Unit × zS)) => Sum.elim (fun e : (zS) => e) (fun q => q.2) t) q) := by
  unfold b_78_7 at h
  obtain ⟨hg1, h⟩ := zg_some h
  by_cases hc2 : v1 < 0
  · rw [if_pos hc2] at h
    cases h
    exact (zfu_rf κ _)
  · rw [if_neg hc2] at h
    obtain ⟨hg3, h⟩ := zg_some h
    by_cases hc4 : (gI s 12 v1) = 2
    · rw [if_pos hc4] at h
      by_cases hc5 : (gJ s 16 v1) = (gJ s 8 6)
      · rw [if_pos hc5] at h
        obtain ⟨r7, s8, h6, h⟩ := zb_some h
        have f9 := zfu_tr (zfu_rf κ _) (ou_79 h6)
        cases h
        exact f9
      · rw [if_neg hc5] at h
        cases h
        exact (zfu_rf κ _)
    · rw [if_neg hc4] at h
      cases h
      exact (zfu_rf κ _)
theorem oul_78_7 {κ : Nat} {n : Nat} {e0 : (Int × zS)} {t : ((zS) ⊕ (Unit × zS))} (h : zlp (fun (q : Int × zS) => b_78_7 q.1 q.2) n e0 = some t) : zfu κ ((fun e : (Int × zS) => e.2) e0) ((fun t : ((zS) ⊕ (Unit × zS)) => Sum.elim (fun e : (zS) => e) (fun q => q.2) t) t) := zfu_lp (f := (fun e : (Int × zS) => e.2)) (g := (fun t : ((zS) ⊕ (Unit × zS)) => Sum.elim (fun e : (zS) => e) (fun q => q.2) t)) (fun e q h1 => oub_78_7 h1) n e0 t h
theorem ou_78 {κ : Nat} {s : zS} {q : (Unit × zS)} (h : f_78 s = some q) : zfu κ s q.2 := by
  unfold f_78 at h
  obtain ⟨e1, h2, h⟩ := zo_some h
  rcases e1 with e4 | q5
  · simp only [ze_l] at h
    have f3 : zfu κ s e4 := zfu_tr (zfu_rf κ _) (oul_78_7 h2)
    obtain ⟨r7, h6, h⟩ := zo_some h
    obtain ⟨hg8, h⟩ := zg_some h
    by_cases hc9 : r7 = (-1)
    · rw [if_pos hc9] at h
      obtain ⟨r11, s12, h10, h⟩ := zb_some h
      have f13 := zfu_tr f3 (ou_74 h10)
      cases h
      exact f13
    · rw [if_neg hc9] at h
      obtain ⟨hg14, h⟩ := zg_some h
      obtain ⟨r16, s17, h15, h⟩ := zb_some h
      have f18 := zfu_tr f3 (ou_79 h15)
      cases h
      exact f18
  · cases h
    exact zfu_tr (zfu_rf κ _) (oul_78_7 h2)
theorem ou_83 {κ : Nat} {s : zS} {q : (Unit × zS)} (h : f_83 s = some q) : zfu κ s q.2 := by
  unfold f_83 at h
  by_cases hc1 : (gI s 8 4) = 0
  · rw [if_pos hc1] at h
    obtain ⟨r3, s4, h2, h⟩ := zb_some h
    have f5 := zfu_tr (zfu_rf κ _) (ou_74 h2)
    cases h
    exact f5
  · rw [if_neg hc1] at h
    obtain ⟨r7, s8, h6, h⟩ := zb_some h
    have f9 := zfu_tr (zfu_rf κ _) (ou_74 h6)
    cases h
    exact f9
theorem ou_82 {κ : Nat} {v1 : Int} {s : zS} {q : (Unit × zS)} (h : f_82 v1 s = some q) : zfu κ s q.2 := by
  unfold f_82 at h
  obtain ⟨hg1, h⟩ := zg_some h
  by_cases hc2 : t_82_1 v1 = 152
  · rw [if_pos hc2] at h
    obtain ⟨r4, s5, h3, h⟩ := zb_some h
    have f6 := zfu_tr (zfu_rf κ _) (ou_76 h3)
    cases h
    exact f6
  · rw [if_neg hc2] at h
    by_cases hc7 : t_82_1 v1 = 161
    · rw [if_pos hc7] at h
      obtain ⟨r9, s10, h8, h⟩ := zb_some h
      have f11 := zfu_tr (zfu_rf κ _) (ou_79 h8)
      cases h
      exact f11
    · rw [if_neg hc7] at h
      by_cases hc12 : t_82_1 v1 = 171
      · rw [if_pos hc12] at h
        obtain ⟨r14, s15, h13, h⟩ := zb_some h
        have f16 := zfu_tr (zfu_rf κ _) (ou_77 h13)
        cases h
        exact f16
      · rw [if_neg hc12] at h
        by_cases hc17 : t_82_1 v1 = 179
        · rw [if_pos hc17] at h
          obtain ⟨r19, h18, h⟩ := zo_some h
          obtain ⟨hg20, h⟩ := zg_some h
          by_cases hc21 : r19 = 0
          · rw [if_pos hc21] at h
            obtain ⟨r23, s24, h22, h⟩ := zb_some h
            have f25 := zfu_tr (zfu_rf κ _) (ou_76 h22)
            cases h
            exact f25
          · rw [if_neg hc21] at h
            obtain ⟨r27, s28, h26, h⟩ := zb_some h
            have f29 := zfu_tr (zfu_rf κ _) (ou_77 h26)
            cases h
            exact f29
        · rw [if_neg hc17] at h
          by_cases hc30 : t_82_1 v1 = 206
          · rw [if_pos hc30] at h
            obtain ⟨r32, s33, h31, h⟩ := zb_some h
            have f34 := zfu_tr (zfu_rf κ _) (ou_83 h31)
            cases h
            exact f34
          · rw [if_neg hc30] at h
            cases h
theorem ou_75 {κ : Nat} {v1 : Int} {s : zS} {q : (Unit × zS)} (h : f_75 v1 s = some q) : zfu κ s q.2 := by
  unfold f_75 at h
  obtain ⟨hg1, h⟩ := zg_some h
  by_cases hc2 : t_75_1 v1 = 84
  · rw [if_pos hc2] at h
    obtain ⟨r4, s5, h3, h⟩ := zb_some h
    have f6 := zfu_tr (zfu_rf κ _) (ou_76 h3)
    cases h
    exact f6
  · rw [if_neg hc2] at h
    by_cases hc7 : t_75_1 v1 = 93
    · rw [if_pos hc7] at h
      obtain ⟨r9, s10, h8, h⟩ := zb_some h
      have f11 := zfu_tr (zfu_rf κ _) (ou_77 h8)
      cases h
      exact f11
    · rw [if_neg hc7] at h
      by_cases hc12 : t_75_1 v1 = 101
      · rw [if_pos hc12] at h
        obtain ⟨r14, s15, h13, h⟩ := zb_some h
        have f16 := zfu_tr (zfu_rf κ _) (ou_78 h13)
        cases h
        exact f16
      · rw [if_neg hc12] at h
        by_cases hc17 : t_75_1 v1 = 108
        · rw [if_pos hc17] at h
          obtain ⟨r19, s20, h18, h⟩ := zb_some h
          have f21 := zfu_tr (zfu_rf κ _) (ou_79 h18)
          cases h
          exact f21
        · rw [if_neg hc17] at h
          by_cases hc22 : t_75_1 v1 = 118
          · rw [if_pos hc22] at h
            obtain ⟨r24, s25, h23, h⟩ := zb_some h
            have f26 := zfu_tr (zfu_rf κ _) (ou_79 h23)
            cases h
            exact f26
          · rw [if_neg hc22] at h
            by_cases hc27 : t_75_1 v1 = 128
            · rw [if_pos hc27] at h
              obtain ⟨r29, h28, h⟩ := zo_some h
              obtain ⟨hg30, h⟩ := zg_some h
              by_cases hc31 : r29 = 0
              · rw [if_pos hc31] at h
                obtain ⟨r33, s34, h32, h⟩ := zb_some h
                have f35 := zfu_tr (zfu_rf κ _) (ou_83 h32)
                cases h
                exact f35
              · rw [if_neg hc31] at h
                obtain ⟨r37, s38, h36, h⟩ := zb_some h
                have f39 := zfu_tr (zfu_rf κ _) (ou_82 h36)
                cases h
                exact f39
            · rw [if_neg hc27] at h
              cases h
theorem ou_84 {κ : Nat} {v1 : Int} {s : zS} {q : (Unit × zS)} (h : f_84 v1 s = some q) : zfu κ s q.2 := by
  unfold f_84 at h
  obtain ⟨hg1, h⟩ := zg_some h
  by_cases hc2 : v1 = 2
  · rw [if_pos hc2] at h
    by_cases hc3 : (gI s 10 8) = 0
    · rw [if_pos hc3] at h
      obtain ⟨r5, s6, h4, h⟩ := zb_some h
      have f7 := zfu_tr (zfu_rf κ _) (ou_83 h4)
      cases h
      exact f7
    · rw [if_neg hc3] at h
      obtain ⟨hg8, h⟩ := zg_some h
      cases h
      exact (zfu_tr (zfu_tr (zfu_rf κ _) (zfu_J)) (zfu_I (by decide)))
  · rw [if_neg hc2] at h
    obtain ⟨r10, s11, h9, h⟩ := zb_some h
    have f12 := zfu_tr (zfu_rf κ _) (ou_83 h9)
    cases h
    exact f12
theorem ou_85 {κ : Nat} {v1 : Int} {s : zS} {q : (Unit × zS)} (h : f_85 v1 s = some q) : zfu κ s q.2 := by
  unfold f_85 at h
  obtain ⟨hg1, h⟩ := zg_some h
  by_cases hc2 : v1 = 41
  · rw [if_pos hc2] at h
    cases h
    exact (zfu_tr (zfu_rf κ _) (zfu_I (by decide)))
  · rw [if_neg hc2] at h
    obtain ⟨r4, s5, h3, h⟩ := zb_some h
    have f6 := zfu_tr (zfu_rf κ _) (ou_83 h3)
    cases h
    exact f6
theorem ou_86 {κ : Nat} {v1 : Int} {s : zS} {q : (Unit × zS)} (h : f_86 v1 s = some q) : zfu κ s q.2 := by
  unfold f_86 at h
  obtain ⟨hg1, h⟩ := zg_some h
  by_cases hc2 : v1 = 3
  · rw [if_pos hc2] at h
    by_cases hc3 : (gI s 10 8) = 0
    · rw [if_pos hc3] at h
      obtain ⟨r5, s6, h4, h⟩ := zb_some h
      have f7 := zfu_tr (zfu_rf κ _) (ou_83 h4)
      cases h
      exact f7
    · rw [if_neg hc3] at h
      obtain ⟨hg8, h⟩ := zg_some h
      obtain ⟨r10, s11, h9, h⟩ := zb_some h
      have f12 := zfu_tr (zfu_tr (zfu_rf κ _) (zfu_I (by decide))) (zfu_w rfl (ou_139 h9))
      obtain ⟨r14, s15, h13, h⟩ := zb_some h
      have f16 := zfu_tr f12 (ou_80 h13)
      cases h
      exact f16
  · rw [if_neg hc2] at h
    obtain ⟨r18, s19, h17, h⟩ := zb_some h
    have f20 := zfu_tr (zfu_rf κ _) (ou_83 h17)
    cases h
    exact f20
theorem oub_140_15 {c0 : Nat} {v1 : Int} {v2 : Int} {v3 : Int} {v4 : Int} {s : zS} {q : (Int × zS) ⊕ (zS)} (h : b_140_15 c0 v1 v2 v3 v4 s = some q) : zfw c0 s (Sum.elim (fun e : (Int × zS) => e.2) (fun e : (zS) => e) q) := by
  unfold b_140_15 at h
  obtain ⟨hg1, h⟩ := zg_some h
  obtain ⟨hg2, h⟩ := zg_some h
  by_cases hc3 : v4 < (gI s c0 0)
  · rw [if_pos hc3] at h
    obtain ⟨hg4, h⟩ := zg_some h
    by_cases hc5 : (gI s (c0 + 1) v4) = 43
    · rw [if_pos hc5] at h
      obtain ⟨hg6, h⟩ := zg_some h
      by_cases hc7 : (gI s (c0 + 2) v4) < v2
      · rw [if_pos hc7] at h
        obtain ⟨hg8, h⟩ := zg_some h
        cases h
        exact (zfw_tr (zfw_rf c0 _) (zfw_C (j := 6) (by decide)))
      · rw [if_neg hc7] at h
        cases h
        exact (zfw_rf c0 _)
    · rw [if_neg hc5] at h
      cases h
      exact (zfw_rf c0 _)
  · rw [if_neg hc3] at h
    cases h
    exact (zfw_rf c0 _)
theorem oul_140_15 {c0 : Nat} {v1 : Int} {v2 : Int} {v3 : Int} {n : Nat} {e0 : (Int × zS)} {t : (zS)} (h : zlp (fun (q : Int × zS) => b_140_15 c0 v1 v2 v3 q.1 q.2) n e0 = some t) : zfw c0 ((fun e : (Int × zS) => e.2) e0) ((fun e : (zS) => e) t) := zfw_lp (f := (fun e : (Int × zS) => e.2)) (g := (fun e : (zS) => e)) (fun e q h1 => oub_140_15 h1) n e0 t h
theorem ou_140 {c0 : Nat} {v1 : Int} {v2 : Int} {v3 : Int} {s : zS} {q : (Unit × zS)} (h : f_140 c0 v1 v2 v3 s = some q) : zfw c0 s q.2 := by
  unfold f_140 at h
  obtain ⟨hg1, h⟩ := zg_some h
  obtain ⟨hg2, h⟩ := zg_some h
  obtain ⟨e3, h4, h⟩ := zo_some h
  have f5 : zfw c0 s e3 := zfw_tr (zfw_tr (zfw_rf c0 _) (zfw_C (j := 5) (by decide))) (oul_140_15 h4)
  obtain ⟨hg6, h⟩ := zg_some h
  by_cases hc7 : (gI e3 (c0 + 6) v1) = v3
  · rw [if_pos hc7] at h
    cases h
    exact f5
  · rw [if_neg hc7] at h
    obtain ⟨r9, h8, h⟩ := zo_some h
    obtain ⟨hg10, h⟩ := zg_some h
    by_cases hc11 : 2 < r9
    · rw [if_pos hc11] at h
      cases h
      exact f5
    · rw [if_neg hc11] at h
      by_cases hc12 : (gI e3 c0 8) < 40
      · rw [if_pos hc12] at h
        cases h
        exact (zfw_tr (zfw_tr f5 (zfw_C (j := 7) (by decide))) (zfw_C0))
      · rw [if_neg hc12] at h
        cases h
        exact f5
theorem ou_93 {κ : Nat} {s : zS} {q : (Unit × zS)} (h : f_93 s = some q) : zfu κ s q.2 := by
  unfold f_93 at h
  obtain ⟨hg1, h⟩ := zg_some h
  obtain ⟨hg2, h⟩ := zg_some h
  obtain ⟨r4, h3, h⟩ := zo_some h
  obtain ⟨r6, s7, h5, h⟩ := zb_some h
  have f8 := zfu_tr (zfu_rf κ _) (zfu_w rfl (ou_140 h5))
  by_cases hc9 : (gI s7 11 ((gI s 10 8) - 1)) = 39
  · rw [if_pos hc9] at h
    cases h
    exact (zfu_tr (zfu_tr f8 (zfu_I (by decide))) (zfu_I (by decide)))
  · rw [if_neg hc9] at h
    cases h
    exact (zfu_tr (zfu_tr f8 (zfu_I (by decide))) (zfu_I (by decide)))
theorem ou_95 {κ : Nat} {v1 : Int} {s : zS} {q : (Unit × zS)} (h : f_95 v1 s = some q) : zfu κ s q.2 := by
  unfold f_95 at h
  obtain ⟨hg1, h⟩ := zg_some h
  obtain ⟨r3, h2, h⟩ := zo_some h
  obtain ⟨hg4, h⟩ := zg_some h
  by_cases hc5 : r3 = (-1)
  · rw [if_pos hc5] at h
    obtain ⟨r7, s8, h6, h⟩ := zb_some h
    have f9 := zfu_tr (zfu_rf κ _) (ou_74 h6)
    cases h
    exact f9
  · rw [if_neg hc5] at h
    obtain ⟨hg10, h⟩ := zg_some h
    obtain ⟨r12, s13, h11, h⟩ := zb_some h
    have f14 := zfu_tr (zfu_rf κ _) (zfu_w rfl (ou_139 h11))
    cases h
    exact (zfu_tr f14 (zfu_I (by decide)))
theorem ou_92 {κ : Nat} {s : zS} {q : (Unit × zS)} (h : f_92 s = some q) : zfu κ s q.2 := by
  unfold f_92 at h
  obtain ⟨hg1, h⟩ := zg_some h
  by_cases hc2 : ((gI s 10 8) - 1) < 0
  · rw [if_pos hc2] at h
    cases h
    exact (zfu_rf κ _)
  · rw [if_neg hc2] at h
    obtain ⟨hg3, h⟩ := zg_some h
    by_cases hc4 : (gI s 12 ((gI s 10 8) - 1)) = 2
    · rw [if_pos hc4] at h
      obtain ⟨r6, s7, h5, h⟩ := zb_some h
      have f8 := zfu_tr (zfu_rf κ _) (ou_93 h5)
      cases h
      exact f8
    · rw [if_neg hc4] at h
      obtain ⟨r10, h9, h⟩ := zo_some h
      obtain ⟨hg11, h⟩ := zg_some h
      by_cases hc12 : r10 = 0
      · rw [if_pos hc12] at h
        obtain ⟨r14, s15, h13, h⟩ := zb_some h
        have f16 := zfu_tr (zfu_rf κ _) (ou_95 h13)
        cases h
        exact (zfu_tr f16 (zfu_I (by decide)))
      · rw [if_neg hc12] at h
        obtain ⟨hg17, h⟩ := zg_some h
        obtain ⟨hg18, h⟩ := zg_some h
        cases h
        exact (zfu_tr (zfu_tr (zfu_rf κ _) (zfu_w (d := _) rfl (zfw_C (j := 5) (by decide)))) (zfu_I (by decide)))
theorem oub_87_2 {κ : Nat} {v1 : Int} {v2 : Int} {s : zS} {q : (Int × zS) ⊕ (zS)} (h : b_87_2 v1 v2 s = some q) : zfu κ s (Sum.elim (fun e : (Int × zS) => e.2) (fun e : (zS) => e) q) := by
  unfold b_87_2 at h
  obtain ⟨hg1, h⟩ := zg_some h
  by_cases hc2 : v2 < 20
  · rw [if_pos hc2] at h
    by_cases hc3 : (gI s 10 15) = 0
    · rw [if_pos hc3] at h
      obtain ⟨r5, h4, h⟩ := zo_some h
      obtain ⟨hg6, h⟩ := zg_some h
      by_cases hc7 : r5 = 0
      · rw [if_pos hc7] at h
        cases h
        exact (zfu_rf κ _)
      · rw [if_neg hc7] at h
        obtain ⟨r9, s10, h8, h⟩ := zb_some h
        have f11 := zfu_tr (zfu_rf κ _) (ou_92 h8)
        cases h
        exact f11
    · rw [if_neg hc3] at h
      cases h
      exact (zfu_rf κ _)
  · rw [if_neg hc2] at h
    cases h
    exact (zfu_rf κ _)
theorem oul_87_2 {κ : Nat} {v1 : Int} {n : Nat} {e0 : (Int × zS)} {t : (zS)} (h : zlp (fun (q : Int × zS) => b_87_2 v1 q.1 q.2) n e0 = some t) : zfu κ ((fun e : (Int × zS) => e.2) e0) ((fun e : (zS) => e) t) := zfu_lp (f := (fun e : (Int × zS) => e.2)) (g := (fun e : (zS) => e)) (fun e q h1 => oub_87_2 h1) n e0 t h
theorem ou_98 {κ : Nat} {v1 : Int} {s : zS} {q : (Unit × zS)} (h : f_98 v1 s = some q) : zfu κ s q.2 := by
  unfold f_98 at h
  obtain ⟨r2, h1, h⟩ := zo_some h
  obtain ⟨hg3, h⟩ := zg_some h
  by_cases hc4 : r2 = 0
  · rw [if_pos hc4] at h
    obtain ⟨hg5, h⟩ := zg_some h
    by_cases hc6 : v1 = 0
    · rw [if_pos hc6] at h
      cases h
      exact (zfu_tr (zfu_rf κ _) (zfu_I (by decide)))
    · rw [if_neg hc6] at h
      obtain ⟨r8, s9, h7, h⟩ := zb_some h
      have f10 := zfu_tr (zfu_rf κ _) (ou_74 h7)
      cases h
      exact f10
  · rw [if_neg hc4] at h
    obtain ⟨r12, s13, h11, h⟩ := zb_some h
    have f14 := zfu_tr (zfu_rf κ _) (ou_83 h11)
    cases h
    exact f14
theorem ou_99 {κ : Nat} {v1 : Int} {s : zS} {q : (Unit × zS)} (h : f_99 v1 s = some q) : zfu κ s q.2 := by
  unfold f_99 at h
  by_cases hc1 : (gI s 10 6) = 1
  · rw [if_pos hc1] at h
    obtain ⟨hg2, h⟩ := zg_some h
    by_cases hc3 : v1 = 42
    · rw [if_pos hc3] at h
      obtain ⟨hg4, h⟩ := zg_some h
      obtain ⟨hg5, h⟩ := zg_some h
      obtain ⟨hg6, h⟩ := zg_some h
      cases h
      exact (zfu_tr (zfu_tr (zfu_tr (zfu_rf κ _) (zfu_I (by decide))) (zfu_w (d := _) rfl (zfw_C (j := 4) (by decide)))) (zfu_I (by decide)))
    · rw [if_neg hc3] at h
      obtain ⟨r8, s9, h7, h⟩ := zb_some h
      have f10 := zfu_tr (zfu_rf κ _) (ou_83 h7)
      cases h
      exact f10
  · rw [if_neg hc1] at h
    obtain ⟨hg11, h⟩ := zg_some h
    obtain ⟨r13, s14, h12, h⟩ := zb_some h
    have f15 := zfu_tr (zfu_rf κ _) (ou_74 h12)
    cases h
    exact f15
theorem ouj_100_86 {κ : Nat} {v1 : Int} {v2 : Int} {s : zS} {q : (Unit × zS)} (h : j_100_86 v1 v2 s = some q) : zfu κ s q.2 := by
  unfold j_100_86 at h
  obtain ⟨hg1, h⟩ := zg_some h
  by_cases hc2 : v2 = 39
  · rw [if_pos hc2] at h
    obtain ⟨hg3, h⟩ := zg_some h
    by_cases hc4 : v1 = 40
    · rw [if_pos hc4] at h
      obtain ⟨r6, s7, h5, h⟩ := zb_some h
      have f8 := zfu_tr (zfu_rf κ _) (ou_93 h5)
      cases h
      exact f8
    · rw [if_neg hc4] at h
      obtain ⟨r10, s11, h9, h⟩ := zb_some h
      have f12 := zfu_tr (zfu_rf κ _) (ou_83 h9)
      cases h
      exact f12
  · rw [if_neg hc2] at h
    obtain ⟨r14, s15, h13, h⟩ := zb_some h
    have f16 := zfu_tr (zfu_rf κ _) (ou_83 h13)
    cases h
    exact f16
theorem ouj_100_61 {κ : Nat} {v1 : Int} {v2 : Int} {s : zS} {q : (Unit × zS)} (h : j_100_61 v1 v2 s = some q) : zfu κ s q.2 := by
  unfold j_100_61 at h
  obtain ⟨hg1, h⟩ := zg_some h
  by_cases hc2 : v2 = 37
  · rw [if_pos hc2] at h
    obtain ⟨hg3, h⟩ := zg_some h
    by_cases hc4 : v1 = 38
    · rw [if_pos hc4] at h
      cases h
      exact (zfu_tr (zfu_rf κ _) (zfu_I (by decide)))
    · rw [if_neg hc4] at h
      exact zfu_tr (zfu_rf κ _) (ouj_100_86 h)
  · rw [if_neg hc2] at h
    exact zfu_tr (zfu_rf κ _) (ouj_100_86 h)
theorem ouj_100_49 {κ : Nat} {v1 : Int} {v2 : Int} {s : zS} {q : (Unit × zS)} (h : j_100_49 v1 v2 s = some q) : zfu κ s q.2 := by
  unfold j_100_49 at h
  obtain ⟨hg1, h⟩ := zg_some h
  by_cases hc2 : v2 = 35
  · rw [if_pos hc2] at h
    obtain ⟨hg3, h⟩ := zg_some h
    by_cases hc4 : v1 = 36
    · rw [if_pos hc4] at h
      cases h
      exact (zfu_tr (zfu_rf κ _) (zfu_I (by decide)))
    · rw [if_neg hc4] at h
      exact zfu_tr (zfu_rf κ _) (ouj_100_61 h)
  · rw [if_neg hc2] at h
    exact zfu_tr (zfu_rf κ _) (ouj_100_61 h)
theorem ou_100 {κ : Nat} {v1 : Int} {s : zS} {q : (Unit × zS)} (h : f_100 v1 s = some q) : zfu κ s q.2 := by
  unfold f_100 at h
  obtain ⟨hg1, h⟩ := zg_some h
  by_cases hc2 : (gI s 11 ((gI s 10 8) - 1)) = 31
  · rw [if_pos hc2] at h
    obtain ⟨hg3, h⟩ := zg_some h
    by_cases hc4 : v1 = 32
    · rw [if_pos hc4] at h
      cases h
      exact (zfu_tr (zfu_tr (zfu_rf κ _) (zfu_I (by decide))) (zfu_I (by decide)))
    · rw [if_neg hc4] at h
      by_cases hc5 : v1 = 33
      · rw [if_pos hc5] at h
        cases h
        exact (zfu_tr (zfu_tr (zfu_rf κ _) (zfu_I (by decide))) (zfu_I (by decide)))
      · rw [if_neg hc5] at h
        by_cases hc6 : v1 = 34
        · rw [if_pos hc6] at h
          cases h
          exact (zfu_tr (zfu_tr (zfu_rf κ _) (zfu_I (by decide))) (zfu_I (by decide)))
        · rw [if_neg hc6] at h
          exact zfu_tr (zfu_rf κ _) (ouj_100_49 h)
  · rw [if_neg hc2] at h
    exact zfu_tr (zfu_rf κ _) (ouj_100_49 h)
theorem ouj_87_33 {κ : Nat} {v1 : Int} {s : zS} {q : (Unit × zS)} (h : j_87_33 v1 s = some q) : zfu κ s q.2 := by
  unfold j_87_33 at h
  by_cases hc1 : (gI s 10 15) = 0
  · rw [if_pos hc1] at h
    obtain ⟨r3, h2, h⟩ := zo_some h
    obtain ⟨hg4, h⟩ := zg_some h
    by_cases hc5 : r3 = 0
    · rw [if_pos hc5] at h
      by_cases hc6 : (gI s 10 8) = 0
      · rw [if_pos hc6] at h
        obtain ⟨r8, s9, h7, h⟩ := zb_some h
        have f10 := zfu_tr (zfu_rf κ _) (ou_98 h7)
        cases h
        exact f10
      · rw [if_neg hc6] at h
        obtain ⟨r12, h11, h⟩ := zo_some h
        obtain ⟨hg13, h⟩ := zg_some h
        by_cases hc14 : r12 = 0
        · rw [if_pos hc14] at h
          obtain ⟨hg15, h⟩ := zg_some h
          by_cases hc16 : (gI s 12 ((gI s 10 8) - 1)) = 1
          · rw [if_pos hc16] at h
            obtain ⟨r18, s19, h17, h⟩ := zb_some h
            have f20 := zfu_tr (zfu_rf κ _) (ou_99 h17)
            cases h
            exact f20
          · rw [if_neg hc16] at h
            obtain ⟨r22, s23, h21, h⟩ := zb_some h
            have f24 := zfu_tr (zfu_rf κ _) (ou_100 h21)
            cases h
            exact f24
        · rw [if_neg hc14] at h
          obtain ⟨r26, s27, h25, h⟩ := zb_some h
          have f28 := zfu_tr (zfu_rf κ _) (ou_98 h25)
          cases h
          exact f28
    · rw [if_neg hc5] at h
      obtain ⟨r30, s31, h29, h⟩ := zb_some h
      have f32 := zfu_tr (zfu_rf κ _) (ou_76 h29)
      cases h
      exact f32
  · rw [if_neg hc1] at h
    cases h
    exact (zfu_rf κ _)
theorem ou_87 {κ : Nat} {v1 : Int} {s : zS} {q : (Unit × zS)} (h : f_87 v1 s = some q) : zfu κ s q.2 := by
  unfold f_87 at h
  obtain ⟨e1, h2, h⟩ := zo_some h
  have f3 : zfu κ s e1 := zfu_tr (zfu_rf κ _) (oul_87_2 h2)
  exact zfu_tr f3 (ouj_87_33 h)
theorem oub_73_46 {κ : Nat} {v3 : Int} {s : zS} {q : (Int × zS) ⊕ ((zS) ⊕ (Unit × zS))} (h : b_73_46 v3 s = some q) : zfu κ s (Sum.elim (fun e : (Int × zS) => e.2) (fun t : ((zS) ⊕ (Unit × zS)) => Sum.elim (fun e : (zS) => e) (fun q => q.2) t) q) := by
  unfold b_73_46 at h
  obtain ⟨hg1, h⟩ := zg_some h
  by_cases hc2 : 200 < v3
  · rw [if_pos hc2] at h
    cases h
    exact (zfu_rf κ _)
  · rw [if_neg hc2] at h
    by_cases hc3 : (gI s 10 15) = 0
    · rw [if_pos hc3] at h
      by_cases hc4 : (gI s 10 5) = 0
      · rw [if_pos hc4] at h
        obtain ⟨r6, s7, h5, h⟩ := zb_some h
        have f8 := zfu_tr (zfu_rf κ _) (zfu_of (fr_62 h5) rfl rfl)
        by_cases hc9 : (gI s7 8 4) = 1
        · rw [if_pos hc9] at h
          obtain ⟨r11, s12, h10, h⟩ := zb_some h
          have f13 := zfu_tr f8 (ou_74 h10)
          cases h
          exact f13
        · rw [if_neg hc9] at h
          by_cases hc14 : 200 < (gI s7 8 3)
          · rw [if_pos hc14] at h
            obtain ⟨r16, s17, h15, h⟩ := zb_some h
            have f18 := zfu_tr f8 (ou_74 h15)
            cases h
            exact f18
          · rw [if_neg hc14] at h
            by_cases hc19 : t_73_129 (gI s7 10 4) = 160
            · rw [if_pos hc19] at h
              obtain ⟨r21, s22, h20, h⟩ := zb_some h
              have f23 := zfu_tr f8 (ou_75 h20)
              cases h
              exact f23
            · rw [if_neg hc19] at h
              by_cases hc24 : t_73_129 (gI s7 10 4) = 174
              · rw [if_pos hc24] at h
                obtain ⟨r26, s27, h25, h⟩ := zb_some h
                have f28 := zfu_tr f8 (ou_84 h25)
                cases h
                exact f28
              · rw [if_neg hc24] at h
                by_cases hc29 : t_73_129 (gI s7 10 4) = 188
                · rw [if_pos hc29] at h
                  obtain ⟨r31, s32, h30, h⟩ := zb_some h
                  have f33 := zfu_tr f8 (ou_85 h30)
                  cases h
                  exact f33
                · rw [if_neg hc29] at h
                  by_cases hc34 : t_73_129 (gI s7 10 4) = 202
                  · rw [if_pos hc34] at h
                    obtain ⟨r36, s37, h35, h⟩ := zb_some h
                    have f38 := zfu_tr f8 (ou_86 h35)
                    cases h
                    exact f38
                  · rw [if_neg hc34] at h
                    by_cases hc39 : t_73_129 (gI s7 10 4) = 216
                    · rw [if_pos hc39] at h
                      obtain ⟨r41, s42, h40, h⟩ := zb_some h
                      have f43 := zfu_tr f8 (ou_87 h40)
                      cases h
                      exact f43
                    · rw [if_neg hc39] at h
                      cases h
      · rw [if_neg hc4] at h
        cases h
        exact (zfu_rf κ _)
    · rw [if_neg hc3] at h
      cases h
      exact (zfu_rf κ _)
theorem oul_73_46 {κ : Nat} {n : Nat} {e0 : (Int × zS)} {t : ((zS) ⊕ (Unit × zS))} (h : zlp (fun (q : Int × zS) => b_73_46 q.1 q.2) n e0 = some t) : zfu κ ((fun e : (Int × zS) => e.2) e0) ((fun t : ((zS) ⊕ (Unit × zS)) => Sum.elim (fun e : (zS) => e) (fun q => q.2) t) t) := zfu_lp (f := (fun e : (Int × zS) => e.2)) (g := (fun t : ((zS) ⊕ (Unit × zS)) => Sum.elim (fun e : (zS) => e) (fun q => q.2) t)) (fun e q h1 => oub_73_46 h1) n e0 t h
/-- the class reads into the code c: other codes stay -/
theorem ou_73 {c : Nat} {fm : Int} {s : zS} {q : Unit × zS} (h : f_73 c fm s = some q) : ∀ x i, zot c x → gI q.2 x i = gI s x i := by
  unfold f_73 at h
  obtain ⟨hc, h⟩ := zg_some h
  obtain ⟨-, h⟩ := zg_some h
  have gp : gP (sP s 10 2 c) 10 2 = c := by
    show (if (10 : Nat) = 10 then (if (2 : Int) = 2 then c else s.2.2 10 2) else s.2.2 10 2) = c
    rw [if_pos rfl, if_pos rfl]
  rw [gp] at h
  obtain ⟨r4, s5, h1, h⟩ := zb_some h
  obtain ⟨r7, s8, h2, h⟩ := zb_some h
  obtain ⟨-, h⟩ := zg_some h
  obtain ⟨e10, h3, h⟩ := zo_some h
  have u1 : zfu c (sP s 10 2 c) s5 := zfu_w gp (ou_138 h1)
  have u2 : zfu c s5 s8 := zfu_of (fr_61 h2) rfl rfl
  have u3 : zfu c s8 (sI (sI (sI (sI (sI s8 10 3 fm) 10 4 0) 10 5 0) 10 8 0) 10 15 0) := zfu_tr (zfu_tr (zfu_tr (zfu_tr (zfu_tr (zfu_rf c _) (zfu_I (by decide))) (zfu_I (by decide))) (zfu_I (by decide))) (zfu_I (by decide))) (zfu_I (by decide))
  have u4 := oul_73_46 (κ := c) h3
  have u5 : zfu c (sP s 10 2 c) q.2 := by
    have hh := zfu_tr (zfu_tr (zfu_tr u1 u2) u3) u4
    rcases e10 with e | e
    · simp only [ze_l] at h
      cases h
      exact hh
    · simp only [ze_r] at h
      cases h
      exact hh
  intro x i hx
  unfold gI
  rw [(u5 gp).2 x i hx]
  rfl
