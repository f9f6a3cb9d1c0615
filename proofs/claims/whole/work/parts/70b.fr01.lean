/-! FRAMES (1). By program. -/
theorem frl_68_41 {v1 : Int} {v2 : Int} {n : Nat} {e0 : (Int × zS)} {t : ((zS) ⊕ (Unit × zS))} (h : zlp (fun (q : Int × zS) => b_68_41 v1 v2 q.1 q.2) n e0 = some t) : zfr 256 ((fun e : (Int × zS) => e.2) e0) ((fun t : ((zS) ⊕ (Unit × zS)) => Sum.elim (fun e : (zS) => e) (fun q => q.2) t) t) := zfr_lp (f := (fun e : (Int × zS) => e.2)) (g := (fun t : ((zS) ⊕ (Unit × zS)) => Sum.elim (fun e : (zS) => e) (fun q => q.2) t)) (fun e q h1 => frb_68_41 h1) n e0 t h
theorem frj_68_38 {v1 : Int} {t0 : Int} {s : zS} {q : (Unit × zS)} (h : j_68_38 v1 t0 s = some q) : zfr 256 s q.2 := by
  unfold j_68_38 at h
  obtain ⟨e1, h2, h⟩ := zo_some h
  rcases e1 with e4 | q5
  · simp only [ze_l] at h
    have f3 : zfr 256 s e4 := zfr_tr (zfr_rf _ _) (frl_68_41 h2)
    obtain ⟨r7, h6, h⟩ := zo_some h
    obtain ⟨hg8, h⟩ := zg_some h
    by_cases hc9 : r7 < 0
    · rw [if_pos hc9] at h
      cases h
      exact (zfr_tr (zfr_tr f3 (zfr_I rfl)) (zfr_I rfl))
    · rw [if_neg hc9] at h
      cases h
      exact (zfr_tr (zfr_tr f3 (zfr_I rfl)) (zfr_I rfl))
  · cases h
    exact zfr_tr (zfr_rf _ _) (frl_68_41 h2)
theorem fr_68 {s : zS} {q : (Unit × zS)} (h : f_68 s = some q) : zfr 256 s q.2 := by
  unfold f_68 at h
  obtain ⟨hg1, h⟩ := zg_some h
  obtain ⟨hg2, h⟩ := zg_some h
  by_cases hc3 : ((gI s 8 2) + 1) < (gI s 8 1)
  · rw [if_pos hc3] at h
    obtain ⟨hg4, h⟩ := zg_some h
    exact zfr_tr (zfr_rf _ _) (frj_68_38 h)
  · rw [if_neg hc3] at h
    exact zfr_tr (zfr_rf _ _) (frj_68_38 h)
theorem frb_67_5 {s : zS} {q : (zS) ⊕ (zS)} (h : b_67_5 s = some q) : zfr 256 s (Sum.elim (fun e : (zS) => e) (fun e : (zS) => e) q) := by
  unfold b_67_5 at h
  by_cases hc1 : (gI s 8 2) < (gI s 8 1)
  · rw [if_pos hc1] at h
    obtain ⟨hg2, h⟩ := zg_some h
    obtain ⟨r4, h3, h⟩ := zo_some h
    obtain ⟨hg5, h⟩ := zg_some h
    by_cases hc6 : r4 = 0
    · rw [if_pos hc6] at h
      cases h
      exact (zfr_rf _ _)
    · rw [if_neg hc6] at h
      cases h
      exact (zfr_tr (zfr_tr (zfr_rf _ _) (zfr_I rfl)) (zfr_I rfl))
  · rw [if_neg hc1] at h
    cases h
    exact (zfr_rf _ _)
theorem frl_67_5 {n : Nat} {e0 : (zS)} {t : (zS)} (h : zlp (fun (q : zS) => b_67_5 q) n e0 = some t) : zfr 256 ((fun e : (zS) => e) e0) ((fun e : (zS) => e) t) := zfr_lp (f := (fun e : (zS) => e)) (g := (fun e : (zS) => e)) (fun e q h1 => frb_67_5 h1) n e0 t h
theorem fr_67 {s : zS} {q : (Unit × zS)} (h : f_67 s = some q) : zfr 256 s q.2 := by
  unfold f_67 at h
  obtain ⟨e1, h2, h⟩ := zo_some h
  have f3 : zfr 256 s e1 := zfr_tr (zfr_tr (zfr_rf _ _) (zfr_I rfl)) (frl_67_5 h2)
  obtain ⟨hg4, h⟩ := zg_some h
  by_cases hc5 : 3 < ((gI e1 8 2) - (gI e1 8 5))
  · rw [if_pos hc5] at h
    cases h
    exact (zfr_tr f3 (zfr_I rfl))
  · rw [if_neg hc5] at h
    cases h
    exact (zfr_tr f3 (zfr_I rfl))
theorem fr_64 {s : zS} {q : (Unit × zS)} (h : f_64 s = some q) : zfr 256 s q.2 := by
  unfold f_64 at h
  obtain ⟨r2, h1, h⟩ := zo_some h
  obtain ⟨r4, h3, h⟩ := zo_some h
  obtain ⟨hg5, h⟩ := zg_some h
  by_cases hc6 : 7 < ((gI (sI s 8 2 r2) 8 2) - (gI s 8 5))
  · rw [if_pos hc6] at h
    by_cases hc7 : (gI (sI (sJ (sI s 8 2 r2) 8 6 r4) 8 4 1) 8 4) = 2
    · rw [if_pos hc7] at h
      by_cases hc8 : 6 < ((gI (sI s 8 2 r2) 8 2) - (gI s 8 5))
      · rw [if_pos hc8] at h
        cases h
        exact (zfr_tr (zfr_tr (zfr_tr (zfr_tr (zfr_rf _ _) (zfr_I rfl)) (zfr_J rfl)) (zfr_I rfl)) (zfr_I rfl))
      · rw [if_neg hc8] at h
        cases h
        exact (zfr_tr (zfr_tr (zfr_tr (zfr_rf _ _) (zfr_I rfl)) (zfr_J rfl)) (zfr_I rfl))
    · rw [if_neg hc7] at h
      cases h
      exact (zfr_tr (zfr_tr (zfr_tr (zfr_rf _ _) (zfr_I rfl)) (zfr_J rfl)) (zfr_I rfl))
  · rw [if_neg hc6] at h
    obtain ⟨r10, h9, h⟩ := zo_some h
    by_cases hc11 : (gI (sI (sJ (sI s 8 2 r2) 8 6 r4) 8 4 r10) 8 4) = 2
    · rw [if_pos hc11] at h
      by_cases hc12 : 6 < ((gI (sI s 8 2 r2) 8 2) - (gI s 8 5))
      · rw [if_pos hc12] at h
        cases h
        exact (zfr_tr (zfr_tr (zfr_tr (zfr_tr (zfr_rf _ _) (zfr_I rfl)) (zfr_J rfl)) (zfr_I rfl)) (zfr_I rfl))
      · rw [if_neg hc12] at h
        cases h
        exact (zfr_tr (zfr_tr (zfr_tr (zfr_rf _ _) (zfr_I rfl)) (zfr_J rfl)) (zfr_I rfl))
    · rw [if_neg hc11] at h
      cases h
      exact (zfr_tr (zfr_tr (zfr_tr (zfr_rf _ _) (zfr_I rfl)) (zfr_J rfl)) (zfr_I rfl))
theorem fr_62 {s : zS} {q : (Unit × zS)} (h : f_62 s = some q) : zfr 256 s q.2 := by
  unfold f_62 at h
  obtain ⟨r2, h1, h⟩ := zo_some h
  by_cases hc3 : (gI (sI s 8 2 r2) 8 2) < (gI s 8 1)
  · rw [if_pos hc3] at h
    obtain ⟨hg4, h⟩ := zg_some h
    obtain ⟨r6, h5, h⟩ := zo_some h
    obtain ⟨hg7, h⟩ := zg_some h
    by_cases hc8 : r6 = 0
    · rw [if_pos hc8] at h
      obtain ⟨r10, h9, h⟩ := zo_some h
      obtain ⟨hg11, h⟩ := zg_some h
      by_cases hc12 : r10 = 0
      · rw [if_pos hc12] at h
        obtain ⟨r14, s15, h13, h⟩ := zb_some h
        have f16 := zfr_tr (zfr_tr (zfr_tr (zfr_tr (zfr_rf _ _) (zfr_I rfl)) (zfr_I rfl)) (zfr_I rfl)) (zfr_sub (m2 := 256) rfl (fr_68 h13))
        cases h
        exact f16
      · rw [if_neg hc12] at h
        obtain ⟨r18, s19, h17, h⟩ := zb_some h
        have f20 := zfr_tr (zfr_tr (zfr_tr (zfr_tr (zfr_rf _ _) (zfr_I rfl)) (zfr_I rfl)) (zfr_I rfl)) (zfr_sub (m2 := 256) rfl (fr_67 h17))
        cases h
        exact f20
    · rw [if_neg hc8] at h
      obtain ⟨r22, s23, h21, h⟩ := zb_some h
      have f24 := zfr_tr (zfr_tr (zfr_tr (zfr_tr (zfr_rf _ _) (zfr_I rfl)) (zfr_I rfl)) (zfr_I rfl)) (zfr_sub (m2 := 256) rfl (fr_64 h21))
      cases h
      exact f24
  · rw [if_neg hc3] at h
    cases h
    exact (zfr_tr (zfr_tr (zfr_tr (zfr_rf _ _) (zfr_I rfl)) (zfr_I rfl)) (zfr_I rfl))
theorem fr_74 {v1 : Int} {v2 : Int} {s : zS} {q : (Unit × zS)} (h : f_74 v1 v2 s = some q) : zfr 1024 s q.2 := by
  unfold f_74 at h
  cases h
  exact (zfr_tr (zfr_tr (zfr_rf _ _) (zfr_I rfl)) (zfr_I rfl))
theorem fr_139 {c0 : Nat} {v1 : Int} {v2 : Int} {v3 : Int} {s : zS} {q : (Int × zS)} (h : f_139 c0 v1 v2 v3 s = some q) : zfr 11972621413014756705924586149611790497021398855188480 s q.2 := by
  unfold f_139 at h
  obtain ⟨hg1, h⟩ := zg_some h
  by_cases hc2 : (gI s c0 0) < 200
  · rw [if_pos hc2] at h
    obtain ⟨hg3, h⟩ := zg_some h
    obtain ⟨hg4, h⟩ := zg_some h
    obtain ⟨hg5, h⟩ := zg_some h
    obtain ⟨hg6, h⟩ := zg_some h
    obtain ⟨hg7, h⟩ := zg_some h
    obtain ⟨hg8, h⟩ := zg_some h
    obtain ⟨hg9, h⟩ := zg_some h
    cases h
    exact (zfr_tr (zfr_tr (zfr_tr (zfr_tr (zfr_tr (zfr_tr (zfr_tr (zfr_tr (zfr_rf _ _) (zfr_IC rfl (j := 1) rfl hg1)) (zfr_IC rfl (j := 2) rfl hg1)) (zfr_IC rfl (j := 3) rfl hg1)) (zfr_IC rfl (j := 4) rfl hg1)) (zfr_IC rfl (j := 5) rfl hg1)) (zfr_IC rfl (j := 6) rfl hg1)) (zfr_IC rfl (j := 7) rfl hg1)) (zfr_IC0 rfl hg1))
  · rw [if_neg hc2] at h
    cases h
    exact (zfr_rf _ _)
theorem fr_76 {v1 : Int} {s : zS} {q : (Int × zS)} (h : f_76 v1 s = some q) : zfr 11972621413014756705924586149611790497021398855252992 s q.2 := by
  unfold f_76 at h
  by_cases hc1 : (gI s 10 8) < 20
  · rw [if_pos hc1] at h
    obtain ⟨hg2, h⟩ := zg_some h
    obtain ⟨r4, h3, h⟩ := zo_some h
    obtain ⟨hg5, h⟩ := zg_some h
    by_cases hc6 : r4 = 0
    · rw [if_pos hc6] at h
      cases h
      exact (zfr_tr (zfr_tr (zfr_tr (zfr_tr (zfr_tr (zfr_tr (zfr_tr (zfr_rf _ _) (zfr_I rfl)) (zfr_I rfl)) (zfr_I rfl)) (zfr_I rfl)) (zfr_I rfl)) (zfr_I rfl)) (zfr_I rfl))
    · rw [if_neg hc6] at h
      obtain ⟨hg7, h⟩ := zg_some h
      obtain ⟨r9, s10, h8, h⟩ := zb_some h
      have f11 := zfr_tr (zfr_tr (zfr_tr (zfr_tr (zfr_tr (zfr_rf _ _) (zfr_I rfl)) (zfr_I rfl)) (zfr_I rfl)) (zfr_I rfl)) (zfr_sub (m2 := 11972621413014756705924586149611790497021398855252992) rfl (fr_139 h8))
      cases h
      exact (zfr_tr (zfr_tr (zfr_tr f11 (zfr_I rfl)) (zfr_I rfl)) (zfr_I rfl))
  · rw [if_neg hc1] at h
    obtain ⟨r13, s14, h12, h⟩ := zb_some h
    have f15 := zfr_tr (zfr_rf _ _) (zfr_sub (m2 := 11972621413014756705924586149611790497021398855252992) rfl (fr_74 h12))
    cases h
    exact f15
theorem fr_77 {v1 : Int} {s : zS} {q : (Unit × zS)} (h : f_77 v1 s = some q) : zfr 11972621413014756705924586149611790497021398855252992 s q.2 := by
  unfold f_77 at h
  obtain ⟨r2, s3, h1, h⟩ := zb_some h
  have f4 := zfr_tr (zfr_rf _ _) (zfr_sub (m2 := 11972621413014756705924586149611790497021398855252992) rfl (fr_76 h1))
  obtain ⟨hg5, h⟩ := zg_some h
  by_cases hc6 : r2 = 0
  · rw [if_pos hc6] at h
    cases h
    exact f4
  · rw [if_neg hc6] at h
    obtain ⟨hg7, h⟩ := zg_some h
    obtain ⟨hg8, h⟩ := zg_some h
    obtain ⟨r10, s11, h9, h⟩ := zb_some h
    have f12 := zfr_tr (zfr_tr f4 (zfr_I rfl)) (zfr_sub (m2 := 11972621413014756705924586149611790497021398855252992) rfl (fr_139 h9))
    cases h
    exact (zfr_tr (zfr_tr f12 (zfr_I rfl)) (zfr_I rfl))
theorem fr_80 {v1 : Int} {s : zS} {q : (Unit × zS)} (h : f_80 v1 s = some q) : zfr 1024 s q.2 := by
  unfold f_80 at h
  cases h
  exact (zfr_tr (zfr_tr (zfr_rf _ _) (zfr_I rfl)) (zfr_I rfl))
theorem fr_79 {v1 : Int} {v2 : Int} {v3 : Int} {s : zS} {q : (Unit × zS)} (h : f_79 v1 v2 v3 s = some q) : zfr 11972621413014756705924586149611790497021398855189504 s q.2 := by
  unfold f_79 at h
  obtain ⟨hg1, h⟩ := zg_some h
  obtain ⟨r3, s4, h2, h⟩ := zb_some h
  have f5 := zfr_tr (zfr_rf _ _) (zfr_sub (m2 := 11972621413014756705924586149611790497021398855189504) rfl (fr_139 h2))
  obtain ⟨r7, s8, h6, h⟩ := zb_some h
  have f9 := zfr_tr f5 (zfr_sub (m2 := 11972621413014756705924586149611790497021398855189504) rfl (fr_80 h6))
  cases h
  exact f9
theorem frb_78_7 {v1 : Int} {s : zS} {q : (Int × zS) ⊕ ((zS) ⊕ (Unit × zS))} (h : b_78_7 v1 s = some q) : zfr 11972621413014756705924586149611790497021398855189504 s (Sum.elim (fun e : (Int × zS) => e.2) (fun t : ((zS) ⊕ (Unit × zS)) => Sum.elim (fun e : (zS) => e) (fun q => q.2) t) q) := by
  unfold b_78_7 at h
  obtain ⟨hg1, h⟩ := zg_some h
  by_cases hc2 : v1 < 0
  · rw [if_pos hc2] at h
    cases h
    exact (zfr_rf _ _)
  · rw [if_neg hc2] at h
    obtain ⟨hg3, h⟩ := zg_some h
    by_cases hc4 : (gI s 12 v1) = 2
    · rw [if_pos hc4] at h
      by_cases hc5 : (gJ s 16 v1) = (gJ s 8 6)
      · rw [if_pos hc5] at h
        obtain ⟨r7, s8, h6, h⟩ := zb_some h
        have f9 := zfr_tr (zfr_rf _ _) (zfr_sub (m2 := 11972621413014756705924586149611790497021398855189504) rfl (fr_79 h6))
        cases h
        exact f9
      · rw [if_neg hc5] at h
        cases h
        exact (zfr_rf _ _)
    · rw [if_neg hc4] at h
      cases h
      exact (zfr_rf _ _)
theorem frl_78_7 {n : Nat} {e0 : (Int × zS)} {t : ((zS) ⊕ (Unit × zS))} (h : zlp (fun (q : Int × zS) => b_78_7 q.1 q.2) n e0 = some t) : zfr 11972621413014756705924586149611790497021398855189504 ((fun e : (Int × zS) => e.2) e0) ((fun t : ((zS) ⊕ (Unit × zS)) => Sum.elim (fun e : (zS) => e) (fun q => q.2) t) t) := zfr_lp (f := (fun e : (Int × zS) => e.2)) (g := (fun t : ((zS) ⊕ (Unit × zS)) => Sum.elim (fun e : (zS) => e) (fun q => q.2) t)) (fun e q h1 => frb_78_7 h1) n e0 t h
theorem fr_78 {s : zS} {q : (Unit × zS)} (h : f_78 s = some q) : zfr 11972621413014756705924586149611790497021398855189504 s q.2 := by
  unfold f_78 at h
  obtain ⟨e1, h2, h⟩ := zo_some h
  rcases e1 with e4 | q5
  · simp only [ze_l] at h
    have f3 : zfr 11972621413014756705924586149611790497021398855189504 s e4 := zfr_tr (zfr_rf _ _) (frl_78_7 h2)
    obtain ⟨r7, h6, h⟩ := zo_some h
    obtain ⟨hg8, h⟩ := zg_some h
    by_cases hc9 : r7 = (-1)
    · rw [if_pos hc9] at h
      obtain ⟨r11, s12, h10, h⟩ := zb_some h
      have f13 := zfr_tr f3 (zfr_sub (m2 := 11972621413014756705924586149611790497021398855189504) rfl (fr_74 h10))
      cases h
      exact f13
    · rw [if_neg hc9] at h
      obtain ⟨hg14, h⟩ := zg_some h
      obtain ⟨r16, s17, h15, h⟩ := zb_some h
      have f18 := zfr_tr f3 (zfr_sub (m2 := 11972621413014756705924586149611790497021398855189504) rfl (fr_79 h15))
      cases h
      exact f18
  · cases h
    exact zfr_tr (zfr_rf _ _) (frl_78_7 h2)
theorem fr_83 {s : zS} {q : (Unit × zS)} (h : f_83 s = some q) : zfr 1024 s q.2 := by
  unfold f_83 at h
  by_cases hc1 : (gI s 8 4) = 0
  · rw [if_pos hc1] at h
    obtain ⟨r3, s4, h2, h⟩ := zb_some h
    have f5 := zfr_tr (zfr_rf _ _) (zfr_sub (m2 := 1024) rfl (fr_74 h2))
    cases h
    exact f5
  · rw [if_neg hc1] at h
    obtain ⟨r7, s8, h6, h⟩ := zb_some h
    have f9 := zfr_tr (zfr_rf _ _) (zfr_sub (m2 := 1024) rfl (fr_74 h6))
    cases h
    exact f9
theorem fr_82 {v1 : Int} {s : zS} {q : (Unit × zS)} (h : f_82 v1 s = some q) : zfr 11972621413014756705924586149611790497021398855252992 s q.2 := by
  unfold f_82 at h
  obtain ⟨hg1, h⟩ := zg_some h
  by_cases hc2 : t_82_1 v1 = 152
  · rw [if_pos hc2] at h
    obtain ⟨r4, s5, h3, h⟩ := zb_some h
    have f6 := zfr_tr (zfr_rf _ _) (zfr_sub (m2 := 11972621413014756705924586149611790497021398855252992) rfl (fr_76 h3))
    cases h
    exact f6
  · rw [if_neg hc2] at h
    by_cases hc7 : t_82_1 v1 = 161
    · rw [if_pos hc7] at h
      obtain ⟨r9, s10, h8, h⟩ := zb_some h
      have f11 := zfr_tr (zfr_rf _ _) (zfr_sub (m2 := 11972621413014756705924586149611790497021398855252992) rfl (fr_79 h8))
      cases h
      exact f11
    · rw [if_neg hc7] at h
      by_cases hc12 : t_82_1 v1 = 171
      · rw [if_pos hc12] at h
        obtain ⟨r14, s15, h13, h⟩ := zb_some h
        have f16 := zfr_tr (zfr_rf _ _) (zfr_sub (m2 := 11972621413014756705924586149611790497021398855252992) rfl (fr_77 h13))
        cases h
        exact f16
      · rw [if_neg hc12] at h
        by_cases hc17 : t_82_1 v1 = 179
        · rw [if_pos hc17] at h
          obtain ⟨r19, h18, h⟩ := zo_some h
          obtain ⟨hg20, h⟩ := zg_some h
          by_cases hc21 : r19 = 0
          · rw [if_pos hc21] at h
            obtain ⟨r23, s24, h22, h⟩ := zb_some h
            have f25 := zfr_tr (zfr_rf _ _) (zfr_sub (m2 := 11972621413014756705924586149611790497021398855252992) rfl (fr_76 h22))
            cases h
            exact f25
          · rw [if_neg hc21] at h
            obtain ⟨r27, s28, h26, h⟩ := zb_some h
            have f29 := zfr_tr (zfr_rf _ _) (zfr_sub (m2 := 11972621413014756705924586149611790497021398855252992) rfl (fr_77 h26))
            cases h
            exact f29
        · rw [if_neg hc17] at h
          by_cases hc30 : t_82_1 v1 = 206
          · rw [if_pos hc30] at h
            obtain ⟨r32, s33, h31, h⟩ := zb_some h
            have f34 := zfr_tr (zfr_rf _ _) (zfr_sub (m2 := 11972621413014756705924586149611790497021398855252992) rfl (fr_83 h31))
            cases h
            exact f34
          · rw [if_neg hc30] at h
            cases h
theorem fr_75 {v1 : Int} {s : zS} {q : (Unit × zS)} (h : f_75 v1 s = some q) : zfr 11972621413014756705924586149611790497021398855252992 s q.2 := by
  unfold f_75 at h
  obtain ⟨hg1, h⟩ := zg_some h
  by_cases hc2 : t_75_1 v1 = 84
  · rw [if_pos hc2] at h
    obtain ⟨r4, s5, h3, h⟩ := zb_some h
    have f6 := zfr_tr (zfr_rf _ _) (zfr_sub (m2 := 11972621413014756705924586149611790497021398855252992) rfl (fr_76 h3))
    cases h
    exact f6
  · rw [if_neg hc2] at h
    by_cases hc7 : t_75_1 v1 = 93
    · rw [if_pos hc7] at h
      obtain ⟨r9, s10, h8, h⟩ := zb_some h
      have f11 := zfr_tr (zfr_rf _ _) (zfr_sub (m2 := 11972621413014756705924586149611790497021398855252992) rfl (fr_77 h8))
      cases h
      exact f11
    · rw [if_neg hc7] at h
      by_cases hc12 : t_75_1 v1 = 101
      · rw [if_pos hc12] at h
        obtain ⟨r14, s15, h13, h⟩ := zb_some h
        have f16 := zfr_tr (zfr_rf _ _) (zfr_sub (m2 := 11972621413014756705924586149611790497021398855252992) rfl (fr_78 h13))
        cases h
        exact f16
      · rw [if_neg hc12] at h
        by_cases hc17 : t_75_1 v1 = 108
        · rw [if_pos hc17] at h
          obtain ⟨r19, s20, h18, h⟩ := zb_some h
          have f21 := zfr_tr (zfr_rf _ _) (zfr_sub (m2 := 11972621413014756705924586149611790497021398855252992) rfl (fr_79 h18))
          cases h
          exact f21
        · rw [if_neg hc17] at h
          by_cases hc22 : t_75_1 v1 = 118
          · rw [if_pos hc22] at h
            obtain ⟨r24, s25, h23, h⟩ := zb_some h
            have f26 := zfr_tr (zfr_rf _ _) (zfr_sub (m2 := 11972621413014756705924586149611790497021398855252992) rfl (fr_79 h23))
            cases h
            exact f26
          · rw [if_neg hc22] at h
            by_cases hc27 : t_75_1 v1 = 128
            · rw [if_pos hc27] at h
              obtain ⟨r29, h28, h⟩ := zo_some h
              obtain ⟨hg30, h⟩ := zg_some h
              by_cases hc31 : r29 = 0
              · rw [if_pos hc31] at h
                obtain ⟨r33, s34, h32, h⟩ := zb_some h
                have f35 := zfr_tr (zfr_rf _ _) (zfr_sub (m2 := 11972621413014756705924586149611790497021398855252992) rfl (fr_83 h32))
                cases h
                exact f35
              · rw [if_neg hc31] at h
                obtain ⟨r37, s38, h36, h⟩ := zb_some h
                have f39 := zfr_tr (zfr_rf _ _) (zfr_sub (m2 := 11972621413014756705924586149611790497021398855252992) rfl (fr_82 h36))
                cases h
                exact f39
            · rw [if_neg hc27] at h
              cases h
theorem fr_84 {v1 : Int} {s : zS} {q : (Unit × zS)} (h : f_84 v1 s = some q) : zfr 66560 s q.2 := by
  unfold f_84 at h
  obtain ⟨hg1, h⟩ := zg_some h
  by_cases hc2 : v1 = 2
  · rw [if_pos hc2] at h
    by_cases hc3 : (gI s 10 8) = 0
    · rw [if_pos hc3] at h
      obtain ⟨r5, s6, h4, h⟩ := zb_some h
      have f7 := zfr_tr (zfr_rf _ _) (zfr_sub (m2 := 66560) rfl (fr_83 h4))
      cases h
      exact f7
    · rw [if_neg hc3] at h
      obtain ⟨hg8, h⟩ := zg_some h
      cases h
      exact (zfr_tr (zfr_tr (zfr_rf _ _) (zfr_J rfl)) (zfr_I rfl))
  · rw [if_neg hc2] at h
    obtain ⟨r10, s11, h9, h⟩ := zb_some h
    have f12 := zfr_tr (zfr_rf _ _) (zfr_sub (m2 := 66560) rfl (fr_83 h9))
    cases h
    exact f12
theorem fr_85 {v1 : Int} {s : zS} {q : (Unit × zS)} (h : f_85 v1 s = some q) : zfr 1024 s q.2 := by
  unfold f_85 at h
  obtain ⟨hg1, h⟩ := zg_some h
  by_cases hc2 : v1 = 41
  · rw [if_pos hc2] at h
    cases h
    exact (zfr_tr (zfr_rf _ _) (zfr_I rfl))
  · rw [if_neg hc2] at h
    obtain ⟨r4, s5, h3, h⟩ := zb_some h
    have f6 := zfr_tr (zfr_rf _ _) (zfr_sub (m2 := 1024) rfl (fr_83 h3))
    cases h
    exact f6
theorem fr_86 {v1 : Int} {s : zS} {q : (Unit × zS)} (h : f_86 v1 s = some q) : zfr 11972621413014756705924586149611790497021398855189504 s q.2 := by
  unfold f_86 at h
  obtain ⟨hg1, h⟩ := zg_some h
  by_cases hc2 : v1 = 3
  · rw [if_pos hc2] at h
    by_cases hc3 : (gI s 10 8) = 0
    · rw [if_pos hc3] at h
      obtain ⟨r5, s6, h4, h⟩ := zb_some h
      have f7 := zfr_tr (zfr_rf _ _) (zfr_sub (m2 := 11972621413014756705924586149611790497021398855189504) rfl (fr_83 h4))
      cases h
      exact f7
    · rw [if_neg hc3] at h
      obtain ⟨hg8, h⟩ := zg_some h
      obtain ⟨r10, s11, h9, h⟩ := zb_some h
      have f12 := zfr_tr (zfr_tr (zfr_rf _ _) (zfr_I rfl)) (zfr_sub (m2 := 11972621413014756705924586149611790497021398855189504) rfl (fr_139 h9))
      obtain ⟨r14, s15, h13, h⟩ := zb_some h
      have f16 := zfr_tr f12 (zfr_sub (m2 := 11972621413014756705924586149611790497021398855189504) rfl (fr_80 h13))
      cases h
      exact f16
  · rw [if_neg hc2] at h
    obtain ⟨r18, s19, h17, h⟩ := zb_some h
    have f20 := zfr_tr (zfr_rf _ _) (zfr_sub (m2 := 11972621413014756705924586149611790497021398855189504) rfl (fr_83 h17))
    cases h
    exact f20
theorem frb_140_15 {c0 : Nat} {v1 : Int} {v2 : Int} {v3 : Int} {v4 : Int} {s : zS} {q : (Int × zS) ⊕ (zS)} (h : b_140_15 c0 v1 v2 v3 v4 s = some q) : zfr 11972621413014756705924586149611790497021398855188480 s (Sum.elim (fun e : (Int × zS) => e.2) (fun e : (zS) => e) q) := by
  unfold b_140_15 at h
  obtain ⟨hg1, h⟩ := zg_some h
  obtain ⟨hg2, h⟩ := zg_some h
  by_cases hc3 : v4 < (gI s c0 0)
  · rw [if_pos hc3] at h
    obtain ⟨hg4, h⟩ := zg_some h
    by_cases hc5 : (gI s (c0 + 1) v4) = 43
    · rw [if_pos hc5] at h
      obtain ⟨hg6, h⟩ := zg_some h
      by_cases hc7 : (gI s (c0 + 2) v4) < v2
      · rw [if_pos hc7] at h
        obtain ⟨hg8, h⟩ := zg_some h
        cases h
        exact (zfr_tr (zfr_rf _ _) (zfr_IC rfl (j := 6) rfl hg1))
      · rw [if_neg hc7] at h
        cases h
        exact (zfr_rf _ _)
    · rw [if_neg hc5] at h
      cases h
      exact (zfr_rf _ _)
  · rw [if_neg hc3] at h
    cases h
    exact (zfr_rf _ _)
theorem frl_140_15 {c0 : Nat} {v1 : Int} {v2 : Int} {v3 : Int} {n : Nat} {e0 : (Int × zS)} {t : (zS)} (h : zlp (fun (q : Int × zS) => b_140_15 c0 v1 v2 v3 q.1 q.2) n e0 = some t) : zfr 11972621413014756705924586149611790497021398855188480 ((fun e : (Int × zS) => e.2) e0) ((fun e : (zS) => e) t) := zfr_lp (f := (fun e : (Int × zS) => e.2)) (g := (fun e : (zS) => e)) (fun e q h1 => frb_140_15 h1) n e0 t h
theorem fr_140 {c0 : Nat} {v1 : Int} {v2 : Int} {v3 : Int} {s : zS} {q : (Unit × zS)} (h : f_140 c0 v1 v2 v3 s = some q) : zfr 11972621413014756705924586149611790497021398855188480 s q.2 := by
  unfold f_140 at h
  obtain ⟨hg1, h⟩ := zg_some h
  obtain ⟨hg2, h⟩ := zg_some h
  obtain ⟨e3, h4, h⟩ := zo_some h
  have f5 : zfr 11972621413014756705924586149611790497021398855188480 s e3 := zfr_tr (zfr_tr (zfr_rf _ _) (zfr_IC rfl (j := 5) rfl hg1)) (frl_140_15 h4)
  obtain ⟨hg6, h⟩ := zg_some h
  by_cases hc7 : (gI e3 (c0 + 6) v1) = v3
  · rw [if_pos hc7] at h
    cases h
    exact f5
  · rw [if_neg hc7] at h
    obtain ⟨r9, h8, h⟩ := zo_some h
    obtain ⟨hg10, h⟩ := zg_some h
    by_cases hc11 : 2 < r9
    · rw [if_pos hc11] at h
      cases h
      exact f5
    · rw [if_neg hc11] at h
      by_cases hc12 : (gI e3 c0 8) < 40
      · rw [if_pos hc12] at h
        cases h
        exact (zfr_tr (zfr_tr f5 (zfr_IC rfl (j := 7) rfl hg1)) (zfr_IC0 rfl hg1))
      · rw [if_neg hc12] at h
        cases h
        exact f5
theorem fr_93 {s : zS} {q : (Unit × zS)} (h : f_93 s = some q) : zfr 11972621413014756705924586149611790497021398855189504 s q.2 := by
  unfold f_93 at h
  obtain ⟨hg1, h⟩ := zg_some h
  obtain ⟨hg2, h⟩ := zg_some h
  obtain ⟨r4, h3, h⟩ := zo_some h
  obtain ⟨r6, s7, h5, h⟩ := zb_some h
  have f8 := zfr_tr (zfr_rf _ _) (zfr_sub (m2 := 11972621413014756705924586149611790497021398855189504) rfl (fr_140 h5))
  by_cases hc9 : (gI s7 11 ((gI s 10 8) - 1)) = 39
  · rw [if_pos hc9] at h
    cases h
    exact (zfr_tr (zfr_tr f8 (zfr_I rfl)) (zfr_I rfl))
  · rw [if_neg hc9] at h
    cases h
    exact (zfr_tr (zfr_tr f8 (zfr_I rfl)) (zfr_I rfl))
theorem fr_95 {v1 : Int} {s : zS} {q : (Unit × zS)} (h : f_95 v1 s = some q) : zfr 11972621413014756705924586149611790497021398855189504 s q.2 := by
  unfold f_95 at h
  obtain ⟨hg1, h⟩ := zg_some h
  obtain ⟨r3, h2, h⟩ := zo_some h
  obtain ⟨hg4, h⟩ := zg_some h
  by_cases hc5 : r3 = (-1)
  · rw [if_pos hc5] at h
    obtain ⟨r7, s8, h6, h⟩ := zb_some h
    have f9 := zfr_tr (zfr_rf _ _) (zfr_sub (m2 := 11972621413014756705924586149611790497021398855189504) rfl (fr_74 h6))
    cases h
    exact f9
  · rw [if_neg hc5] at h
    obtain ⟨hg10, h⟩ := zg_some h
    obtain ⟨r12, s13, h11, h⟩ := zb_some h
    have f14 := zfr_tr (zfr_rf _ _) (zfr_sub (m2 := 11972621413014756705924586149611790497021398855189504) rfl (fr_139 h11))
    cases h
    exact (zfr_tr f14 (zfr_I rfl))
theorem fr_92 {s : zS} {q : (Unit × zS)} (h : f_92 s = some q) : zfr 11972621413014756705924586149611790497021398855189504 s q.2 := by
  unfold f_92 at h
  obtain ⟨hg1, h⟩ := zg_some h
  by_cases hc2 : ((gI s 10 8) - 1) < 0
  · rw [if_pos hc2] at h
    cases h
    exact (zfr_rf _ _)
  · rw [if_neg hc2] at h
    obtain ⟨hg3, h⟩ := zg_some h
    by_cases hc4 : (gI s 12 ((gI s 10 8) - 1)) = 2
    · rw [if_pos hc4] at h
      obtain ⟨r6, s7, h5, h⟩ := zb_some h
      have f8 := zfr_tr (zfr_rf _ _) (zfr_sub (m2 := 11972621413014756705924586149611790497021398855189504) rfl (fr_93 h5))
      cases h
      exact f8
    · rw [if_neg hc4] at h
      obtain ⟨r10, h9, h⟩ := zo_some h
      obtain ⟨hg11, h⟩ := zg_some h
      by_cases hc12 : r10 = 0
      · rw [if_pos hc12] at h
        obtain ⟨r14, s15, h13, h⟩ := zb_some h
        have f16 := zfr_tr (zfr_rf _ _) (zfr_sub (m2 := 11972621413014756705924586149611790497021398855189504) rfl (fr_95 h13))
        cases h
        exact (zfr_tr f16 (zfr_I rfl))
      · rw [if_neg hc12] at h
        obtain ⟨hg17, h⟩ := zg_some h
        obtain ⟨hg18, h⟩ := zg_some h
        cases h
        exact (zfr_tr (zfr_tr (zfr_rf _ _) (zfr_IC rfl (j := 5) rfl hg17)) (zfr_I rfl))
theorem frb_87_2 {v1 : Int} {v2 : Int} {s : zS} {q : (Int × zS) ⊕ (zS)} (h : b_87_2 v1 v2 s = some q) : zfr 11972621413014756705924586149611790497021398855252992 s (Sum.elim (fun e : (Int × zS) => e.2) (fun e : (zS) => e) q) := by
  unfold b_87_2 at h
  obtain ⟨hg1, h⟩ := zg_some h
  by_cases hc2 : v2 < 20
  · rw [if_pos hc2] at h
    by_cases hc3 : (gI s 10 15) = 0
    · rw [if_pos hc3] at h
      obtain ⟨r5, h4, h⟩ := zo_some h
      obtain ⟨hg6, h⟩ := zg_some h
      by_cases hc7 : r5 = 0
      · rw [if_pos hc7] at h
        cases h
        exact (zfr_rf _ _)
      · rw [if_neg hc7] at h
        obtain ⟨r9, s10, h8, h⟩ := zb_some h
        have f11 := zfr_tr (zfr_rf _ _) (zfr_sub (m2 := 11972621413014756705924586149611790497021398855252992) rfl (fr_92 h8))
        cases h
        exact f11
    · rw [if_neg hc3] at h
      cases h
      exact (zfr_rf _ _)
  · rw [if_neg hc2] at h
    cases h
    exact (zfr_rf _ _)
theorem frl_87_2 {v1 : Int} {n : Nat} {e0 : (Int × zS)} {t : (zS)} (h : zlp (fun (q : Int × zS) => b_87_2 v1 q.1 q.2) n e0 = some t) : zfr 11972621413014756705924586149611790497021398855252992 ((fun e : (Int × zS) => e.2) e0) ((fun e : (zS) => e) t) := zfr_lp (f := (fun e : (Int × zS) => e.2)) (g := (fun e : (zS) => e)) (fun e q h1 => frb_87_2 h1) n e0 t h
theorem fr_98 {v1 : Int} {s : zS} {q : (Unit × zS)} (h : f_98 v1 s = some q) : zfr 1024 s q.2 := by
  unfold f_98 at h
  obtain ⟨r2, h1, h⟩ := zo_some h
  obtain ⟨hg3, h⟩ := zg_some h
  by_cases hc4 : r2 = 0
  · rw [if_pos hc4] at h
    obtain ⟨hg5, h⟩ := zg_some h
    by_cases hc6 : v1 = 0
    · rw [if_pos hc6] at h
      cases h
      exact (zfr_tr (zfr_rf _ _) (zfr_I rfl))
    · rw [if_neg hc6] at h
      obtain ⟨r8, s9, h7, h⟩ := zb_some h
      have f10 := zfr_tr (zfr_rf _ _) (zfr_sub (m2 := 1024) rfl (fr_74 h7))
      cases h
      exact f10
  · rw [if_neg hc4] at h
    obtain ⟨r12, s13, h11, h⟩ := zb_some h
    have f14 := zfr_tr (zfr_rf _ _) (zfr_sub (m2 := 1024) rfl (fr_83 h11))
    cases h
    exact f14
theorem fr_99 {v1 : Int} {s : zS} {q : (Unit × zS)} (h : f_99 v1 s = some q) : zfr 11972621413014756705924586149611790497021398855193600 s q.2 := by
  unfold f_99 at h
  by_cases hc1 : (gI s 10 6) = 1
  · rw [if_pos hc1] at h
    obtain ⟨hg2, h⟩ := zg_some h
    by_cases hc3 : v1 = 42
    · rw [if_pos hc3] at h
      obtain ⟨hg4, h⟩ := zg_some h
      obtain ⟨hg5, h⟩ := zg_some h
      obtain ⟨hg6, h⟩ := zg_some h
      cases h
      exact (zfr_tr (zfr_tr (zfr_tr (zfr_rf _ _) (zfr_I rfl)) (zfr_IC rfl (j := 4) rfl hg5)) (zfr_I rfl))
    · rw [if_neg hc3] at h
      obtain ⟨r8, s9, h7, h⟩ := zb_some h
      have f10 := zfr_tr (zfr_rf _ _) (zfr_sub (m2 := 11972621413014756705924586149611790497021398855193600) rfl (fr_83 h7))
      cases h
      exact f10
  · rw [if_neg hc1] at h
    obtain ⟨hg11, h⟩ := zg_some h
    obtain ⟨r13, s14, h12, h⟩ := zb_some h
    have f15 := zfr_tr (zfr_rf _ _) (zfr_sub (m2 := 11972621413014756705924586149611790497021398855193600) rfl (fr_74 h12))
    cases h
    exact f15
theorem frj_100_86 {v1 : Int} {v2 : Int} {s : zS} {q : (Unit × zS)} (h : j_100_86 v1 v2 s = some q) : zfr 11972621413014756705924586149611790497021398855189504 s q.2 := by
  unfold j_100_86 at h
  obtain ⟨hg1, h⟩ := zg_some h
  by_cases hc2 : v2 = 39
  · rw [if_pos hc2] at h
    obtain ⟨hg3, h⟩ := zg_some h
    by_cases hc4 : v1 = 40
    · rw [if_pos hc4] at h
      obtain ⟨r6, s7, h5, h⟩ := zb_some h
      have f8 := zfr_tr (zfr_rf _ _) (zfr_sub (m2 := 11972621413014756705924586149611790497021398855189504) rfl (fr_93 h5))
      cases h
      exact f8
    · rw [if_neg hc4] at h
      obtain ⟨r10, s11, h9, h⟩ := zb_some h
      have f12 := zfr_tr (zfr_rf _ _) (zfr_sub (m2 := 11972621413014756705924586149611790497021398855189504) rfl (fr_83 h9))
      cases h
      exact f12
  · rw [if_neg hc2] at h
    obtain ⟨r14, s15, h13, h⟩ := zb_some h
    have f16 := zfr_tr (zfr_rf _ _) (zfr_sub (m2 := 11972621413014756705924586149611790497021398855189504) rfl (fr_83 h13))
    cases h
    exact f16
theorem frj_100_61 {v1 : Int} {v2 : Int} {s : zS} {q : (Unit × zS)} (h : j_100_61 v1 v2 s = some q) : zfr 11972621413014756705924586149611790497021398855189504 s q.2 := by
  unfold j_100_61 at h
  obtain ⟨hg1, h⟩ := zg_some h
  by_cases hc2 : v2 = 37
  · rw [if_pos hc2] at h
    obtain ⟨hg3, h⟩ := zg_some h
    by_cases hc4 : v1 = 38
    · rw [if_pos hc4] at h
      cases h
      exact (zfr_tr (zfr_rf _ _) (zfr_I rfl))
    · rw [if_neg hc4] at h
      exact zfr_tr (zfr_rf _ _) (frj_100_86 h)
  · rw [if_neg hc2] at h
    exact zfr_tr (zfr_rf _ _) (frj_100_86 h)
theorem frj_100_49 {v1 : Int} {v2 : Int} {s : zS} {q : (Unit × zS)} (h : j_100_49 v1 v2 s = some q) : zfr 11972621413014756705924586149611790497021398855189504 s q.2 := by
  unfold j_100_49 at h
  obtain ⟨hg1, h⟩ := zg_some h
  by_cases hc2 : v2 = 35
  · rw [if_pos hc2] at h
    obtain ⟨hg3, h⟩ := zg_some h
    by_cases hc4 : v1 = 36
    · rw [if_pos hc4] at h
      cases h
      exact (zfr_tr (zfr_rf _ _) (zfr_I rfl))
    · rw [if_neg hc4] at h
      exact zfr_tr (zfr_rf _ _) (frj_100_61 h)
  · rw [if_neg hc2] at h
    exact zfr_tr (zfr_rf _ _) (frj_100_61 h)
theorem fr_100 {v1 : Int} {s : zS} {q : (Unit × zS)} (h : f_100 v1 s = some q) : zfr 11972621413014756705924586149611790497021398855189504 s q.2 := by
  unfold f_100 at h
  obtain ⟨hg1, h⟩ := zg_some h
  by_cases hc2 : (gI s 11 ((gI s 10 8) - 1)) = 31
  · rw [if_pos hc2] at h
    obtain ⟨hg3, h⟩ := zg_some h
    by_cases hc4 : v1 = 32
    · rw [if_pos hc4] at h
      cases h
      exact (zfr_tr (zfr_tr (zfr_rf _ _) (zfr_I rfl)) (zfr_I rfl))
    · rw [if_neg hc4] at h
      by_cases hc5 : v1 = 33
      · rw [if_pos hc5] at h
        cases h
        exact (zfr_tr (zfr_tr (zfr_rf _ _) (zfr_I rfl)) (zfr_I rfl))
      · rw [if_neg hc5] at h
        by_cases hc6 : v1 = 34
        · rw [if_pos hc6] at h
          cases h
          exact (zfr_tr (zfr_tr (zfr_rf _ _) (zfr_I rfl)) (zfr_I rfl))
        · rw [if_neg hc6] at h
          exact zfr_tr (zfr_rf _ _) (frj_100_49 h)
  · rw [if_neg hc2] at h
    exact zfr_tr (zfr_rf _ _) (frj_100_49 h)
theorem frj_87_33 {v1 : Int} {s : zS} {q : (Unit × zS)} (h : j_87_33 v1 s = some q) : zfr 11972621413014756705924586149611790497021398855252992 s q.2 := by
  unfold j_87_33 at h
  by_cases hc1 : (gI s 10 15) = 0
  · rw [if_pos hc1] at h
    obtain ⟨r3, h2, h⟩ := zo_some h
    obtain ⟨hg4, h⟩ := zg_some h
    by_cases hc5 : r3 = 0
    · rw [if_pos hc5] at h
      by_cases hc6 : (gI s 10 8) = 0
      · rw [if_pos hc6] at h
        obtain ⟨r8, s9, h7, h⟩ := zb_some h
        have f10 := zfr_tr (zfr_rf _ _) (zfr_sub (m2 := 11972621413014756705924586149611790497021398855252992) rfl (fr_98 h7))
        cases h
        exact f10
      · rw [if_neg hc6] at h
        obtain ⟨r12, h11, h⟩ := zo_some h
        obtain ⟨hg13, h⟩ := zg_some h
        by_cases hc14 : r12 = 0
        · rw [if_pos hc14] at h
          obtain ⟨hg15, h⟩ := zg_some h
          by_cases hc16 : (gI s 12 ((gI s 10 8) - 1)) = 1
          · rw [if_pos hc16] at h
            obtain ⟨r18, s19, h17, h⟩ := zb_some h
            have f20 := zfr_tr (zfr_rf _ _) (zfr_sub (m2 := 11972621413014756705924586149611790497021398855252992) rfl (fr_99 h17))
            cases h
            exact f20
          · rw [if_neg hc16] at h
            obtain ⟨r22, s23, h21, h⟩ := zb_some h
            have f24 := zfr_tr (zfr_rf _ _) (zfr_sub (m2 := 11972621413014756705924586149611790497021398855252992) rfl (fr_100 h21))
            cases h
            exact f24
        · rw [if_neg hc14] at h
          obtain ⟨r26, s27, h25, h⟩ := zb_some h
          have f28 := zfr_tr (zfr_rf _ _) (zfr_sub (m2 := 11972621413014756705924586149611790497021398855252992) rfl (fr_98 h25))
          cases h
          exact f28
    · rw [if_neg hc5] at h
      obtain ⟨r30, s31, h29, h⟩ := zb_some h
      have f32 := zfr_tr (zfr_rf _ _) (zfr_sub (m2 := 11972621413014756705924586149611790497021398855252992) rfl (fr_76 h29))
      cases h
      exact f32
  · rw [if_neg hc1] at h
    cases h
    exact (zfr_rf _ _)
theorem fr_87 {v1 : Int} {s : zS} {q : (Unit × zS)} (h : f_87 v1 s = some q) : zfr 11972621413014756705924586149611790497021398855252992 s q.2 := by
  unfold f_87 at h
  obtain ⟨e1, h2, h⟩ := zo_some h
  have f3 : zfr 11972621413014756705924586149611790497021398855252992 s e1 := zfr_tr (zfr_rf _ _) (frl_87_2 h2)
  exact zfr_tr f3 (frj_87_33 h)
theorem frb_73_46 {v3 : Int} {s : zS} {q : (Int × zS) ⊕ ((zS) ⊕ (Unit × zS))} (h : b_73_46 v3 s = some q) : zfr 11972621413014756705924586149611790497021398855318784 s (Sum.elim (fun e : (Int × zS) => e.2) (fun t : ((zS) ⊕ (Unit × zS)) => Sum.elim (fun e : (zS) => e) (fun q => q.2) t) q) := by
  unfold b_73_46 at h
  obtain ⟨hg1, h⟩ := zg_some h
  by_cases hc2 : 200 < v3
  · rw [if_pos hc2] at h
    cases h
    exact (zfr_rf _ _)
  · rw [if_neg hc2] at h
    by_cases hc3 : (gI s 10 15) = 0
    · rw [if_pos hc3] at h
      by_cases hc4 : (gI s 10 5) = 0
      · rw [if_pos hc4] at h
        obtain ⟨r6, s7, h5, h⟩ := zb_some h
        have f8 := zfr_tr (zfr_rf _ _) (zfr_sub (m2 := 11972621413014756705924586149611790497021398855318784) rfl (fr_62 h5))
        by_cases hc9 : (gI s7 8 4) = 1
        · rw [if_pos hc9] at h
          obtain ⟨r11, s12, h10, h⟩ := zb_some h
          have f13 := zfr_tr f8 (zfr_sub (m2 := 11972621413014756705924586149611790497021398855318784) rfl (fr_74 h10))
          cases h
          exact f13
        · rw [if_neg hc9] at h
          by_cases hc14 : 200 < (gI s7 8 3)
          · rw [if_pos hc14] at h
            obtain ⟨r16, s17, h15, h⟩ := zb_some h
            have f18 := zfr_tr f8 (zfr_sub (m2 := 11972621413014756705924586149611790497021398855318784) rfl (fr_74 h15))
            cases h
            exact f18
          · rw [if_neg hc14] at h
            by_cases hc19 : t_73_129 (gI s7 10 4) = 160
            · rw [if_pos hc19] at h
              obtain ⟨r21, s22, h20, h⟩ := zb_some h
              have f23 := zfr_tr f8 (zfr_sub (m2 := 11972621413014756705924586149611790497021398855318784) rfl (fr_75 h20))
              cases h
              exact f23
            · rw [if_neg hc19] at h
              by_cases hc24 : t_73_129 (gI s7 10 4) = 174
              · rw [if_pos hc24] at h
                obtain ⟨r26, s27, h25, h⟩ := zb_some h
                have f28 := zfr_tr f8 (zfr_sub (m2 := 11972621413014756705924586149611790497021398855318784) rfl (fr_84 h25))
                cases h
                exact f28
              · rw [if_neg hc24] at h
                by_cases hc29 : t_73_129 (gI s7 10 4) = 188
                · rw [if_pos hc29] at h
                  obtain ⟨r31, s32, h30, h⟩ := zb_some h
                  have f33 := zfr_tr f8 (zfr_sub (m2 := 11972621413014756705924586149611790497021398855318784) rfl (fr_85 h30))
                  cases h
                  exact f33
                · rw [if_neg hc29] at h
                  by_cases hc34 : t_73_129 (gI s7 10 4) = 202
                  · rw [if_pos hc34] at h
                    obtain ⟨r36, s37, h35, h⟩ := zb_some h
                    have f38 := zfr_tr f8 (zfr_sub (m2 := 11972621413014756705924586149611790497021398855318784) rfl (fr_86 h35))
                    cases h
                    exact f38
                  · rw [if_neg hc34] at h
                    by_cases hc39 : t_73_129 (gI s7 10 4) = 216
                    · rw [if_pos hc39] at h
                      obtain ⟨r41, s42, h40, h⟩ := zb_some h
                      have f43 := zfr_tr f8 (zfr_sub (m2 := 11972621413014756705924586149611790497021398855318784) rfl (fr_87 h40))
                      cases h
                      exact f43
                    · rw [if_neg hc39] at h
                      cases h
      · rw [if_neg hc4] at h
        cases h
        exact (zfr_rf _ _)
    · rw [if_neg hc3] at h
      cases h
      exact (zfr_rf _ _)
theorem frl_73_46 {n : Nat} {e0 : (Int × zS)} {t : ((zS) ⊕ (Unit × zS))} (h : zlp (fun (q : Int × zS) => b_73_46 q.1 q.2) n e0 = some t) : zfr 11972621413014756705924586149611790497021398855318784 ((fun e : (Int × zS) => e.2) e0) ((fun t : ((zS) ⊕ (Unit × zS)) => Sum.elim (fun e : (zS) => e) (fun q => q.2) t) t) := zfr_lp (f := (fun e : (Int × zS) => e.2)) (g := (fun t : ((zS) ⊕ (Unit × zS)) => Sum.elim (fun e : (zS) => e) (fun q => q.2) t)) (fun e q h1 => frb_73_46 h1) n e0 t h
theorem fr_73 {c1 : Nat} {v2 : Int} {s : zS} {q : (Unit × zS)} (h : f_73 c1 v2 s = some q) : zfr 11972621413014756705924586149611790497021398855318784 s q.2 := by
  unfold f_73 at h
  obtain ⟨hg1, h⟩ := zg_some h
  obtain ⟨hg2, h⟩ := zg_some h
  obtain ⟨r4, s5, h3, h⟩ := zb_some h
  have f6 := zfr_tr (zfr_tr (zfr_rf _ _) (zfr_P rfl)) (zfr_sub (m2 := 11972621413014756705924586149611790497021398855318784) rfl (fr_138 h3))
  obtain ⟨r8, s9, h7, h⟩ := zb_some h
  have f10 := zfr_tr f6 (zfr_sub (m2 := 11972621413014756705924586149611790497021398855318784) rfl (fr_61 h7))
  obtain ⟨hg11, h⟩ := zg_some h
  obtain ⟨e12, h13, h⟩ := zo_some h
  rcases e12 with e15 | q16
  · simp only [ze_l] at h
    have f14 : zfr 11972621413014756705924586149611790497021398855318784 s e15 := zfr_tr (zfr_tr (zfr_tr (zfr_tr (zfr_tr (zfr_tr f10 (zfr_I rfl)) (zfr_I rfl)) (zfr_I rfl)) (zfr_I rfl)) (zfr_I rfl)) (frl_73_46 h13)
    cases h
    exact f14
  · cases h
    exact zfr_tr (zfr_tr (zfr_tr (zfr_tr (zfr_tr (zfr_tr f10 (zfr_I rfl)) (zfr_I rfl)) (zfr_I rfl)) (zfr_I rfl)) (zfr_I rfl)) (frl_73_46 h13)
theorem fr_70 {s : zS} {q : (Unit × zS)} (h : f_70 s = some q) : zfr 256 s q.2 := by
  unfold f_70 at h
  cases h
  exact (zfr_tr (zfr_rf _ _) (zfr_I rfl))
theorem fr_17 {v1 : Int} {s : zS} {q : (Int × zS)} (h : f_17 v1 s = some q) : zfr 11972621413014756705924586149611790497021398855318785 s q.2 := by
  unfold f_17 at h
  obtain ⟨r2, s3, h1, h⟩ := zb_some h
  have f4 := zfr_tr (zfr_rf _ _) (zfr_sub (m2 := 11972621413014756705924586149611790497021398855318785) rfl (fr_73 h1))
  obtain ⟨r6, s7, h5, h⟩ := zb_some h
  have f8 := zfr_tr f4 (zfr_sub (m2 := 11972621413014756705924586149611790497021398855318785) rfl (fr_70 h5))
  by_cases hc9 : (gI s7 10 15) = 0
  · rw [if_pos hc9] at h
    by_cases hc10 : (gI s7 10 15) = 0
    · rw [if_pos hc10] at h
      cases h
      exact (zfr_tr (zfr_tr f8 (zfr_I rfl)) (zfr_I rfl))
    · rw [if_neg hc10] at h
      cases h
      exact (zfr_tr (zfr_tr f8 (zfr_I rfl)) (zfr_I rfl))
  · rw [if_neg hc9] at h
    by_cases hc11 : (gI s7 10 15) = 0
    · rw [if_pos hc11] at h
      cases h
      exact (zfr_tr (zfr_tr f8 (zfr_I rfl)) (zfr_I rfl))
    · rw [if_neg hc11] at h
      cases h
      exact (zfr_tr (zfr_tr f8 (zfr_I rfl)) (zfr_I rfl))
theorem fr_22 {v1 : Int} {s : zS} {q : (Unit × zS)} (h : f_22 v1 s = some q) : zfr 23945242826029513411849172299223580994042799052554241 s q.2 := by
  unfold f_22 at h
  obtain ⟨hg1, h⟩ := zg_some h
  obtain ⟨hg2, h⟩ := zg_some h
  cases h
  exact (zfr_tr (zfr_tr (zfr_tr (zfr_tr (zfr_rf _ _) (zfr_P rfl)) (zfr_P rfl)) (zfr_J rfl)) (zfr_I rfl))
theorem fr_16 {s : zS} {q : (Int × zS)} (h : f_16 s = some q) : zfr 35917864239044270117773758448835371491064197907873025 s q.2 := by
  unfold f_16 at h
  obtain ⟨r2, s3, h1, h⟩ := zb_some h
  have f4 := zfr_tr (zfr_rf _ _) (zfr_sub (m2 := 35917864239044270117773758448835371491064197907873025) rfl (fr_17 h1))
  obtain ⟨hg5, h⟩ := zg_some h
  by_cases hc6 : r2 = 0
  · rw [if_pos hc6] at h
    obtain ⟨r8, s9, h7, h⟩ := zb_some h
    have f10 := zfr_tr f4 (zfr_sub (m2 := 35917864239044270117773758448835371491064197907873025) rfl (fr_22 h7))
    cases h
    exact (zfr_tr f10 (zfr_I rfl))
  · rw [if_neg hc6] at h
    cases h
    exact f4
theorem frb_51_2 {v1 : Int} {v2 : Int} {s : zS} {q : (Int × zS) ⊕ (zS)} (h : b_51_2 v1 v2 s = some q) : zfr 64 s (Sum.elim (fun e : (Int × zS) => e.2) (fun e : (zS) => e) q) := by
  unfold b_51_2 at h
  obtain ⟨hg1, h⟩ := zg_some h
  by_cases hc2 : v2 < (gI s 1 8)
  · rw [if_pos hc2] at h
    obtain ⟨hg3, h⟩ := zg_some h
    by_cases hc4 : (((gI s 1 8) - 1) - v2) < 6
    · rw [if_pos hc4] at h
      obtain ⟨hg5, h⟩ := zg_some h
      obtain ⟨hg6, h⟩ := zg_some h
      obtain ⟨hg7, h⟩ := zg_some h
      cases h
      exact (zfr_tr (zfr_rf _ _) (zfr_J rfl))
    · rw [if_neg hc4] at h
      obtain ⟨hg8, h⟩ := zg_some h
      obtain ⟨hg9, h⟩ := zg_some h
      by_cases hc10 : (zand (v1 / 2 ^ zsh ((((gI s 1 8) - 1) - v2) - 6)) 1) = 0
      · rw [if_pos hc10] at h
        obtain ⟨hg11, h⟩ := zg_some h
        cases h
        exact (zfr_tr (zfr_rf _ _) (zfr_J rfl))
      · rw [if_neg hc10] at h
        obtain ⟨hg12, h⟩ := zg_some h
        cases h
        exact (zfr_tr (zfr_rf _ _) (zfr_J rfl))
  · rw [if_neg hc2] at h
    cases h
    exact (zfr_rf _ _)
theorem frl_51_2 {v1 : Int} {n : Nat} {e0 : (Int × zS)} {t : (zS)} (h : zlp (fun (q : Int × zS) => b_51_2 v1 q.1 q.2) n e0 = some t) : zfr 64 ((fun e : (Int × zS) => e.2) e0) ((fun e : (zS) => e) t) := zfr_lp (f := (fun e : (Int × zS) => e.2)) (g := (fun e : (zS) => e)) (fun e q h1 => frb_51_2 h1) n e0 t h
theorem fr_51 {v1 : Int} {s : zS} {q : (Unit × zS)} (h : f_51 v1 s = some q) : zfr 64 s q.2 := by
  unfold f_51 at h
  obtain ⟨e1, h2, h⟩ := zo_some h
  have f3 : zfr 64 s e1 := zfr_tr (zfr_rf _ _) (frl_51_2 h2)
  cases h
  exact f3
theorem frb_102_20 {c1 : Nat} {w3 : BitVec 64} {v5 : Int} {v6 : Int} {s : zS} {q : (Int × zS) ⊕ (zS)} (h : b_102_20 c1 w3 v5 v6 s = some q) : zfr 33423424 s (Sum.elim (fun e : (Int × zS) => e.2) (fun e : (zS) => e) q) := by
  unfold b_102_20 at h
  obtain ⟨hg1, h⟩ := zg_some h
  obtain ⟨hg2, h⟩ := zg_some h
  by_cases hc3 : v6 < v5
  · rw [if_pos hc3] at h
    obtain ⟨hg4, h⟩ := zg_some h
    cases h
    exact (zfr_tr (zfr_rf _ _) (zfr_J rfl))
  · rw [if_neg hc3] at h
    cases h
    exact (zfr_rf _ _)
theorem frl_102_20 {c1 : Nat} {w3 : BitVec 64} {v5 : Int} {n : Nat} {e0 : (Int × zS)} {t : (zS)} (h : zlp (fun (q : Int × zS) => b_102_20 c1 w3 v5 q.1 q.2) n e0 = some t) : zfr 33423424 ((fun e : (Int × zS) => e.2) e0) ((fun e : (zS) => e) t) := zfr_lp (f := (fun e : (Int × zS) => e.2)) (g := (fun e : (zS) => e)) (fun e q h1 => frb_102_20 h1) n e0 t h
theorem fr_108 {rec : Nat → Int → Int → BitVec 64 → Int → zS → Option (Unit × zS)} {c1 : Nat} {v2 : Int} {v3 : Int} {w4 : BitVec 64} {v6 : Int} {s : zS} {q : ((BitVec 64) × zS)}  (hfr : zFrec rec) (h : f_108 rec c1 v2 v3 w4 v6 s = some q) : zfr 33423360 s q.2 := by
  unfold f_108 at h
  by_cases hc1 : (gI s 17 3) < 22
  · rw [if_pos hc1] at h
    obtain ⟨r3, s4, h2, h⟩ := zb_some h
    have f5 := zfr_tr (zfr_rf _ _) (hfr _ _ _ _ _ _ _ h2)
    obtain ⟨hg6, h⟩ := zg_some h
    cases h
    exact (zfr_tr f5 (zfr_I rfl))
  · rw [if_neg hc1] at h
    cases h
    exact (zfr_rf _ _)
theorem frb_107_14 {rec : Nat → Int → Int → BitVec 64 → Int → zS → Option (Unit × zS)} {c1 : Nat} {v2 : Int} {w3 : BitVec 64} {v5 : Int} {v6 : Int} {v7 : Int} {s : zS} {q : (Int × zS) ⊕ (zS)}  (hfr : zFrec rec) (h : b_107_14 rec c1 v2 w3 v5 v6 v7 s = some q) : zfr 33423360 s (Sum.elim (fun e : (Int × zS) => e.2) (fun e : (zS) => e) q) := by
  unfold b_107_14 at h
  obtain ⟨hg1, h⟩ := zg_some h
  by_cases hc2 : v7 < (gI s 1 0)
  · rw [if_pos hc2] at h
    obtain ⟨hg3, h⟩ := zg_some h
    by_cases hc4 : ((gJ s 18 (v6 + v7)) &&& w3) = (0#64)
    · rw [if_pos hc4] at h
      cases h
      exact (zfr_tr (zfr_rf _ _) (zfr_J rfl))
    · rw [if_neg hc4] at h
      obtain ⟨hg5, h⟩ := zg_some h
      obtain ⟨hg6, h⟩ := zg_some h
      obtain ⟨hg7, h⟩ := zg_some h
      obtain ⟨r9, s10, h8, h⟩ := zb_some h
      have f11 := zfr_tr (zfr_tr (zfr_rf _ _) (zfr_I rfl)) (fr_108 hfr h8)
      cases h
      exact (zfr_tr f11 (zfr_J rfl))
  · rw [if_neg hc2] at h
    cases h
    exact (zfr_rf _ _)
theorem frl_107_14 {rec : Nat → Int → Int → BitVec 64 → Int → zS → Option (Unit × zS)} {c1 : Nat} {v2 : Int} {w3 : BitVec 64} {v5 : Int} {v6 : Int} {n : Nat} {e0 : (Int × zS)} {t : (zS)}  (hfr : zFrec rec) (h : zlp (fun (q : Int × zS) => b_107_14 rec c1 v2 w3 v5 v6 q.1 q.2) n e0 = some t) : zfr 33423360 ((fun e : (Int × zS) => e.2) e0) ((fun e : (zS) => e) t) := zfr_lp (f := (fun e : (Int × zS) => e.2)) (g := (fun e : (zS) => e)) (fun e q h1 => frb_107_14 hfr h1) n e0 t h
theorem fr_107 {rec : Nat → Int → Int → BitVec 64 → Int → zS → Option (Unit × zS)} {c1 : Nat} {v2 : Int} {w3 : BitVec 64} {v5 : Int} {s : zS} {q : (Unit × zS)}  (hfr : zFrec rec) (h : f_107 rec c1 v2 w3 v5 s = some q) : zfr 33423360 s q.2 := by
  unfold f_107 at h
  obtain ⟨e1, h2, h⟩ := zo_some h
  have f3 : zfr 33423360 s e1 := zfr_tr (zfr_rf _ _) (frl_107_14 hfr h2)
  cases h
  exact f3
theorem frb_111_24 {v1 : Int} {w3 : BitVec 64} {v5 : Int} {v6 : Int} {v7 : Int} {s : zS} {q : (Int × zS) ⊕ (zS)} (h : b_111_24 v1 w3 v5 v6 v7 s = some q) : zfr 25165824 s (Sum.elim (fun e : (Int × zS) => e.2) (fun e : (zS) => e) q) := by
  unfold b_111_24 at h
  obtain ⟨hg1, h⟩ := zg_some h
  obtain ⟨hg2, h⟩ := zg_some h
  by_cases hc3 : v7 < v6
  · rw [if_pos hc3] at h
    obtain ⟨hg4, h⟩ := zg_some h
    obtain ⟨hg5, h⟩ := zg_some h
    cases h
    exact (zfr_tr (zfr_rf _ _) (zfr_J rfl))
  · rw [if_neg hc3] at h
    cases h
    exact (zfr_rf _ _)
theorem frl_111_24 {v1 : Int} {w3 : BitVec 64} {v5 : Int} {v6 : Int} {n : Nat} {e0 : (Int × zS)} {t : (zS)} (h : zlp (fun (q : Int × zS) => b_111_24 v1 w3 v5 v6 q.1 q.2) n e0 = some t) : zfr 25165824 ((fun e : (Int × zS) => e.2) e0) ((fun e : (zS) => e) t) := zfr_lp (f := (fun e : (Int × zS) => e.2)) (g := (fun e : (zS) => e)) (fun e q h1 => frb_111_24 h1) n e0 t h
theorem fr_111 {v1 : Int} {v2 : Int} {w3 : BitVec 64} {s : zS} {q : (Unit × zS)} (h : f_111 v1 v2 w3 s = some q) : zfr 25165824 s q.2 := by
  unfold f_111 at h
  obtain ⟨r2, h1, h⟩ := zo_some h
  obtain ⟨e3, h4, h⟩ := zo_some h
  have f5 : zfr 25165824 s e3 := zfr_tr (zfr_rf _ _) (frl_111_24 h4)
  obtain ⟨hg6, h⟩ := zg_some h
  cases h
  exact (zfr_tr f5 (zfr_J rfl))
theorem frj_104_111 {rec : Nat → Int → Int → BitVec 64 → Int → zS → Option (Unit × zS)} {w3 : BitVec 64} {v6 : Int} {v7 : Int} {s : zS} {q : (Unit × zS)}  (hfr : zFrec rec) (h : j_104_111 rec w3 v6 v7 s = some q) : zfr 33423360 s q.2 := by
  unfold j_104_111 at h
  obtain ⟨hg1, h⟩ := zg_some h
  by_cases hc2 : v7 = (-1)
  · rw [if_pos hc2] at h
    cases h
    exact (zfr_rf _ _)
  · rw [if_neg hc2] at h
    obtain ⟨r4, s5, h3, h⟩ := zb_some h
    have f6 := zfr_tr (zfr_rf _ _) (zfr_sub (m2 := 33423360) rfl (fr_111 h3))
    cases h
    exact f6
theorem frj_109_31_123 {rec : Nat → Int → Int → BitVec 64 → Int → zS → Option (Unit × zS)} {c1 : Nat} {v2 : Int} {v5 : Int} {v6 : Int} {v7 : Int} {w8 : BitVec 64} {w10 : BitVec 64} {w12 : BitVec 64} {v14 : Int} {u0 : BitVec 64} {u1 : BitVec 64} {s : zS} {q : (BitVec 64 × BitVec 64 × BitVec 64 × Int × zS) ⊕ (BitVec 64 × BitVec 64 × zS)}  (hfr : zFrec rec) (h : j_109_31_123 rec c1 v2 v5 v6 v7 w8 w10 w12 v14 u0 u1 s = some q) : zfr 33423360 s (Sum.elim (fun e : (BitVec 64 × BitVec 64 × BitVec 64 × Int × zS) => e.2.2.2.2) (fun e : (BitVec 64 × BitVec 64 × zS) => e.2.2) q) := by
  unfold j_109_31_123 at h
  obtain ⟨hg1, h⟩ := zg_some h
  by_cases hc2 : v6 = 7
  · rw [if_pos hc2] at h
    cases h
    exact (zfr_rf _ _)
  · rw [if_neg hc2] at h
    by_cases hc3 : v6 = 8
    · rw [if_pos hc3] at h
      cases h
      exact (zfr_rf _ _)
    · rw [if_neg hc3] at h
      cases h
      exact (zfr_rf _ _)
theorem frb_109_31 {rec : Nat → Int → Int → BitVec 64 → Int → zS → Option (Unit × zS)} {c1 : Nat} {v2 : Int} {v5 : Int} {v6 : Int} {v7 : Int} {w8 : BitVec 64} {w10 : BitVec 64} {w12 : BitVec 64} {v14 : Int} {s : zS} {q : (BitVec 64 × BitVec 64 × BitVec 64 × Int × zS) ⊕ (BitVec 64 × BitVec 64 × zS)}  (hfr : zFrec rec) (h : b_109_31 rec c1 v2 v5 v6 v7 w8 w10 w12 v14 s = some q) : zfr 33423360 s (Sum.elim (fun e : (BitVec 64 × BitVec 64 × BitVec 64 × Int × zS) => e.2.2.2.2) (fun e : (BitVec 64 × BitVec 64 × zS) => e.2.2) q) := by
  unfold b_109_31 at h
  obtain ⟨hg1, h⟩ := zg_some h
  by_cases hc2 : v14 < (gI s 1 0)
  · rw [if_pos hc2] at h
    obtain ⟨hg3, h⟩ := zg_some h
    by_cases hc4 : ((gJ s 18 (v7 + v14)) &&& w8) = (0#64)
    · rw [if_pos hc4] at h
      cases h
      exact (zfr_rf _ _)
    · rw [if_neg hc4] at h
      obtain ⟨hg5, h⟩ := zg_some h
      obtain ⟨hg6, h⟩ := zg_some h
      obtain ⟨hg7, h⟩ := zg_some h
      obtain ⟨r9, s10, h8, h⟩ := zb_some h
      have f11 := zfr_tr (zfr_tr (zfr_rf _ _) (zfr_I rfl)) (fr_108 hfr h8)
      obtain ⟨hg12, h⟩ := zg_some h
      by_cases hc13 : v6 = 4
      · rw [if_pos hc13] at h
        exact zfr_tr f11 (frj_109_31_123 hfr h)
      · rw [if_neg hc13] at h
        exact zfr_tr f11 (frj_109_31_123 hfr h)
  · rw [if_neg hc2] at h
    cases h
    exact (zfr_rf _ _)
theorem frl_109_31 {rec : Nat → Int → Int → BitVec 64 → Int → zS → Option (Unit × zS)} {c1 : Nat} {v2 : Int} {v5 : Int} {v6 : Int} {v7 : Int} {n : Nat} {e0 : (BitVec 64 × BitVec 64 × BitVec 64 × Int × zS)} {t : (BitVec 64 × BitVec 64 × zS)}  (hfr : zFrec rec) (h : zlp (fun (q : BitVec 64 × BitVec 64 × BitVec 64 × Int × zS) => b_109_31 rec c1 v2 v5 v6 v7 q.1 q.2.1 q.2.2.1 q.2.2.2.1 q.2.2.2.2) n e0 = some t) : zfr 33423360 ((fun e : (BitVec 64 × BitVec 64 × BitVec 64 × Int × zS) => e.2.2.2.2) e0) ((fun e : (BitVec 64 × BitVec 64 × zS) => e.2.2) t) := zfr_lp (f := (fun e : (BitVec 64 × BitVec 64 × BitVec 64 × Int × zS) => e.2.2.2.2)) (g := (fun e : (BitVec 64 × BitVec 64 × zS) => e.2.2)) (fun e q h1 => frb_109_31 hfr h1) n e0 t h
theorem fr_109 {rec : Nat → Int → Int → BitVec 64 → Int → zS → Option (Unit × zS)} {c1 : Nat} {v2 : Int} {w3 : BitVec 64} {v5 : Int} {s : zS} {q : (Unit × zS)}  (hfr : zFrec rec) (h : f_109 rec c1 v2 w3 v5 s = some q) : zfr 33423360 s q.2 := by
  unfold f_109 at h
  obtain ⟨hg1, h⟩ := zg_some h
  obtain ⟨hg2, h⟩ := zg_some h
  obtain ⟨e3, h4, h⟩ := zo_some h
  have f5 : zfr 33423360 s e3.2.2 := zfr_tr (zfr_rf _ _) (frl_109_31 hfr h4)
  obtain ⟨r7, h6, h⟩ := zo_some h
  obtain ⟨hg8, h⟩ := zg_some h
  obtain ⟨hg9, h⟩ := zg_some h
  cases h
  exact (zfr_tr (zfr_tr f5 (zfr_J rfl)) (zfr_I rfl))
theorem frj_104_59 {rec : Nat → Int → Int → BitVec 64 → Int → zS → Option (Unit × zS)} {c1 : Nat} {v2 : Int} {w3 : BitVec 64} {v5 : Int} {v6 : Int} {v7 : Int} {s : zS} {q : (Unit × zS)}  (hfr : zFrec rec) (h : j_104_59 rec c1 v2 w3 v5 v6 v7 s = some q) : zfr 33423360 s q.2 := by
  unfold j_104_59 at h
  obtain ⟨hg1, h⟩ := zg_some h
  obtain ⟨hg2, h⟩ := zg_some h
  obtain ⟨r4, s5, h3, h⟩ := zb_some h
  have f6 := zfr_tr (zfr_rf _ _) (hfr _ _ _ _ _ _ _ h3)
  by_cases hc7 : (gI s5 17 3) = 0
  · rw [if_pos hc7] at h
    cases h
    exact f6
  · rw [if_neg hc7] at h
    obtain ⟨hg8, h⟩ := zg_some h
    by_cases hc9 : v6 = 1
    · rw [if_pos hc9] at h
      obtain ⟨r11, s12, h10, h⟩ := zb_some h
      have f13 := zfr_tr f6 (fr_107 hfr h10)
      exact zfr_tr f13 (frj_104_111 hfr h)
    · rw [if_neg hc9] at h
      obtain ⟨r15, s16, h14, h⟩ := zb_some h
      have f17 := zfr_tr f6 (fr_109 hfr h14)
      exact zfr_tr f17 (frj_104_111 hfr h)
theorem frb_106_21 {v1 : Int} {v2 : Int} {v3 : Int} {v4 : Int} {v5 : Int} {s : zS} {q : (Int × zS) ⊕ (zS)} (h : b_106_21 v1 v2 v3 v4 v5 s = some q) : zfr 917504 s (Sum.elim (fun e : (Int × zS) => e.2) (fun e : (zS) => e) q) := by
  unfold b_106_21 at h
  obtain ⟨hg1, h⟩ := zg_some h
  obtain ⟨hg2, h⟩ := zg_some h
  by_cases hc3 : v5 < v4
  · rw [if_pos hc3] at h
    obtain ⟨hg4, h⟩ := zg_some h
    obtain ⟨hg5, h⟩ := zg_some h
    cases h
    exact (zfr_tr (zfr_rf _ _) (zfr_J rfl))
  · rw [if_neg hc3] at h
    cases h
    exact (zfr_rf _ _)
theorem frl_106_21 {v1 : Int} {v2 : Int} {v3 : Int} {v4 : Int} {n : Nat} {e0 : (Int × zS)} {t : (zS)} (h : zlp (fun (q : Int × zS) => b_106_21 v1 v2 v3 v4 q.1 q.2) n e0 = some t) : zfr 917504 ((fun e : (Int × zS) => e.2) e0) ((fun e : (zS) => e) t) := zfr_lp (f := (fun e : (Int × zS) => e.2)) (g := (fun e : (zS) => e)) (fun e q h1 => frb_106_21 h1) n e0 t h
theorem fr_106 {v1 : Int} {v2 : Int} {s : zS} {q : (Unit × zS)} (h : f_106 v1 v2 s = some q) : zfr 917504 s q.2 := by
  unfold f_106 at h
  obtain ⟨r2, h1, h⟩ := zo_some h
  obtain ⟨e3, h4, h⟩ := zo_some h
  have f5 : zfr 917504 s e3 := zfr_tr (zfr_rf _ _) (frl_106_21 h4)
  obtain ⟨hg6, h⟩ := zg_some h
  cases h
  exact (zfr_tr (zfr_tr f5 (zfr_I rfl)) (zfr_I rfl))
theorem frj_104_16 {rec : Nat → Int → Int → BitVec 64 → Int → zS → Option (Unit × zS)} {c1 : Nat} {v2 : Int} {w3 : BitVec 64} {v5 : Int} {t0 : Int} {s : zS} {q : (Unit × zS)}  (hfr : zFrec rec) (h : j_104_16 rec c1 v2 w3 v5 t0 s = some q) : zfr 33423360 s q.2 := by
  unfold j_104_16 at h
  obtain ⟨r2, h1, h⟩ := zo_some h
  obtain ⟨hg3, h⟩ := zg_some h
  by_cases hc4 : r2 = (-1)
  · rw [if_pos hc4] at h
    exact zfr_tr (zfr_rf _ _) (frj_104_59 hfr h)
  · rw [if_neg hc4] at h
    obtain ⟨hg5, h⟩ := zg_some h
    by_cases hc6 : (w3 &&& ((gJ s 23 r2) ^^^ (18446744073709551615#64))) = (0#64)
    · rw [if_pos hc6] at h
      obtain ⟨r8, s9, h7, h⟩ := zb_some h
      have f10 := zfr_tr (zfr_rf _ _) (zfr_sub (m2 := 33423360) rfl (fr_106 h7))
      cases h
      exact f10
    · rw [if_neg hc6] at h
      exact zfr_tr (zfr_rf _ _) (frj_104_59 hfr h)
theorem fr_104 {rec : Nat → Int → Int → BitVec 64 → Int → zS → Option (Unit × zS)} {c1 : Nat} {v2 : Int} {w3 : BitVec 64} {v5 : Int} {s : zS} {q : (Unit × zS)}  (hfr : zFrec rec) (h : f_104 rec c1 v2 w3 v5 s = some q) : zfr 33423360 s q.2 := by
  unfold f_104 at h
  obtain ⟨hg1, h⟩ := zg_some h
  obtain ⟨hg2, h⟩ := zg_some h
  by_cases hc3 : (gI s (c1 + 3) v2) = 39
  · rw [if_pos hc3] at h
    exact zfr_tr (zfr_rf _ _) (frj_104_16 hfr h)
  · rw [if_neg hc3] at h
    exact zfr_tr (zfr_rf _ _) (frj_104_16 hfr h)
theorem frb_115_71 {v1 : Int} {v2 : Int} {v3 : Int} {v4 : Int} {v5 : Int} {w6 : BitVec 64} {v8 : Int} {s : zS} {q : (Int × zS) ⊕ (zS)} (h : b_115_71 v1 v2 v3 v4 v5 w6 v8 s = some q) : zfr 917504 s (Sum.elim (fun e : (Int × zS) => e.2) (fun e : (zS) => e) q) := by
  unfold b_115_71 at h
  obtain ⟨hg1, h⟩ := zg_some h
  obtain ⟨hg2, h⟩ := zg_some h
  by_cases hc3 : v8 < v5
  · rw [if_pos hc3] at h
    obtain ⟨hg4, h⟩ := zg_some h
    cases h
    exact (zfr_tr (zfr_rf _ _) (zfr_J rfl))
  · rw [if_neg hc3] at h
    cases h
    exact (zfr_rf _ _)
theorem frl_115_71 {v1 : Int} {v2 : Int} {v3 : Int} {v4 : Int} {v5 : Int} {w6 : BitVec 64} {n : Nat} {e0 : (Int × zS)} {t : (zS)} (h : zlp (fun (q : Int × zS) => b_115_71 v1 v2 v3 v4 v5 w6 q.1 q.2) n e0 = some t) : zfr 917504 ((fun e : (Int × zS) => e.2) e0) ((fun e : (zS) => e) t) := zfr_lp (f := (fun e : (Int × zS) => e.2)) (g := (fun e : (zS) => e)) (fun e q h1 => frb_115_71 h1) n e0 t h
theorem frb_116_2 {v1 : Int} {v2 : Int} {s : zS} {q : (Int × zS) ⊕ (zS)} (h : b_116_2 v1 v2 s = some q) : zfr 262144 s (Sum.elim (fun e : (Int × zS) => e.2) (fun e : (zS) => e) q) := by
  unfold b_116_2 at h
  obtain ⟨hg1, h⟩ := zg_some h
  by_cases hc2 : v2 < (gI s 1 0)
  · rw [if_pos hc2] at h
    obtain ⟨hg3, h⟩ := zg_some h
    cases h
    exact (zfr_tr (zfr_rf _ _) (zfr_J rfl))
  · rw [if_neg hc2] at h
    cases h
    exact (zfr_rf _ _)
theorem frl_116_2 {v1 : Int} {n : Nat} {e0 : (Int × zS)} {t : (zS)} (h : zlp (fun (q : Int × zS) => b_116_2 v1 q.1 q.2) n e0 = some t) : zfr 262144 ((fun e : (Int × zS) => e.2) e0) ((fun e : (zS) => e) t) := zfr_lp (f := (fun e : (Int × zS) => e.2)) (g := (fun e : (zS) => e)) (fun e q h1 => frb_116_2 h1) n e0 t h
theorem fr_116 {v1 : Int} {s : zS} {q : (Unit × zS)} (h : f_116 v1 s = some q) : zfr 262144 s q.2 := by
  unfold f_116 at h
  obtain ⟨e1, h2, h⟩ := zo_some h
  have f3 : zfr 262144 s e1 := zfr_tr (zfr_rf _ _) (frl_116_2 h2)
  cases h
  exact f3
theorem frj_115_114 {v1 : Int} {v3 : Int} {v4 : Int} {s : zS} {q : (Unit × zS)} (h : j_115_114 v1 v3 v4 s = some q) : zfr 917504 s q.2 := by
  unfold j_115_114 at h
  obtain ⟨hg1, h⟩ := zg_some h
  obtain ⟨hg2, h⟩ := zg_some h
  by_cases hc3 : v1 = 17
  · rw [if_pos hc3] at h
    obtain ⟨r5, s6, h4, h⟩ := zb_some h
    have f7 := zfr_tr (zfr_tr (zfr_tr (zfr_rf _ _) (zfr_I rfl)) (zfr_I rfl)) (zfr_sub (m2 := 917504) rfl (fr_116 h4))
    cases h
    exact f7
  · rw [if_neg hc3] at h
    cases h
    exact (zfr_tr (zfr_tr (zfr_rf _ _) (zfr_I rfl)) (zfr_I rfl))
theorem frj_115_66 {v1 : Int} {v2 : Int} {v3 : Int} {v4 : Int} {v5 : Int} {u0 : BitVec 64} {s : zS} {q : (Unit × zS)} (h : j_115_66 v1 v2 v3 v4 v5 u0 s = some q) : zfr 917504 s q.2 := by
  unfold j_115_66 at h
  obtain ⟨e1, h2, h⟩ := zo_some h
  have f3 : zfr 917504 s e1 := zfr_tr (zfr_rf _ _) (frl_115_71 h2)
  obtain ⟨hg4, h⟩ := zg_some h
  by_cases hc5 : v1 = 43
  · rw [if_pos hc5] at h
    obtain ⟨hg6, h⟩ := zg_some h
    exact zfr_tr (zfr_tr f3 (zfr_J rfl)) (frj_115_114 h)
  · rw [if_neg hc5] at h
    exact zfr_tr f3 (frj_115_114 h)
theorem frj_115_59 {v1 : Int} {v2 : Int} {v3 : Int} {v4 : Int} {v5 : Int} {s : zS} {q : (Unit × zS)} (h : j_115_59 v1 v2 v3 v4 v5 s = some q) : zfr 917504 s q.2 := by
  unfold j_115_59 at h
  exact zfr_tr (zfr_rf _ _) (frj_115_66 h)
theorem frj_115_27 {v1 : Int} {v2 : Int} {t0 : Int} {s : zS} {q : (Unit × zS)} (h : j_115_27 v1 v2 t0 s = some q) : zfr 917504 s q.2 := by
  unfold j_115_27 at h
  obtain ⟨r2, h1, h⟩ := zo_some h
  obtain ⟨hg3, h⟩ := zg_some h
  by_cases hc4 : v1 = 16
  · rw [if_pos hc4] at h
    exact zfr_tr (zfr_rf _ _) (frj_115_59 h)
  · rw [if_neg hc4] at h
    by_cases hc5 : v1 = 18
    · rw [if_pos hc5] at h
      exact zfr_tr (zfr_rf _ _) (frj_115_59 h)
    · rw [if_neg hc5] at h
      exact zfr_tr (zfr_rf _ _) (frj_115_66 h)
theorem frj_115_12 {v1 : Int} {v2 : Int} {s : zS} {q : (Unit × zS)} (h : j_115_12 v1 v2 s = some q) : zfr 917504 s q.2 := by
  unfold j_115_12 at h
  exact zfr_tr (zfr_rf _ _) (frj_115_27 h)
theorem fr_115 {v1 : Int} {v2 : Int} {s : zS} {q : (Unit × zS)} (h : f_115 v1 v2 s = some q) : zfr 917504 s q.2 := by
  unfold f_115 at h
  obtain ⟨hg1, h⟩ := zg_some h
  by_cases hc2 : v1 = 18
  · rw [if_pos hc2] at h
    exact zfr_tr (zfr_rf _ _) (frj_115_12 h)
  · rw [if_neg hc2] at h
    by_cases hc3 : v1 = 19
    · rw [if_pos hc3] at h
      exact zfr_tr (zfr_rf _ _) (frj_115_12 h)
    · rw [if_neg hc3] at h
      by_cases hc4 : v1 = 17
      · rw [if_pos hc4] at h
        exact zfr_tr (zfr_rf _ _) (frj_115_27 h)
      · rw [if_neg hc4] at h
        exact zfr_tr (zfr_rf _ _) (frj_115_27 h)
theorem frb_117_34 {v1 : Int} {v2 : Int} {v3 : Int} {v4 : Int} {v5 : Int} {s : zS} {q : (Int × zS) ⊕ (zS)} (h : b_117_34 v1 v2 v3 v4 v5 s = some q) : zfr 917504 s (Sum.elim (fun e : (Int × zS) => e.2) (fun e : (zS) => e) q) := by
  unfold b_117_34 at h
  obtain ⟨hg1, h⟩ := zg_some h
  obtain ⟨hg2, h⟩ := zg_some h
  by_cases hc3 : v5 < v4
  · rw [if_pos hc3] at h
    obtain ⟨hg4, h⟩ := zg_some h
    obtain ⟨hg5, h⟩ := zg_some h
    cases h
    exact (zfr_tr (zfr_rf _ _) (zfr_J rfl))
  · rw [if_neg hc3] at h
    cases h
    exact (zfr_rf _ _)
theorem frl_117_34 {v1 : Int} {v2 : Int} {v3 : Int} {v4 : Int} {n : Nat} {e0 : (Int × zS)} {t : (zS)} (h : zlp (fun (q : Int × zS) => b_117_34 v1 v2 v3 v4 q.1 q.2) n e0 = some t) : zfr 917504 ((fun e : (Int × zS) => e.2) e0) ((fun e : (zS) => e) t) := zfr_lp (f := (fun e : (Int × zS) => e.2)) (g := (fun e : (zS) => e)) (fun e q h1 => frb_117_34 h1) n e0 t h
theorem fr_117 {v1 : Int} {s : zS} {q : (Unit × zS)} (h : f_117 v1 s = some q) : zfr 917504 s q.2 := by
  unfold f_117 at h
  obtain ⟨hg1, h⟩ := zg_some h
  obtain ⟨r3, h2, h⟩ := zo_some h
  obtain ⟨e4, h5, h⟩ := zo_some h
  have f6 : zfr 917504 s e4 := zfr_tr (zfr_rf _ _) (frl_117_34 h5)
  obtain ⟨hg7, h⟩ := zg_some h
  cases h
  exact (zfr_tr (zfr_tr f6 (zfr_I rfl)) (zfr_I rfl))
theorem frb_270_6 {w1 : BitVec 64} {v4 : Int} {v3 : Int} {s : zS} {q : (Int × zS) ⊕ (zS)} (h : b_270_6 w1 v4 v3 s = some q) : zfr 4194304 s (Sum.elim (fun e : (Int × zS) => e.2) (fun e : (zS) => e) q) := by
  unfold b_270_6 at h
  obtain ⟨hg1, h⟩ := zg_some h
  obtain ⟨hg2, h⟩ := zg_some h
  by_cases hc3 : v3 < v4
  · rw [if_pos hc3] at h
    obtain ⟨hg4, h⟩ := zg_some h
    cases h
    exact (zfr_tr (zfr_rf _ _) (zfr_J rfl))
  · rw [if_neg hc3] at h
    cases h
    exact (zfr_rf _ _)
theorem frl_270_6 {w1 : BitVec 64} {v4 : Int} {n : Nat} {e0 : (Int × zS)} {t : (zS)} (h : zlp (fun (q : Int × zS) => b_270_6 w1 v4 q.1 q.2) n e0 = some t) : zfr 4194304 ((fun e : (Int × zS) => e.2) e0) ((fun e : (zS) => e) t) := zfr_lp (f := (fun e : (Int × zS) => e.2)) (g := (fun e : (zS) => e)) (fun e q h1 => frb_270_6 h1) n e0 t h
theorem fr_270 {w1 : BitVec 64} {s : zS} {q : (Unit × zS)} (h : f_270 w1 s = some q) : zfr 4194304 s q.2 := by
  unfold f_270 at h
  obtain ⟨e1, h2, h⟩ := zo_some h
  have f3 : zfr 4194304 s e1 := zfr_tr (zfr_rf _ _) (frl_270_6 h2)
  cases h
  exact f3
theorem frb_118_71 {v1 : Int} {v2 : Int} {v3 : Int} {v4 : Int} {v5 : Int} {w6 : BitVec 64} {v8 : Int} {s : zS} {q : (BitVec 64 × Int × zS) ⊕ (zS)} (h : b_118_71 v1 v2 v3 v4 v5 w6 v8 s = some q) : zfr 4980736 s (Sum.elim (fun e : (BitVec 64 × Int × zS) => e.2.2) (fun e : (zS) => e) q) := by
  unfold b_118_71 at h
  obtain ⟨hg1, h⟩ := zg_some h
  by_cases hc2 : v8 < 10
  · rw [if_pos hc2] at h
    by_cases hc3 : w6 = (0#64)
    · rw [if_pos hc3] at h
      cases h
      exact (zfr_rf _ _)
    · rw [if_neg hc3] at h
      obtain ⟨hg4, h⟩ := zg_some h
      cases h
      exact (zfr_tr (zfr_rf _ _) (zfr_J rfl))
  · rw [if_neg hc2] at h
    cases h
    exact (zfr_rf _ _)
theorem frl_118_71 {v1 : Int} {v2 : Int} {v3 : Int} {v4 : Int} {v5 : Int} {n : Nat} {e0 : (BitVec 64 × Int × zS)} {t : (zS)} (h : zlp (fun (q : BitVec 64 × Int × zS) => b_118_71 v1 v2 v3 v4 v5 q.1 q.2.1 q.2.2) n e0 = some t) : zfr 4980736 ((fun e : (BitVec 64 × Int × zS) => e.2.2) e0) ((fun e : (zS) => e) t) := zfr_lp (f := (fun e : (BitVec 64 × Int × zS) => e.2.2)) (g := (fun e : (zS) => e)) (fun e q h1 => frb_118_71 h1) n e0 t h
theorem frb_118_50 {v1 : Int} {v2 : Int} {v3 : Int} {v4 : Int} {v5 : Int} {s : zS} {q : (Int × zS) ⊕ (zS)} (h : b_118_50 v1 v2 v3 v4 v5 s = some q) : zfr 4980736 s (Sum.elim (fun e : (Int × zS) => e.2) (fun e : (zS) => e) q) := by
  unfold b_118_50 at h
  obtain ⟨hg1, h⟩ := zg_some h
  obtain ⟨hg2, h⟩ := zg_some h
  by_cases hc3 : v5 < v4
  · rw [if_pos hc3] at h
    obtain ⟨hg4, h⟩ := zg_some h
    obtain ⟨e5, h6, h⟩ := zo_some h
    have f7 : zfr 4980736 s e5 := zfr_tr (zfr_rf _ _) (frl_118_71 h6)
    cases h
    exact f7
  · rw [if_neg hc3] at h
    cases h
    exact (zfr_rf _ _)
theorem frl_118_50 {v1 : Int} {v2 : Int} {v3 : Int} {v4 : Int} {n : Nat} {e0 : (Int × zS)} {t : (zS)} (h : zlp (fun (q : Int × zS) => b_118_50 v1 v2 v3 v4 q.1 q.2) n e0 = some t) : zfr 4980736 ((fun e : (Int × zS) => e.2) e0) ((fun e : (zS) => e) t) := zfr_lp (f := (fun e : (Int × zS) => e.2)) (g := (fun e : (zS) => e)) (fun e q h1 => frb_118_50 h1) n e0 t h
theorem fr_118 {v1 : Int} {v2 : Int} {s : zS} {q : (Unit × zS)} (h : f_118 v1 v2 s = some q) : zfr 4980736 s q.2 := by
  unfold f_118 at h
  by_cases hc1 : (gI s 17 3) < 1
  · rw [if_pos hc1] at h
    cases h
    exact (zfr_rf _ _)
  · rw [if_neg hc1] at h
    obtain ⟨hg2, h⟩ := zg_some h
    obtain ⟨r4, h3, h⟩ := zo_some h
    obtain ⟨r6, s7, h5, h⟩ := zb_some h
    have f8 := zfr_tr (zfr_rf _ _) (zfr_sub (m2 := 4980736) rfl (fr_270 h5))
    obtain ⟨e9, h10, h⟩ := zo_some h
    have f11 : zfr 4980736 s e9 := zfr_tr f8 (frl_118_50 h10)
    obtain ⟨e12, h13, h⟩ := zo_some h
    obtain ⟨hg14, h⟩ := zg_some h
    by_cases hc15 : v1 = 32
    · rw [if_pos hc15] at h
      obtain ⟨hg16, h⟩ := zg_some h
      obtain ⟨hg17, h⟩ := zg_some h
      cases h
      exact (zfr_tr (zfr_tr f11 (zfr_J rfl)) (zfr_I rfl))
    · rw [if_neg hc15] at h
      by_cases hc18 : v1 = 33
      · rw [if_pos hc18] at h
        obtain ⟨hg19, h⟩ := zg_some h
        obtain ⟨hg20, h⟩ := zg_some h
        cases h
        exact (zfr_tr (zfr_tr f11 (zfr_J rfl)) (zfr_I rfl))
      · rw [if_neg hc18] at h
        obtain ⟨hg21, h⟩ := zg_some h
        obtain ⟨hg22, h⟩ := zg_some h
        cases h
        exact (zfr_tr (zfr_tr f11 (zfr_J rfl)) (zfr_I rfl))
theorem fr_119 {v1 : Int} {s : zS} {q : (Unit × zS)} (h : f_119 v1 s = some q) : zfr 786432 s q.2 := by
  unfold f_119 at h
  by_cases hc1 : (gI s 17 3) < 1
  · rw [if_pos hc1] at h
    cases h
    exact (zfr_rf _ _)
  · rw [if_neg hc1] at h
    obtain ⟨hg2, h⟩ := zg_some h
    obtain ⟨r4, h3, h⟩ := zo_some h
    obtain ⟨e5, h6, h⟩ := zo_some h
    obtain ⟨r8, h7, h⟩ := zo_some h
    obtain ⟨hg9, h⟩ := zg_some h
    cases h
    exact (zfr_tr (zfr_tr (zfr_rf _ _) (zfr_J rfl)) (zfr_I rfl))
theorem frb_121_18 {v1 : Int} {v2 : Int} {v3 : Int} {v4 : Int} {s : zS} {q : (Int × zS) ⊕ (zS)} (h : b_121_18 v1 v2 v3 v4 s = some q) : zfr 262144 s (Sum.elim (fun e : (Int × zS) => e.2) (fun e : (zS) => e) q) := by
  unfold b_121_18 at h
  obtain ⟨hg1, h⟩ := zg_some h
  obtain ⟨hg2, h⟩ := zg_some h
  by_cases hc3 : v4 < v3
  · rw [if_pos hc3] at h
    obtain ⟨hg4, h⟩ := zg_some h
    obtain ⟨hg5, h⟩ := zg_some h
    cases h
    exact (zfr_tr (zfr_tr (zfr_rf _ _) (zfr_J rfl)) (zfr_J rfl))
  · rw [if_neg hc3] at h
    cases h
    exact (zfr_rf _ _)
theorem frl_121_18 {v1 : Int} {v2 : Int} {v3 : Int} {n : Nat} {e0 : (Int × zS)} {t : (zS)} (h : zlp (fun (q : Int × zS) => b_121_18 v1 v2 v3 q.1 q.2) n e0 = some t) : zfr 262144 ((fun e : (Int × zS) => e.2) e0) ((fun e : (zS) => e) t) := zfr_lp (f := (fun e : (Int × zS) => e.2)) (g := (fun e : (zS) => e)) (fun e q h1 => frb_121_18 h1) n e0 t h
theorem frb_121_10 {v1 : Int} {v2 : Int} {v3 : Int} {s : zS} {q : (Int × zS) ⊕ (zS)} (h : b_121_10 v1 v2 v3 s = some q) : zfr 262144 s (Sum.elim (fun e : (Int × zS) => e.2) (fun e : (zS) => e) q) := by
  unfold b_121_10 at h
  obtain ⟨hg1, h⟩ := zg_some h
  obtain ⟨hg2, h⟩ := zg_some h
  by_cases hc3 : v3 < v2
  · rw [if_pos hc3] at h
    obtain ⟨e4, h5, h⟩ := zo_some h
    have f6 : zfr 262144 s e4 := zfr_tr (zfr_rf _ _) (frl_121_18 h5)
    cases h
    exact f6
  · rw [if_neg hc3] at h
    cases h
    exact (zfr_rf _ _)
theorem frl_121_10 {v1 : Int} {v2 : Int} {n : Nat} {e0 : (Int × zS)} {t : (zS)} (h : zlp (fun (q : Int × zS) => b_121_10 v1 v2 q.1 q.2) n e0 = some t) : zfr 262144 ((fun e : (Int × zS) => e.2) e0) ((fun e : (zS) => e) t) := zfr_lp (f := (fun e : (Int × zS) => e.2)) (g := (fun e : (zS) => e)) (fun e q h1 => frb_121_10 h1) n e0 t h
theorem fr_121 {v1 : Int} {s : zS} {q : (Unit × zS)} (h : f_121 v1 s = some q) : zfr 262144 s q.2 := by
  unfold f_121 at h
  obtain ⟨e1, h2, h⟩ := zo_some h
  have f3 : zfr 262144 s e1 := zfr_tr (zfr_rf _ _) (frl_121_10 h2)
  cases h
  exact f3
theorem frb_122_27 {v1 : Int} {v2 : Int} {v3 : Int} {v4 : Int} {v5 : Int} {s : zS} {q : (Int × zS) ⊕ (zS)} (h : b_122_27 v1 v2 v3 v4 v5 s = some q) : zfr 262144 s (Sum.elim (fun e : (Int × zS) => e.2) (fun e : (zS) => e) q) := by
  unfold b_122_27 at h
  obtain ⟨hg1, h⟩ := zg_some h
  obtain ⟨hg2, h⟩ := zg_some h
  by_cases hc3 : v5 < v2
  · rw [if_pos hc3] at h
    obtain ⟨hg4, h⟩ := zg_some h
    obtain ⟨hg5, h⟩ := zg_some h
    obtain ⟨hg6, h⟩ := zg_some h
    cases h
    exact (zfr_tr (zfr_rf _ _) (zfr_J rfl))
  · rw [if_neg hc3] at h
    cases h
    exact (zfr_rf _ _)
theorem frl_122_27 {v1 : Int} {v2 : Int} {v3 : Int} {v4 : Int} {n : Nat} {e0 : (Int × zS)} {t : (zS)} (h : zlp (fun (q : Int × zS) => b_122_27 v1 v2 v3 v4 q.1 q.2) n e0 = some t) : zfr 262144 ((fun e : (Int × zS) => e.2) e0) ((fun e : (zS) => e) t) := zfr_lp (f := (fun e : (Int × zS) => e.2)) (g := (fun e : (zS) => e)) (fun e q h1 => frb_122_27 h1) n e0 t h
theorem frb_122_18 {v1 : Int} {v2 : Int} {v3 : Int} {v4 : Int} {s : zS} {q : (Int × zS) ⊕ (zS)} (h : b_122_18 v1 v2 v3 v4 s = some q) : zfr 262144 s (Sum.elim (fun e : (Int × zS) => e.2) (fun e : (zS) => e) q) := by
  unfold b_122_18 at h
  obtain ⟨hg1, h⟩ := zg_some h
  obtain ⟨hg2, h⟩ := zg_some h
  by_cases hc3 : v4 < v2
  · rw [if_pos hc3] at h
    obtain ⟨e4, h5, h⟩ := zo_some h
    have f6 : zfr 262144 s e4 := zfr_tr (zfr_rf _ _) (frl_122_27 h5)
    cases h
    exact f6
  · rw [if_neg hc3] at h
    cases h
    exact (zfr_rf _ _)
theorem frl_122_18 {v1 : Int} {v2 : Int} {v3 : Int} {n : Nat} {e0 : (Int × zS)} {t : (zS)} (h : zlp (fun (q : Int × zS) => b_122_18 v1 v2 v3 q.1 q.2) n e0 = some t) : zfr 262144 ((fun e : (Int × zS) => e.2) e0) ((fun e : (zS) => e) t) := zfr_lp (f := (fun e : (Int × zS) => e.2)) (g := (fun e : (zS) => e)) (fun e q h1 => frb_122_18 h1) n e0 t h
theorem frb_122_10 {v1 : Int} {v2 : Int} {v3 : Int} {s : zS} {q : (Int × zS) ⊕ (zS)} (h : b_122_10 v1 v2 v3 s = some q) : zfr 262144 s (Sum.elim (fun e : (Int × zS) => e.2) (fun e : (zS) => e) q) := by
  unfold b_122_10 at h
  obtain ⟨hg1, h⟩ := zg_some h
  obtain ⟨hg2, h⟩ := zg_some h
  by_cases hc3 : v3 < v2
  · rw [if_pos hc3] at h
    obtain ⟨e4, h5, h⟩ := zo_some h
    have f6 : zfr 262144 s e4 := zfr_tr (zfr_rf _ _) (frl_122_18 h5)
    cases h
    exact f6
  · rw [if_neg hc3] at h
    cases h
    exact (zfr_rf _ _)
theorem frl_122_10 {v1 : Int} {v2 : Int} {n : Nat} {e0 : (Int × zS)} {t : (zS)} (h : zlp (fun (q : Int × zS) => b_122_10 v1 v2 q.1 q.2) n e0 = some t) : zfr 262144 ((fun e : (Int × zS) => e.2) e0) ((fun e : (zS) => e) t) := zfr_lp (f := (fun e : (Int × zS) => e.2)) (g := (fun e : (zS) => e)) (fun e q h1 => frb_122_10 h1) n e0 t h
theorem fr_122 {v1 : Int} {s : zS} {q : (Unit × zS)} (h : f_122 v1 s = some q) : zfr 262144 s q.2 := by
  unfold f_122 at h
  obtain ⟨e1, h2, h⟩ := zo_some h
  have f3 : zfr 262144 s e1 := zfr_tr (zfr_rf _ _) (frl_122_10 h2)
  cases h
  exact f3
theorem fr_120 {v1 : Int} {s : zS} {q : (Unit × zS)} (h : f_120 v1 s = some q) : zfr 262144 s q.2 := by
  unfold f_120 at h
  by_cases hc1 : (gI s 17 3) < 1
  · rw [if_pos hc1] at h
    cases h
    exact (zfr_rf _ _)
  · rw [if_neg hc1] at h
    obtain ⟨hg2, h⟩ := zg_some h
    by_cases hc3 : v1 = 9
    · rw [if_pos hc3] at h
      obtain ⟨hg4, h⟩ := zg_some h
      by_cases hc5 : v1 = 30
      · rw [if_pos hc5] at h
        obtain ⟨r7, s8, h6, h⟩ := zb_some h
        have f9 := zfr_tr (zfr_tr (zfr_rf _ _) (zfr_J rfl)) (zfr_sub (m2 := 262144) rfl (fr_116 h6))
        cases h
        exact f9
      · rw [if_neg hc5] at h
        cases h
        exact (zfr_tr (zfr_rf _ _) (zfr_J rfl))
    · rw [if_neg hc3] at h
      by_cases hc10 : v1 = 28
      · rw [if_pos hc10] at h
        obtain ⟨r12, s13, h11, h⟩ := zb_some h
        have f14 := zfr_tr (zfr_rf _ _) (zfr_sub (m2 := 262144) rfl (fr_121 h11))
        by_cases hc15 : v1 = 30
        · rw [if_pos hc15] at h
          obtain ⟨r17, s18, h16, h⟩ := zb_some h
          have f19 := zfr_tr f14 (zfr_sub (m2 := 262144) rfl (fr_116 h16))
          cases h
          exact f19
        · rw [if_neg hc15] at h
          cases h
          exact f14
      · rw [if_neg hc10] at h
        obtain ⟨r21, s22, h20, h⟩ := zb_some h
        have f23 := zfr_tr (zfr_rf _ _) (zfr_sub (m2 := 262144) rfl (fr_122 h20))
        by_cases hc24 : v1 = 30
        · rw [if_pos hc24] at h
          obtain ⟨r26, s27, h25, h⟩ := zb_some h
          have f28 := zfr_tr f23 (zfr_sub (m2 := 262144) rfl (fr_116 h25))
          cases h
          exact f28
        · rw [if_neg hc24] at h
          cases h
          exact f23
theorem fr_123 {v1 : Int} {s : zS} {q : (Unit × zS)} (h : f_123 v1 s = some q) : zfr 917504 s q.2 := by
  unfold f_123 at h
  by_cases hc1 : (gI s 17 3) < 2
  · rw [if_pos hc1] at h
    cases h
    exact (zfr_rf _ _)
  · rw [if_neg hc1] at h
    obtain ⟨hg2, h⟩ := zg_some h
    obtain ⟨r4, h3, h⟩ := zo_some h
    obtain ⟨e5, h6, h⟩ := zo_some h
    obtain ⟨hg7, h⟩ := zg_some h
    cases h
    exact (zfr_tr (zfr_tr (zfr_tr (zfr_rf _ _) (zfr_I rfl)) (zfr_J rfl)) (zfr_I rfl))
theorem frb_124_100 {v1 : Int} {v2 : Int} {v3 : Int} {v4 : Int} {v5 : Int} {v6 : Int} {v7 : Int} {s : zS} {q : (Int × zS) ⊕ (zS)} (h : b_124_100 v1 v2 v3 v4 v5 v6 v7 s = some q) : zfr 3014656 s (Sum.elim (fun e : (Int × zS) => e.2) (fun e : (zS) => e) q) := by
  unfold b_124_100 at h
  obtain ⟨hg1, h⟩ := zg_some h
  obtain ⟨hg2, h⟩ := zg_some h
  by_cases hc3 : v7 < v5
  · rw [if_pos hc3] at h
    obtain ⟨hg4, h⟩ := zg_some h
    cases h
    exact (zfr_tr (zfr_rf _ _) (zfr_J rfl))
  · rw [if_neg hc3] at h
    cases h
    exact (zfr_rf _ _)
theorem frl_124_100 {v1 : Int} {v2 : Int} {v3 : Int} {v4 : Int} {v5 : Int} {v6 : Int} {n : Nat} {e0 : (Int × zS)} {t : (zS)} (h : zlp (fun (q : Int × zS) => b_124_100 v1 v2 v3 v4 v5 v6 q.1 q.2) n e0 = some t) : zfr 3014656 ((fun e : (Int × zS) => e.2) e0) ((fun e : (zS) => e) t) := zfr_lp (f := (fun e : (Int × zS) => e.2)) (g := (fun e : (zS) => e)) (fun e q h1 => frb_124_100 h1) n e0 t h
theorem frb_124_155 {v1 : Int} {v2 : Int} {v3 : Int} {v4 : Int} {v5 : Int} {v6 : Int} {v7 : Int} {w8 : BitVec 64} {v10 : Int} {s : zS} {q : (Int × zS) ⊕ (zS)} (h : b_124_155 v1 v2 v3 v4 v5 v6 v7 w8 v10 s = some q) : zfr 3014656 s (Sum.elim (fun e : (Int × zS) => e.2) (fun e : (zS) => e) q) := by
  unfold b_124_155 at h
  obtain ⟨hg1, h⟩ := zg_some h
  obtain ⟨hg2, h⟩ := zg_some h
  by_cases hc3 : v10 < v5
  · rw [if_pos hc3] at h
    by_cases hc4 : w8 = (0#64)
    · rw [if_pos hc4] at h
      cases h
      exact (zfr_rf _ _)
    · rw [if_neg hc4] at h
      obtain ⟨hg5, h⟩ := zg_some h
      obtain ⟨hg6, h⟩ := zg_some h
      cases h
      exact (zfr_tr (zfr_rf _ _) (zfr_J rfl))
  · rw [if_neg hc3] at h
    cases h
    exact (zfr_rf _ _)
theorem frl_124_155 {v1 : Int} {v2 : Int} {v3 : Int} {v4 : Int} {v5 : Int} {v6 : Int} {v7 : Int} {w8 : BitVec 64} {n : Nat} {e0 : (Int × zS)} {t : (zS)} (h : zlp (fun (q : Int × zS) => b_124_155 v1 v2 v3 v4 v5 v6 v7 w8 q.1 q.2) n e0 = some t) : zfr 3014656 ((fun e : (Int × zS) => e.2) e0) ((fun e : (zS) => e) t) := zfr_lp (f := (fun e : (Int × zS) => e.2)) (g := (fun e : (zS) => e)) (fun e q h1 => frb_124_155 h1) n e0 t h
theorem frb_124_130 {v1 : Int} {v2 : Int} {v3 : Int} {v4 : Int} {v5 : Int} {v6 : Int} {v7 : Int} {s : zS} {q : (Int × zS) ⊕ (zS)} (h : b_124_130 v1 v2 v3 v4 v5 v6 v7 s = some q) : zfr 3014656 s (Sum.elim (fun e : (Int × zS) => e.2) (fun e : (zS) => e) q) := by
  unfold b_124_130 at h
  obtain ⟨hg1, h⟩ := zg_some h
  obtain ⟨hg2, h⟩ := zg_some h
  by_cases hc3 : v7 < v1
  · rw [if_pos hc3] at h
    obtain ⟨hg4, h⟩ := zg_some h
    obtain ⟨e5, h6, h⟩ := zo_some h
    have f7 : zfr 3014656 s e5 := zfr_tr (zfr_rf _ _) (frl_124_155 h6)
    cases h
    exact f7
  · rw [if_neg hc3] at h
    cases h
    exact (zfr_rf _ _)
theorem frl_124_130 {v1 : Int} {v2 : Int} {v3 : Int} {v4 : Int} {v5 : Int} {v6 : Int} {n : Nat} {e0 : (Int × zS)} {t : (zS)} (h : zlp (fun (q : Int × zS) => b_124_130 v1 v2 v3 v4 v5 v6 q.1 q.2) n e0 = some t) : zfr 3014656 ((fun e : (Int × zS) => e.2) e0) ((fun e : (zS) => e) t) := zfr_lp (f := (fun e : (Int × zS) => e.2)) (g := (fun e : (zS) => e)) (fun e q h1 => frb_124_130 h1) n e0 t h
theorem frb_124_90 {v1 : Int} {v2 : Int} {v3 : Int} {v4 : Int} {v5 : Int} {v6 : Int} {s : zS} {q : (Int × zS) ⊕ (zS)} (h : b_124_90 v1 v2 v3 v4 v5 v6 s = some q) : zfr 3014656 s (Sum.elim (fun e : (Int × zS) => e.2) (fun e : (zS) => e) q) := by
  unfold b_124_90 at h
  obtain ⟨hg1, h⟩ := zg_some h
  obtain ⟨hg2, h⟩ := zg_some h
  by_cases hc3 : v6 < v4
  · rw [if_pos hc3] at h
    obtain ⟨e4, h5, h⟩ := zo_some h
    have f6 : zfr 3014656 s e4 := zfr_tr (zfr_rf _ _) (frl_124_100 h5)
    obtain ⟨e7, h8, h⟩ := zo_some h
    have f9 : zfr 3014656 s e7 := zfr_tr f6 (frl_124_130 h8)
    cases h
    exact f9
  · rw [if_neg hc3] at h
    cases h
    exact (zfr_rf _ _)
theorem frl_124_90 {v1 : Int} {v2 : Int} {v3 : Int} {v4 : Int} {v5 : Int} {n : Nat} {e0 : (Int × zS)} {t : (zS)} (h : zlp (fun (q : Int × zS) => b_124_90 v1 v2 v3 v4 v5 q.1 q.2) n e0 = some t) : zfr 3014656 ((fun e : (Int × zS) => e.2) e0) ((fun e : (zS) => e) t) := zfr_lp (f := (fun e : (Int × zS) => e.2)) (g := (fun e : (zS) => e)) (fun e q h1 => frb_124_90 h1) n e0 t h
theorem fr_124 {s : zS} {q : (Unit × zS)} (h : f_124 s = some q) : zfr 3014656 s q.2 := by
  unfold f_124 at h
  by_cases hc1 : (gI s 17 3) < 2
  · rw [if_pos hc1] at h
    cases h
    exact (zfr_rf _ _)
  · rw [if_neg hc1] at h
    obtain ⟨hg2, h⟩ := zg_some h
    obtain ⟨r4, h3, h⟩ := zo_some h
    obtain ⟨hg5, h⟩ := zg_some h
    obtain ⟨r7, h6, h⟩ := zo_some h
    obtain ⟨e8, h9, h⟩ := zo_some h
    have f10 : zfr 3014656 s e8 := zfr_tr (zfr_tr (zfr_rf _ _) (zfr_I rfl)) (frl_124_90 h9)
    obtain ⟨hg11, h⟩ := zg_some h
    obtain ⟨hg12, h⟩ := zg_some h
    obtain ⟨hg13, h⟩ := zg_some h
    cases h
    exact (zfr_tr (zfr_tr f10 (zfr_cp rfl)) (zfr_I rfl))
theorem frb_125_86 {v1 : Int} {v2 : Int} {v3 : Int} {v4 : Int} {v5 : Int} {v6 : Int} {s : zS} {q : (Int × zS) ⊕ (zS)} (h : b_125_86 v1 v2 v3 v4 v5 v6 s = some q) : zfr 3014656 s (Sum.elim (fun e : (Int × zS) => e.2) (fun e : (zS) => e) q) := by
  unfold b_125_86 at h
  obtain ⟨hg1, h⟩ := zg_some h
  obtain ⟨hg2, h⟩ := zg_some h
  by_cases hc3 : v6 < v4
  · rw [if_pos hc3] at h
    obtain ⟨hg4, h⟩ := zg_some h
    obtain ⟨hg5, h⟩ := zg_some h
    obtain ⟨hg6, h⟩ := zg_some h
    cases h
    exact (zfr_tr (zfr_rf _ _) (zfr_J rfl))
  · rw [if_neg hc3] at h
    cases h
    exact (zfr_rf _ _)
theorem frl_125_86 {v1 : Int} {v2 : Int} {v3 : Int} {v4 : Int} {v5 : Int} {n : Nat} {e0 : (Int × zS)} {t : (zS)} (h : zlp (fun (q : Int × zS) => b_125_86 v1 v2 v3 v4 v5 q.1 q.2) n e0 = some t) : zfr 3014656 ((fun e : (Int × zS) => e.2) e0) ((fun e : (zS) => e) t) := zfr_lp (f := (fun e : (Int × zS) => e.2)) (g := (fun e : (zS) => e)) (fun e q h1 => frb_125_86 h1) n e0 t h
theorem frb_125_77 {v1 : Int} {v2 : Int} {v3 : Int} {v4 : Int} {v5 : Int} {s : zS} {q : (Int × zS) ⊕ (zS)} (h : b_125_77 v1 v2 v3 v4 v5 s = some q) : zfr 3014656 s (Sum.elim (fun e : (Int × zS) => e.2) (fun e : (zS) => e) q) := by
  unfold b_125_77 at h
  obtain ⟨hg1, h⟩ := zg_some h
  obtain ⟨hg2, h⟩ := zg_some h
  by_cases hc3 : v5 < v3
  · rw [if_pos hc3] at h
    obtain ⟨e4, h5, h⟩ := zo_some h
    have f6 : zfr 3014656 s e4 := zfr_tr (zfr_rf _ _) (frl_125_86 h5)
    cases h
    exact f6
  · rw [if_neg hc3] at h
    cases h
    exact (zfr_rf _ _)
theorem frl_125_77 {v1 : Int} {v2 : Int} {v3 : Int} {v4 : Int} {n : Nat} {e0 : (Int × zS)} {t : (zS)} (h : zlp (fun (q : Int × zS) => b_125_77 v1 v2 v3 v4 q.1 q.2) n e0 = some t) : zfr 3014656 ((fun e : (Int × zS) => e.2) e0) ((fun e : (zS) => e) t) := zfr_lp (f := (fun e : (Int × zS) => e.2)) (g := (fun e : (zS) => e)) (fun e q h1 => frb_125_77 h1) n e0 t h
theorem fr_125 {s : zS} {q : (Unit × zS)} (h : f_125 s = some q) : zfr 3014656 s q.2 := by
  unfold f_125 at h
  by_cases hc1 : (gI s 17 3) < 2
  · rw [if_pos hc1] at h
    cases h
    exact (zfr_rf _ _)
  · rw [if_neg hc1] at h
    obtain ⟨hg2, h⟩ := zg_some h
    obtain ⟨r4, h3, h⟩ := zo_some h
    obtain ⟨hg5, h⟩ := zg_some h
    obtain ⟨r7, h6, h⟩ := zo_some h
    obtain ⟨e8, h9, h⟩ := zo_some h
    have f10 : zfr 3014656 s e8 := zfr_tr (zfr_tr (zfr_rf _ _) (zfr_I rfl)) (frl_125_77 h9)
    obtain ⟨hg11, h⟩ := zg_some h
    obtain ⟨hg12, h⟩ := zg_some h
    obtain ⟨hg13, h⟩ := zg_some h
    cases h
    exact (zfr_tr (zfr_tr f10 (zfr_cp rfl)) (zfr_I rfl))
theorem frb_126_77 {v1 : Int} {v2 : Int} {v3 : Int} {v4 : Int} {v5 : Int} {v6 : Int} {s : zS} {q : (Int × zS) ⊕ (zS)} (h : b_126_77 v1 v2 v3 v4 v5 v6 s = some q) : zfr 3014656 s (Sum.elim (fun e : (Int × zS) => e.2) (fun e : (zS) => e) q) := by
  unfold b_126_77 at h
  obtain ⟨hg1, h⟩ := zg_some h
  obtain ⟨hg2, h⟩ := zg_some h
  by_cases hc3 : v6 < v4
  · rw [if_pos hc3] at h
    obtain ⟨hg4, h⟩ := zg_some h
    obtain ⟨hg5, h⟩ := zg_some h
    obtain ⟨hg6, h⟩ := zg_some h
    cases h
    exact (zfr_tr (zfr_rf _ _) (zfr_J rfl))
  · rw [if_neg hc3] at h
    cases h
    exact (zfr_rf _ _)
theorem frl_126_77 {v1 : Int} {v2 : Int} {v3 : Int} {v4 : Int} {v5 : Int} {n : Nat} {e0 : (Int × zS)} {t : (zS)} (h : zlp (fun (q : Int × zS) => b_126_77 v1 v2 v3 v4 v5 q.1 q.2) n e0 = some t) : zfr 3014656 ((fun e : (Int × zS) => e.2) e0) ((fun e : (zS) => e) t) := zfr_lp (f := (fun e : (Int × zS) => e.2)) (g := (fun e : (zS) => e)) (fun e q h1 => frb_126_77 h1) n e0 t h
theorem frb_126_68 {v1 : Int} {v2 : Int} {v3 : Int} {v4 : Int} {v5 : Int} {s : zS} {q : (Int × zS) ⊕ (zS)} (h : b_126_68 v1 v2 v3 v4 v5 s = some q) : zfr 3014656 s (Sum.elim (fun e : (Int × zS) => e.2) (fun e : (zS) => e) q) := by
  unfold b_126_68 at h
  obtain ⟨hg1, h⟩ := zg_some h
  obtain ⟨hg2, h⟩ := zg_some h
  by_cases hc3 : v5 < v3
  · rw [if_pos hc3] at h
    obtain ⟨e4, h5, h⟩ := zo_some h
    have f6 : zfr 3014656 s e4 := zfr_tr (zfr_rf _ _) (frl_126_77 h5)
    cases h
    exact f6
  · rw [if_neg hc3] at h
    cases h
    exact (zfr_rf _ _)
theorem frl_126_68 {v1 : Int} {v2 : Int} {v3 : Int} {v4 : Int} {n : Nat} {e0 : (Int × zS)} {t : (zS)} (h : zlp (fun (q : Int × zS) => b_126_68 v1 v2 v3 v4 q.1 q.2) n e0 = some t) : zfr 3014656 ((fun e : (Int × zS) => e.2) e0) ((fun e : (zS) => e) t) := zfr_lp (f := (fun e : (Int × zS) => e.2)) (g := (fun e : (zS) => e)) (fun e q h1 => frb_126_68 h1) n e0 t h
theorem fr_126 {s : zS} {q : (Unit × zS)} (h : f_126 s = some q) : zfr 3014656 s q.2 := by
  unfold f_126 at h
  by_cases hc1 : (gI s 17 3) < 2
  · rw [if_pos hc1] at h
    cases h
    exact (zfr_rf _ _)
  · rw [if_neg hc1] at h
    obtain ⟨hg2, h⟩ := zg_some h
    obtain ⟨r4, h3, h⟩ := zo_some h
    obtain ⟨e5, h6, h⟩ := zo_some h
    have f7 : zfr 3014656 s e5 := zfr_tr (zfr_tr (zfr_rf _ _) (zfr_I rfl)) (frl_126_68 h6)
    obtain ⟨hg8, h⟩ := zg_some h
    obtain ⟨hg9, h⟩ := zg_some h
    obtain ⟨hg10, h⟩ := zg_some h
    cases h
    exact (zfr_tr (zfr_tr f7 (zfr_cp rfl)) (zfr_I rfl))
theorem frb_128_57 {v1 : Int} {v2 : Int} {v3 : Int} {v4 : Int} {w5 : BitVec 64} {v7 : Int} {s : zS} {q : (Int × zS) ⊕ (zS)} (h : b_128_57 v1 v2 v3 v4 w5 v7 s = some q) : zfr 262144 s (Sum.elim (fun e : (Int × zS) => e.2) (fun e : (zS) => e) q) := by
  unfold b_128_57 at h
  obtain ⟨hg1, h⟩ := zg_some h
  obtain ⟨hg2, h⟩ := zg_some h
  by_cases hc3 : v7 < v3
  · rw [if_pos hc3] at h
    obtain ⟨hg4, h⟩ := zg_some h
    cases h
    exact (zfr_tr (zfr_rf _ _) (zfr_J rfl))
  · rw [if_neg hc3] at h
    cases h
    exact (zfr_rf _ _)
theorem frl_128_57 {v1 : Int} {v2 : Int} {v3 : Int} {v4 : Int} {w5 : BitVec 64} {n : Nat} {e0 : (Int × zS)} {t : (zS)} (h : zlp (fun (q : Int × zS) => b_128_57 v1 v2 v3 v4 w5 q.1 q.2) n e0 = some t) : zfr 262144 ((fun e : (Int × zS) => e.2) e0) ((fun e : (zS) => e) t) := zfr_lp (f := (fun e : (Int × zS) => e.2)) (g := (fun e : (zS) => e)) (fun e q h1 => frb_128_57 h1) n e0 t h
theorem frb_128_11 {v1 : Int} {v2 : Int} {v3 : Int} {v4 : Int} {s : zS} {q : (Int × zS) ⊕ (zS)} (h : b_128_11 v1 v2 v3 v4 s = some q) : zfr 262144 s (Sum.elim (fun e : (Int × zS) => e.2) (fun e : (zS) => e) q) := by
  unfold b_128_11 at h
  obtain ⟨hg1, h⟩ := zg_some h
  obtain ⟨hg2, h⟩ := zg_some h
  by_cases hc3 : v4 < v3
  · rw [if_pos hc3] at h
    obtain ⟨e4, h5, h⟩ := zo_some h
    obtain ⟨e6, h7, h⟩ := zo_some h
    have f8 : zfr 262144 s e6 := zfr_tr (zfr_rf _ _) (frl_128_57 h7)
    cases h
    exact f8
  · rw [if_neg hc3] at h
    cases h
    exact (zfr_rf _ _)
theorem frl_128_11 {v1 : Int} {v2 : Int} {v3 : Int} {n : Nat} {e0 : (Int × zS)} {t : (zS)} (h : zlp (fun (q : Int × zS) => b_128_11 v1 v2 v3 q.1 q.2) n e0 = some t) : zfr 262144 ((fun e : (Int × zS) => e.2) e0) ((fun e : (zS) => e) t) := zfr_lp (f := (fun e : (Int × zS) => e.2)) (g := (fun e : (zS) => e)) (fun e q h1 => frb_128_11 h1) n e0 t h
theorem fr_128 {v1 : Int} {v2 : Int} {s : zS} {q : (Unit × zS)} (h : f_128 v1 v2 s = some q) : zfr 262144 s q.2 := by
  unfold f_128 at h
  obtain ⟨e1, h2, h⟩ := zo_some h
  have f3 : zfr 262144 s e1 := zfr_tr (zfr_rf _ _) (frl_128_11 h2)
  cases h
  exact f3
theorem frb_127_95 {v1 : Int} {v2 : Int} {v3 : Int} {v4 : Int} {v5 : Int} {v6 : Int} {v7 : Int} {s : zS} {q : (Int × Int × zS) ⊕ (zS)} (h : b_127_95 v1 v2 v3 v4 v5 v6 v7 s = some q) : zfr 393216 s (Sum.elim (fun e : (Int × Int × zS) => e.2.2) (fun e : (zS) => e) q) := by
  unfold b_127_95 at h
  obtain ⟨hg1, h⟩ := zg_some h
  obtain ⟨hg2, h⟩ := zg_some h
  by_cases hc3 : v6 < v4
  · rw [if_pos hc3] at h
    obtain ⟨hg4, h⟩ := zg_some h
    obtain ⟨hg5, h⟩ := zg_some h
    obtain ⟨r7, h6, h⟩ := zo_some h
    obtain ⟨hg8, h⟩ := zg_some h
    obtain ⟨hg9, h⟩ := zg_some h
    by_cases hc10 : (v7 + 1) < v5
    · rw [if_pos hc10] at h
      cases h
      exact (zfr_tr (zfr_rf _ _) (zfr_J rfl))
    · rw [if_neg hc10] at h
      cases h
      exact (zfr_tr (zfr_rf _ _) (zfr_J rfl))
  · rw [if_neg hc3] at h
    cases h
    exact (zfr_rf _ _)
theorem frl_127_95 {v1 : Int} {v2 : Int} {v3 : Int} {v4 : Int} {v5 : Int} {n : Nat} {e0 : (Int × Int × zS)} {t : (zS)} (h : zlp (fun (q : Int × Int × zS) => b_127_95 v1 v2 v3 v4 v5 q.1 q.2.1 q.2.2) n e0 = some t) : zfr 393216 ((fun e : (Int × Int × zS) => e.2.2) e0) ((fun e : (zS) => e) t) := zfr_lp (f := (fun e : (Int × Int × zS) => e.2.2)) (g := (fun e : (zS) => e)) (fun e q h1 => frb_127_95 h1) n e0 t h
theorem frj_127_87 {v1 : Int} {v2 : Int} {v3 : Int} {v4 : Int} {t0 : Int} {s : zS} {q : (Unit × zS)} (h : j_127_87 v1 v2 v3 v4 t0 s = some q) : zfr 393216 s q.2 := by
  unfold j_127_87 at h
  obtain ⟨e1, h2, h⟩ := zo_some h
  have f3 : zfr 393216 s e1 := zfr_tr (zfr_rf _ _) (frl_127_95 h2)
  cases h
  exact f3
theorem frj_127_49 {v1 : Int} {v2 : Int} {v3 : Int} {s : zS} {q : (Unit × zS)} (h : j_127_49 v1 v2 v3 s = some q) : zfr 393216 s q.2 := by
  unfold j_127_49 at h
  obtain ⟨hg1, h⟩ := zg_some h
  obtain ⟨r3, h2, h⟩ := zo_some h
  obtain ⟨hg4, h⟩ := zg_some h
  by_cases hc5 : v1 = 23
  · rw [if_pos hc5] at h
    exact zfr_tr (zfr_rf _ _) (frj_127_87 h)
  · rw [if_neg hc5] at h
    exact zfr_tr (zfr_rf _ _) (frj_127_87 h)
theorem fr_127 {v1 : Int} {s : zS} {q : (Unit × zS)} (h : f_127 v1 s = some q) : zfr 393216 s q.2 := by
  unfold f_127 at h
  by_cases hc1 : (gI s 17 3) < 2
  · rw [if_pos hc1] at h
    cases h
    exact (zfr_rf _ _)
  · rw [if_neg hc1] at h
    obtain ⟨hg2, h⟩ := zg_some h
    by_cases hc3 : v1 = 21
    · rw [if_pos hc3] at h
      obtain ⟨r5, s6, h4, h⟩ := zb_some h
      have f7 := zfr_tr (zfr_tr (zfr_rf _ _) (zfr_I rfl)) (zfr_sub (m2 := 393216) rfl (fr_128 h4))
      exact zfr_tr f7 (frj_127_49 h)
    · rw [if_neg hc3] at h
      exact zfr_tr (zfr_tr (zfr_rf _ _) (zfr_I rfl)) (frj_127_49 h)
theorem fr_114 {c1 : Nat} {v2 : Int} {s : zS} {q : (Unit × zS)} (h : f_114 c1 v2 s = some q) : zfr 7208960 s q.2 := by
  unfold f_114 at h
  obtain ⟨hg1, h⟩ := zg_some h
  obtain ⟨hg2, h⟩ := zg_some h
  by_cases hc3 : t_114_8 (gI s (c1 + 1) v2) = 184
  · rw [if_pos hc3] at h
    by_cases hc4 : (gI s (c1 + 1) v2) = 43
    · rw [if_pos hc4] at h
      obtain ⟨hg5, h⟩ := zg_some h
      obtain ⟨r7, s8, h6, h⟩ := zb_some h
      have f9 := zfr_tr (zfr_rf _ _) (zfr_sub (m2 := 7208960) rfl (fr_115 h6))
      cases h
      exact f9
    · rw [if_neg hc4] at h
      obtain ⟨r11, s12, h10, h⟩ := zb_some h
      have f13 := zfr_tr (zfr_rf _ _) (zfr_sub (m2 := 7208960) rfl (fr_115 h10))
      cases h
      exact f13
  · rw [if_neg hc3] at h
    by_cases hc14 : t_114_8 (gI s (c1 + 1) v2) = 213
    · rw [if_pos hc14] at h
      obtain ⟨r16, s17, h15, h⟩ := zb_some h
      have f18 := zfr_tr (zfr_rf _ _) (zfr_sub (m2 := 7208960) rfl (fr_117 h15))
      cases h
      exact f18
    · rw [if_neg hc14] at h
      by_cases hc19 : t_114_8 (gI s (c1 + 1) v2) = 226
      · rw [if_pos hc19] at h
        obtain ⟨r21, s22, h20, h⟩ := zb_some h
        have f23 := zfr_tr (zfr_rf _ _) (zfr_sub (m2 := 7208960) rfl (fr_118 h20))
        cases h
        exact f23
      · rw [if_neg hc19] at h
        by_cases hc24 : t_114_8 (gI s (c1 + 1) v2) = 245
        · rw [if_pos hc24] at h
          obtain ⟨r26, s27, h25, h⟩ := zb_some h
          have f28 := zfr_tr (zfr_rf _ _) (zfr_sub (m2 := 7208960) rfl (fr_119 h25))
          cases h
          exact f28
        · rw [if_neg hc24] at h
          by_cases hc29 : t_114_8 (gI s (c1 + 1) v2) = 253
          · rw [if_pos hc29] at h
            obtain ⟨r31, s32, h30, h⟩ := zb_some h
            have f33 := zfr_tr (zfr_rf _ _) (zfr_sub (m2 := 7208960) rfl (fr_120 h30))
            cases h
            exact f33
          · rw [if_neg hc29] at h
            by_cases hc34 : t_114_8 (gI s (c1 + 1) v2) = 261
            · rw [if_pos hc34] at h
              obtain ⟨r36, s37, h35, h⟩ := zb_some h
              have f38 := zfr_tr (zfr_rf _ _) (zfr_sub (m2 := 7208960) rfl (fr_123 h35))
              cases h
              exact f38
            · rw [if_neg hc34] at h
              by_cases hc39 : t_114_8 (gI s (c1 + 1) v2) = 269
              · rw [if_pos hc39] at h
                obtain ⟨r41, s42, h40, h⟩ := zb_some h
                have f43 := zfr_tr (zfr_rf _ _) (zfr_sub (m2 := 7208960) rfl (fr_124 h40))
                cases h
                exact f43
              · rw [if_neg hc39] at h
                by_cases hc44 : t_114_8 (gI s (c1 + 1) v2) = 276
                · rw [if_pos hc44] at h
                  obtain ⟨r46, s47, h45, h⟩ := zb_some h
                  have f48 := zfr_tr (zfr_rf _ _) (zfr_sub (m2 := 7208960) rfl (fr_125 h45))
                  cases h
                  exact f48
                · rw [if_neg hc44] at h
                  by_cases hc49 : t_114_8 (gI s (c1 + 1) v2) = 283
                  · rw [if_pos hc49] at h
                    obtain ⟨r51, s52, h50, h⟩ := zb_some h
                    have f53 := zfr_tr (zfr_rf _ _) (zfr_sub (m2 := 7208960) rfl (fr_126 h50))
                    cases h
                    exact f53
                  · rw [if_neg hc49] at h
                    by_cases hc54 : t_114_8 (gI s (c1 + 1) v2) = 290
                    · rw [if_pos hc54] at h
                      obtain ⟨r56, s57, h55, h⟩ := zb_some h
                      have f58 := zfr_tr (zfr_rf _ _) (zfr_sub (m2 := 7208960) rfl (fr_127 h55))
                      cases h
                      exact f58
                    · rw [if_neg hc54] at h
                      cases h
theorem frj_112_84 {rec : Nat → Int → Int → BitVec 64 → Int → zS → Option (Unit × zS)} {c1 : Nat} {v2 : Int} {v6 : Int} {w7 : BitVec 64} {u0 : BitVec 64} {s : zS} {q : (Unit × zS)}  (hfr : zFrec rec) (h : j_112_84 rec c1 v2 v6 w7 u0 s = some q) : zfr 33423360 s q.2 := by
  unfold j_112_84 at h
  obtain ⟨hg1, h⟩ := zg_some h
  obtain ⟨hg2, h⟩ := zg_some h
  obtain ⟨r4, h3, h⟩ := zo_some h
  obtain ⟨hg5, h⟩ := zg_some h
  cases h
  exact (zfr_tr (zfr_rf _ _) (zfr_J rfl))
theorem frj_112_52 {rec : Nat → Int → Int → BitVec 64 → Int → zS → Option (Unit × zS)} {c1 : Nat} {v2 : Int} {v5 : Int} {v6 : Int} {w7 : BitVec 64} {u0 : BitVec 64} {u1 : BitVec 64} {s : zS} {q : (Unit × zS)}  (hfr : zFrec rec) (h : j_112_52 rec c1 v2 v5 v6 w7 u0 u1 s = some q) : zfr 33423360 s q.2 := by
  unfold j_112_52 at h
  by_cases hc1 : (u0 &&& u1) = (0#64)
  · rw [if_pos hc1] at h
    exact zfr_tr (zfr_rf _ _) (frj_112_84 hfr h)
  · rw [if_neg hc1] at h
    obtain ⟨hg2, h⟩ := zg_some h
    obtain ⟨hg3, h⟩ := zg_some h
    obtain ⟨r5, s6, h4, h⟩ := zb_some h
    have f7 := zfr_tr (zfr_rf _ _) (fr_108 hfr h4)
    exact zfr_tr f7 (frj_112_84 hfr h)
theorem fr_112 {rec : Nat → Int → Int → BitVec 64 → Int → zS → Option (Unit × zS)} {c1 : Nat} {v2 : Int} {w3 : BitVec 64} {v5 : Int} {s : zS} {q : (Unit × zS)}  (hfr : zFrec rec) (h : f_112 rec c1 v2 w3 v5 s = some q) : zfr 33423360 s q.2 := by
  unfold f_112 at h
  by_cases hc1 : (gI s 17 3) < 1
  · rw [if_pos hc1] at h
    cases h
    exact (zfr_rf _ _)
  · rw [if_neg hc1] at h
    obtain ⟨hg2, h⟩ := zg_some h
    obtain ⟨hg3, h⟩ := zg_some h
    obtain ⟨hg4, h⟩ := zg_some h
    by_cases hc5 : (gI s (c1 + 1) v2) = 11
    · rw [if_pos hc5] at h
      exact zfr_tr (zfr_rf _ _) (frj_112_52 hfr h)
    · rw [if_neg hc5] at h
      exact zfr_tr (zfr_rf _ _) (frj_112_52 hfr h)
theorem frb_103_14 {rec : Nat → Int → Int → BitVec 64 → Int → zS → Option (Unit × zS)} {c1 : Nat} {v3 : Int} {w4 : BitVec 64} {v6 : Int} {v7 : Int} {v8 : Int} {s : zS} {q : (Int × Int × zS) ⊕ ((zS) ⊕ (Unit × zS))}  (hfr : zFrec rec) (h : b_103_14 rec c1 v3 w4 v6 v7 v8 s = some q) : zfr 33423360 s (Sum.elim (fun e : (Int × Int × zS) => e.2.2) (fun t : ((zS) ⊕ (Unit × zS)) => Sum.elim (fun e : (zS) => e) (fun q => q.2) t) q) := by
  unfold b_103_14 at h
  obtain ⟨hg1, h⟩ := zg_some h
  by_cases hc2 : v8 < 200
  · rw [if_pos hc2] at h
    obtain ⟨hg3, h⟩ := zg_some h
    obtain ⟨hg4, h⟩ := zg_some h
    by_cases hc5 : v7 < v3
    · rw [if_pos hc5] at h
      by_cases hc6 : (gI s 17 3) < 22
      · rw [if_pos hc6] at h
        obtain ⟨hg7, h⟩ := zg_some h
        obtain ⟨hg8, h⟩ := zg_some h
        by_cases hc9 : (gI s (c1 + 1) v7) = 45
        · rw [if_pos hc9] at h
          obtain ⟨r11, s12, h10, h⟩ := zb_some h
          have f13 := zfr_tr (zfr_rf _ _) (fr_104 hfr h10)
          cases h
          exact f13
        · rw [if_neg hc9] at h
          obtain ⟨r15, h14, h⟩ := zo_some h
          obtain ⟨hg16, h⟩ := zg_some h
          by_cases hc17 : r15 = 0
          · rw [if_pos hc17] at h
            obtain ⟨r19, s20, h18, h⟩ := zb_some h
            have f21 := zfr_tr (zfr_rf _ _) (zfr_sub (m2 := 33423360) rfl (fr_114 h18))
            cases h
            exact f21
          · rw [if_neg hc17] at h
            obtain ⟨r23, s24, h22, h⟩ := zb_some h
            have f25 := zfr_tr (zfr_rf _ _) (fr_112 hfr h22)
            cases h
            exact f25
      · rw [if_neg hc6] at h
        cases h
        exact (zfr_rf _ _)
    · rw [if_neg hc5] at h
      cases h
      exact (zfr_rf _ _)
  · rw [if_neg hc2] at h
    cases h
    exact (zfr_rf _ _)
theorem frl_103_14 {rec : Nat → Int → Int → BitVec 64 → Int → zS → Option (Unit × zS)} {c1 : Nat} {v3 : Int} {w4 : BitVec 64} {v6 : Int} {n : Nat} {e0 : (Int × Int × zS)} {t : ((zS) ⊕ (Unit × zS))}  (hfr : zFrec rec) (h : zlp (fun (q : Int × Int × zS) => b_103_14 rec c1 v3 w4 v6 q.1 q.2.1 q.2.2) n e0 = some t) : zfr 33423360 ((fun e : (Int × Int × zS) => e.2.2) e0) ((fun t : ((zS) ⊕ (Unit × zS)) => Sum.elim (fun e : (zS) => e) (fun q => q.2) t) t) := zfr_lp (f := (fun e : (Int × Int × zS) => e.2.2)) (g := (fun t : ((zS) ⊕ (Unit × zS)) => Sum.elim (fun e : (zS) => e) (fun q => q.2) t)) (fun e q h1 => frb_103_14 hfr h1) n e0 t h
theorem fr_103 {rec : Nat → Int → Int → BitVec 64 → Int → zS → Option (Unit × zS)} {c1 : Nat} {v2 : Int} {v3 : Int} {w4 : BitVec 64} {v6 : Int} {s : zS} {q : (Unit × zS)}  (hfr : zFrec rec) (h : F_103 rec c1 v2 v3 w4 v6 s = some q) : zfr 33423360 s q.2 := by
  unfold F_103 at h
  obtain ⟨hg1, h⟩ := zg_some h
  by_cases hc2 : 20 < v6
  · rw [if_pos hc2] at h
    cases h
    exact (zfr_rf _ _)
  · rw [if_neg hc2] at h
    obtain ⟨e3, h4, h⟩ := zo_some h
    rcases e3 with e6 | q7
    · simp only [ze_l] at h
      have f5 : zfr 33423360 s e6 := zfr_tr (zfr_rf _ _) (frl_103_14 hfr h4)
      cases h
      exact f5
    · cases h
      exact zfr_tr (zfr_rf _ _) (frl_103_14 hfr h4)
theorem fr_103n : ∀ n : Nat, zFrec (f_103n n)
  | 0 => by
    intro c a b w e s q h
    cases h
  | n + 1 => by
    intro c a b w e s q h
    exact fr_103 (fr_103n n) h
theorem fr_103c {c : Nat} {a b : Int} {w : BitVec 64} {e : Int} {s : zS} {q : Unit × zS} (h : f_103 c a b w e s = some q) : zfr 33423360 s q.2 := fr_103n 24 c a b w e s q h
theorem fr_102 {c1 : Nat} {v2 : Int} {w3 : BitVec 64} {s : zS} {q : (Unit × zS)} (h : f_102 c1 v2 w3 s = some q) : zfr 33423424 s q.2 := by
  unfold f_102 at h
  obtain ⟨r2, s3, h1, h⟩ := zb_some h
  have f4 := zfr_tr (zfr_rf _ _) (zfr_sub (m2 := 33423424) rfl (fr_51 h1))
  obtain ⟨hg5, h⟩ := zg_some h
  obtain ⟨e6, h7, h⟩ := zo_some h
  have f8 : zfr 33423424 s e6 := zfr_tr f4 (frl_102_20 h7)
  obtain ⟨r10, s11, h9, h⟩ := zb_some h
  have f12 := zfr_tr (zfr_tr f8 (zfr_I rfl)) (zfr_sub (m2 := 33423424) rfl (fr_103c h9))
  cases h
  exact f12
theorem frj_26_11_112 {v1 : Int} {v2 : Int} {w3 : BitVec 64} {v5 : Int} {v6 : Int} {s : zS} {q : (BitVec 64 × Int × zS) ⊕ (BitVec 64 × zS)} (h : j_26_11_112 v1 v2 w3 v5 v6 s = some q) : zfr 35917864239044270117773758448835371491064198209601600 s (Sum.elim (fun e : (BitVec 64 × Int × zS) => e.2.2) (fun e : (BitVec 64 × zS) => e.2) q) := by
  unfold j_26_11_112 at h
  obtain ⟨hg1, h⟩ := zg_some h
  by_cases hc2 : v5 = 16
  · rw [if_pos hc2] at h
    obtain ⟨hg3, h⟩ := zg_some h
    cases h
    exact (zfr_rf _ _)
  · rw [if_neg hc2] at h
    obtain ⟨hg4, h⟩ := zg_some h
    cases h
    exact (zfr_rf _ _)
theorem frb_26_11 {v1 : Int} {v2 : Int} {w3 : BitVec 64} {v5 : Int} {s : zS} {q : (BitVec 64 × Int × zS) ⊕ (BitVec 64 × zS)} (h : b_26_11 v1 v2 w3 v5 s = some q) : zfr 35917864239044270117773758448835371491064198209601600 s (Sum.elim (fun e : (BitVec 64 × Int × zS) => e.2.2) (fun e : (BitVec 64 × zS) => e.2) q) := by
  unfold b_26_11 at h
  obtain ⟨hg1, h⟩ := zg_some h
  by_cases hc2 : 16 < v5
  · rw [if_pos hc2] at h
    cases h
    exact (zfr_rf _ _)
  · rw [if_neg hc2] at h
    by_cases hc3 : w3 = (0#64)
    · rw [if_pos hc3] at h
      cases h
      exact (zfr_rf _ _)
    · rw [if_neg hc3] at h
      obtain ⟨hg4, h⟩ := zg_some h
      by_cases hc5 : (zand (v1 / 2 ^ zsh v5) 1) = 0
      · rw [if_pos hc5] at h
        cases h
        exact (zfr_rf _ _)
      · rw [if_neg hc5] at h
        obtain ⟨hg6, h⟩ := zg_some h
        obtain ⟨hg7, h⟩ := zg_some h
        by_cases hc8 : (((gJ s 174 v5) >>> zshl v2) &&& (1#64)) = (0#64)
        · rw [if_pos hc8] at h
          obtain ⟨r10, h9, h⟩ := zo_some h
          obtain ⟨r12, s13, h11, h⟩ := zb_some h
          have f14 := zfr_tr (zfr_rf _ _) (zfr_sub (m2 := 35917864239044270117773758448835371491064198209601600) rfl (fr_102 h11))
          obtain ⟨hg15, h⟩ := zg_some h
          exact zfr_tr (zfr_tr (zfr_tr f14 (zfr_J rfl)) (zfr_J rfl)) (frj_26_11_112 h)
        · rw [if_neg hc8] at h
          exact zfr_tr (zfr_rf _ _) (frj_26_11_112 h)
theorem frl_26_11 {v1 : Int} {v2 : Int} {n : Nat} {e0 : (BitVec 64 × Int × zS)} {t : (BitVec 64 × zS)} (h : zlp (fun (q : BitVec 64 × Int × zS) => b_26_11 v1 v2 q.1 q.2.1 q.2.2) n e0 = some t) : zfr 35917864239044270117773758448835371491064198209601600 ((fun e : (BitVec 64 × Int × zS) => e.2.2) e0) ((fun e : (BitVec 64 × zS) => e.2) t) := zfr_lp (f := (fun e : (BitVec 64 × Int × zS) => e.2.2)) (g := (fun e : (BitVec 64 × zS) => e.2)) (fun e q h1 => frb_26_11 h1) n e0 t h
theorem fr_26 {v1 : Int} {v2 : Int} {s : zS} {q : ((BitVec 64) × zS)} (h : f_26 v1 v2 s = some q) : zfr 35917864239044270117773758448835371491064198209601600 s q.2 := by
  unfold f_26 at h
  obtain ⟨r2, h1, h⟩ := zo_some h
  obtain ⟨e3, h4, h⟩ := zo_some h
  have f5 : zfr 35917864239044270117773758448835371491064198209601600 s e3.2 := zfr_tr (zfr_rf _ _) (frl_26_11 h4)
  cases h
  exact f5
theorem frb_25_27 {v1 : Int} {v2 : Int} {v3 : Int} {w4 : BitVec 64} {v6 : Int} {s : zS} {q : (Int) ⊕ ((Unit) ⊕ (Int × zS))} (h : b_25_27 v1 v2 v3 w4 s v6 = some q) : zfr 35917864239044270117773758448835371491064198209601600 s (Sum.elim (fun e : (Int) => s) (fun t : ((Unit) ⊕ (Int × zS)) => Sum.elim (fun e : (Unit) => s) (fun q => q.2) t) q) := by
  unfold b_25_27 at h
  obtain ⟨hg1, h⟩ := zg_some h
  by_cases hc2 : v6 < 64
  · rw [if_pos hc2] at h
    by_cases hc3 : w4 = (0#64)
    · rw [if_pos hc3] at h
      cases h
      exact (zfr_rf _ _)
    · rw [if_neg hc3] at h
      obtain ⟨hg4, h⟩ := zg_some h
      obtain ⟨hg5, h⟩ := zg_some h
      by_cases hc6 : ((v3 * 64) + v6) < v1
      · rw [if_pos hc6] at h
        cases h
        exact (zfr_rf _ _)
      · rw [if_neg hc6] at h
        by_cases hc7 : ((w4 >>> zshl v6) &&& (1#64)) = (0#64)
        · rw [if_pos hc7] at h
          cases h
          exact (zfr_rf _ _)
        · rw [if_neg hc7] at h
          cases h
          exact (zfr_rf _ _)
  · rw [if_neg hc2] at h
    cases h
    exact (zfr_rf _ _)
theorem frl_25_27 {v1 : Int} {v2 : Int} {v3 : Int} {w4 : BitVec 64} {s : zS} {n : Nat} {e0 : (Int)} {t : ((Unit) ⊕ (Int × zS))} (h : zlp (fun (q : Int) => b_25_27 v1 v2 v3 w4 s q) n e0 = some t) : zfr 35917864239044270117773758448835371491064198209601600 ((fun e : (Int) => s) e0) ((fun t : ((Unit) ⊕ (Int × zS)) => Sum.elim (fun e : (Unit) => s) (fun q => q.2) t) t) := zfr_lp (f := (fun e : (Int) => s)) (g := (fun t : ((Unit) ⊕ (Int × zS)) => Sum.elim (fun e : (Unit) => s) (fun q => q.2) t)) (fun e q h1 => frb_25_27 h1) n e0 t h
theorem frb_25_5 {v1 : Int} {v2 : Int} {v3 : Int} {s : zS} {q : (Int × zS) ⊕ ((zS) ⊕ (Int × zS))} (h : b_25_5 v1 v2 v3 s = some q) : zfr 35917864239044270117773758448835371491064198209601600 s (Sum.elim (fun e : (Int × zS) => e.2) (fun t : ((zS) ⊕ (Int × zS)) => Sum.elim (fun e : (zS) => e) (fun q => q.2) t) q) := by
  unfold b_25_5 at h
  obtain ⟨r2, h1, h⟩ := zo_some h
  obtain ⟨hg3, h⟩ := zg_some h
  obtain ⟨hg4, h⟩ := zg_some h
  by_cases hc5 : v3 < r2
  · rw [if_pos hc5] at h
    obtain ⟨r7, s8, h6, h⟩ := zb_some h
    have f9 := zfr_tr (zfr_rf _ _) (zfr_sub (m2 := 35917864239044270117773758448835371491064198209601600) rfl (fr_26 h6))
    obtain ⟨e10, h11, h⟩ := zo_some h
    rcases e10 with e12 | q13
    · simp only [ze_l] at h
      cases h
      exact f9
    · cases h
      exact zfr_tr f9 (frl_25_27 h11)
  · rw [if_neg hc5] at h
    cases h
    exact (zfr_rf _ _)
theorem frl_25_5 {v1 : Int} {v2 : Int} {n : Nat} {e0 : (Int × zS)} {t : ((zS) ⊕ (Int × zS))} (h : zlp (fun (q : Int × zS) => b_25_5 v1 v2 q.1 q.2) n e0 = some t) : zfr 35917864239044270117773758448835371491064198209601600 ((fun e : (Int × zS) => e.2) e0) ((fun t : ((zS) ⊕ (Int × zS)) => Sum.elim (fun e : (zS) => e) (fun q => q.2) t) t) := zfr_lp (f := (fun e : (Int × zS) => e.2)) (g := (fun t : ((zS) ⊕ (Int × zS)) => Sum.elim (fun e : (zS) => e) (fun q => q.2) t)) (fun e q h1 => frb_25_5 h1) n e0 t h
theorem fr_25 {v1 : Int} {v2 : Int} {s : zS} {q : (Int × zS)} (h : f_25 v1 v2 s = some q) : zfr 35917864239044270117773758448835371491064198209601600 s q.2 := by
  unfold f_25 at h
  obtain ⟨hg1, h⟩ := zg_some h
  obtain ⟨e2, h3, h⟩ := zo_some h
  rcases e2 with e5 | q6
  · simp only [ze_l] at h
    have f4 : zfr 35917864239044270117773758448835371491064198209601600 s e5 := zfr_tr (zfr_rf _ _) (frl_25_5 h3)
    cases h
    exact f4
  · cases h
    exact zfr_tr (zfr_rf _ _) (frl_25_5 h3)
theorem fr_23 {s : zS} {q : (Int × zS)} (h : f_23 s = some q) : zfr 35917864239044270117773758448835371491064198209601601 s q.2 := by
  unfold f_23 at h
  obtain ⟨r2, h1, h⟩ := zo_some h
  obtain ⟨r4, s5, h3, h⟩ := zb_some h
  have f6 := zfr_tr (zfr_rf _ _) (zfr_sub (m2 := 35917864239044270117773758448835371491064198209601601) rfl (fr_25 h3))
  by_cases hc7 : (gI (sI s5 0 12 r4) 0 12) = (-1)
  · rw [if_pos hc7] at h
    cases h
    exact (zfr_tr f6 (zfr_I rfl))
  · rw [if_neg hc7] at h
    cases h
    exact (zfr_tr f6 (zfr_I rfl))
theorem frb_27_4 {v1 : Int} {v2 : Int} {s : zS} {q : (Int × Int × zS) ⊕ (Int × zS)} (h : b_27_4 v1 v2 s = some q) : zfr 35917864239044270117773758448835371491064198209601600 s (Sum.elim (fun e : (Int × Int × zS) => e.2.2) (fun e : (Int × zS) => e.2) q) := by
  unfold b_27_4 at h
  obtain ⟨r2, h1, h⟩ := zo_some h
  obtain ⟨hg3, h⟩ := zg_some h
  obtain ⟨hg4, h⟩ := zg_some h
  by_cases hc5 : v2 < r2
  · rw [if_pos hc5] at h
    obtain ⟨r7, h6, h⟩ := zo_some h
    obtain ⟨r9, s10, h8, h⟩ := zb_some h
    have f11 := zfr_tr (zfr_rf _ _) (zfr_sub (m2 := 35917864239044270117773758448835371491064198209601600) rfl (fr_26 h8))
    obtain ⟨r13, h12, h⟩ := zo_some h
    cases h
    exact f11
  · rw [if_neg hc5] at h
    cases h
    exact (zfr_rf _ _)
theorem frl_27_4 {n : Nat} {e0 : (Int × Int × zS)} {t : (Int × zS)} (h : zlp (fun (q : Int × Int × zS) => b_27_4 q.1 q.2.1 q.2.2) n e0 = some t) : zfr 35917864239044270117773758448835371491064198209601600 ((fun e : (Int × Int × zS) => e.2.2) e0) ((fun e : (Int × zS) => e.2) t) := zfr_lp (f := (fun e : (Int × Int × zS) => e.2.2)) (g := (fun e : (Int × zS) => e.2)) (fun e q h1 => frb_27_4 h1) n e0 t h
theorem fr_27 {s : zS} {q : (Int × zS)} (h : f_27 s = some q) : zfr 35917864239044270117773758448835371491064198209601600 s q.2 := by
  unfold f_27 at h
  obtain ⟨e1, h2, h⟩ := zo_some h
  have f3 : zfr 35917864239044270117773758448835371491064198209601600 s e1.2 := zfr_tr (zfr_rf _ _) (frl_27_4 h2)
  cases h
  exact f3
theorem frb_130_15 {v1 : Int} {s : zS} {q : (Int × zS) ⊕ (zS)} (h : b_130_15 v1 s = some q) : zfr 234881024 s (Sum.elim (fun e : (Int × zS) => e.2) (fun e : (zS) => e) q) := by
  unfold b_130_15 at h
  obtain ⟨hg1, h⟩ := zg_some h
  by_cases hc2 : v1 < 5
  · rw [if_pos hc2] at h
    obtain ⟨hg3, h⟩ := zg_some h
    cases h
    exact (zfr_tr (zfr_rf _ _) (zfr_I rfl))
  · rw [if_neg hc2] at h
    cases h
    exact (zfr_rf _ _)
theorem frl_130_15 {n : Nat} {e0 : (Int × zS)} {t : (zS)} (h : zlp (fun (q : Int × zS) => b_130_15 q.1 q.2) n e0 = some t) : zfr 234881024 ((fun e : (Int × zS) => e.2) e0) ((fun e : (zS) => e) t) := zfr_lp (f := (fun e : (Int × zS) => e.2)) (g := (fun e : (zS) => e)) (fun e q h1 => frb_130_15 h1) n e0 t h
theorem fr_135 {v1 : Int} {v2 : Int} {s : zS} {q : (Unit × zS)} (h : f_135 v1 v2 s = some q) : zfr 67108864 s q.2 := by
  unfold f_135 at h
  obtain ⟨hg1, h⟩ := zg_some h
  obtain ⟨hg2, h⟩ := zg_some h
  cases h
  exact (zfr_tr (zfr_tr (zfr_rf _ _) (zfr_I rfl)) (zfr_I rfl))
theorem frb_134_91 {v4 : Int} {v5 : Int} {s : zS} {q : (Int × Int × zS) ⊕ (zS)} (h : b_134_91 v4 v5 s = some q) : zfr 67108864 s (Sum.elim (fun e : (Int × Int × zS) => e.2.2) (fun e : (zS) => e) q) := by
  unfold b_134_91 at h
  obtain ⟨hg1, h⟩ := zg_some h
  obtain ⟨hg2, h⟩ := zg_some h
  by_cases hc3 : v4 < v5
  · rw [if_pos hc3] at h
    obtain ⟨r5, s6, h4, h⟩ := zb_some h
    have f7 := zfr_tr (zfr_rf _ _) (zfr_sub (m2 := 67108864) rfl (fr_135 h4))
    cases h
    exact f7
  · rw [if_neg hc3] at h
    cases h
    exact (zfr_rf _ _)
theorem frl_134_91 {n : Nat} {e0 : (Int × Int × zS)} {t : (zS)} (h : zlp (fun (q : Int × Int × zS) => b_134_91 q.1 q.2.1 q.2.2) n e0 = some t) : zfr 67108864 ((fun e : (Int × Int × zS) => e.2.2) e0) ((fun e : (zS) => e) t) := zfr_lp (f := (fun e : (Int × Int × zS) => e.2.2)) (g := (fun e : (zS) => e)) (fun e q h1 => frb_134_91 h1) n e0 t h
theorem frj_134_75 {v1 : Int} {v2 : Int} {v3 : Int} {s : zS} {q : (Int × zS)} (h : j_134_75 v1 v2 v3 s = some q) : zfr 67108864 s q.2 := by
  unfold j_134_75 at h
  obtain ⟨r2, s3, h1, h⟩ := zb_some h
  have f4 := zfr_tr (zfr_rf _ _) (zfr_sub (m2 := 67108864) rfl (fr_135 h1))
  obtain ⟨e5, h6, h⟩ := zo_some h
  have f7 : zfr 67108864 s e5 := zfr_tr f4 (frl_134_91 h6)
  cases h
  exact f7
theorem frj_134_39 {v1 : Int} {v2 : Int} {s : zS} {q : (Int × zS)} (h : j_134_39 v1 v2 s = some q) : zfr 67108864 s q.2 := by
  unfold j_134_39 at h
  obtain ⟨hg1, h⟩ := zg_some h
  by_cases hc2 : v2 < 0
  · rw [if_pos hc2] at h
    cases h
    exact (zfr_rf _ _)
  · rw [if_neg hc2] at h
    obtain ⟨e3, h4, h⟩ := zo_some h
    exact zfr_tr (zfr_rf _ _) (frj_134_75 h)
theorem fr_134 {s : zS} {q : (Int × zS)} (h : f_134 s = some q) : zfr 67108864 s q.2 := by
  unfold f_134 at h
  obtain ⟨e1, h2, h⟩ := zo_some h
  exact zfr_tr (zfr_rf _ _) (frj_134_39 h)
theorem frb_133_2 {v1 : Int} {s : zS} {q : (Int × zS) ⊕ (zS)} (h : b_133_2 v1 s = some q) : zfr 167772160 s (Sum.elim (fun e : (Int × zS) => e.2) (fun e : (zS) => e) q) := by
  unfold b_133_2 at h
  obtain ⟨hg1, h⟩ := zg_some h
  by_cases hc2 : v1 < (gI s 1 8)
  · rw [if_pos hc2] at h
    obtain ⟨hg3, h⟩ := zg_some h
    obtain ⟨hg4, h⟩ := zg_some h
    obtain ⟨hg5, h⟩ := zg_some h
    obtain ⟨r7, h6, h⟩ := zo_some h
    obtain ⟨r9, h8, h⟩ := zo_some h
    obtain ⟨hg10, h⟩ := zg_some h
    cases h
    exact (zfr_tr (zfr_rf _ _) (zfr_I rfl))
  · rw [if_neg hc2] at h
    cases h
    exact (zfr_rf _ _)
theorem frl_133_2 {n : Nat} {e0 : (Int × zS)} {t : (zS)} (h : zlp (fun (q : Int × zS) => b_133_2 q.1 q.2) n e0 = some t) : zfr 167772160 ((fun e : (Int × zS) => e.2) e0) ((fun e : (zS) => e) t) := zfr_lp (f := (fun e : (Int × zS) => e.2)) (g := (fun e : (zS) => e)) (fun e q h1 => frb_133_2 h1) n e0 t h
theorem fr_133 {s : zS} {q : (Unit × zS)} (h : f_133 s = some q) : zfr 167772160 s q.2 := by
  unfold f_133 at h
  obtain ⟨e1, h2, h⟩ := zo_some h
  have f3 : zfr 167772160 s e1 := zfr_tr (zfr_rf _ _) (frl_133_2 h2)
  cases h
  exact (zfr_tr f3 (zfr_I rfl))
theorem frb_130_37 {v1 : Int} {v2 : Int} {s : zS} {q : (Int × Int × zS) ⊕ (zS)} (h : b_130_37 v1 v2 s = some q) : zfr 234881024 s (Sum.elim (fun e : (Int × Int × zS) => e.2.2) (fun e : (zS) => e) q) := by
  unfold b_130_37 at h
  obtain ⟨hg1, h⟩ := zg_some h
  by_cases hc2 : v2 < 120
  · rw [if_pos hc2] at h
    obtain ⟨hg3, h⟩ := zg_some h
    by_cases hc4 : v1 = 0
    · rw [if_pos hc4] at h
      cases h
      exact (zfr_rf _ _)
    · rw [if_neg hc4] at h
      obtain ⟨r6, h5, h⟩ := zo_some h
      obtain ⟨hg7, h⟩ := zg_some h
      by_cases hc8 : r6 = 0
      · rw [if_pos hc8] at h
        obtain ⟨r10, s11, h9, h⟩ := zb_some h
        have f12 := zfr_tr (zfr_rf _ _) (zfr_sub (m2 := 234881024) rfl (fr_134 h9))
        cases h
        exact f12
      · rw [if_neg hc8] at h
        obtain ⟨r14, s15, h13, h⟩ := zb_some h
        have f16 := zfr_tr (zfr_rf _ _) (zfr_sub (m2 := 234881024) rfl (fr_133 h13))
        obtain ⟨r18, s19, h17, h⟩ := zb_some h
        have f20 := zfr_tr f16 (zfr_sub (m2 := 234881024) rfl (fr_134 h17))
        cases h
        exact f20
  · rw [if_neg hc2] at h
    cases h
    exact (zfr_rf _ _)
theorem frl_130_37 {n : Nat} {e0 : (Int × Int × zS)} {t : (zS)} (h : zlp (fun (q : Int × Int × zS) => b_130_37 q.1 q.2.1 q.2.2) n e0 = some t) : zfr 234881024 ((fun e : (Int × Int × zS) => e.2.2) e0) ((fun e : (zS) => e) t) := zfr_lp (f := (fun e : (Int × Int × zS) => e.2.2)) (g := (fun e : (zS) => e)) (fun e q h1 => frb_130_37 h1) n e0 t h
theorem fr_130 {s : zS} {q : (Unit × zS)} (h : f_130 s = some q) : zfr 234881024 s q.2 := by
  unfold f_130 at h
  by_cases hc1 : (gI s 25 1) = 0
  · rw [if_pos hc1] at h
    obtain ⟨e2, h3, h⟩ := zo_some h
    have f4 : zfr 234881024 s e2 := zfr_tr (zfr_tr (zfr_rf _ _) (zfr_I rfl)) (frl_130_15 h3)
    obtain ⟨e5, h6, h⟩ := zo_some h
    have f7 : zfr 234881024 s e5 := zfr_tr f4 (frl_130_37 h6)
    cases h
    exact (zfr_tr f7 (zfr_I rfl))
  · rw [if_neg hc1] at h
    cases h
    exact (zfr_rf _ _)
theorem frb_270_175_6 {w1 : BitVec 64} {v4 : Int} {v3 : Int} {s : zS} {q : (Int × zS) ⊕ (zS)} (h : b_270_175_6 w1 v4 v3 s = some q) : zfr 47890485652059026823698344598447161988085597568237568 s (Sum.elim (fun e : (Int × zS) => e.2) (fun e : (zS) => e) q) := by
  unfold b_270_175_6 at h
  obtain ⟨hg1, h⟩ := zg_some h
  obtain ⟨hg2, h⟩ := zg_some h
  by_cases hc3 : v3 < v4
  · rw [if_pos hc3] at h
    obtain ⟨hg4, h⟩ := zg_some h
    cases h
    exact (zfr_tr (zfr_rf _ _) (zfr_J rfl))
  · rw [if_neg hc3] at h
    cases h
    exact (zfr_rf _ _)
theorem frl_270_175_6 {w1 : BitVec 64} {v4 : Int} {n : Nat} {e0 : (Int × zS)} {t : (zS)} (h : zlp (fun (q : Int × zS) => b_270_175_6 w1 v4 q.1 q.2) n e0 = some t) : zfr 47890485652059026823698344598447161988085597568237568 ((fun e : (Int × zS) => e.2) e0) ((fun e : (zS) => e) t) := zfr_lp (f := (fun e : (Int × zS) => e.2)) (g := (fun e : (zS) => e)) (fun e q h1 => frb_270_175_6 h1) n e0 t h
theorem fr_270_175 {w1 : BitVec 64} {s : zS} {q : (Unit × zS)} (h : f_270_175 w1 s = some q) : zfr 47890485652059026823698344598447161988085597568237568 s q.2 := by
  unfold f_270_175 at h
  obtain ⟨e1, h2, h⟩ := zo_some h
  have f3 : zfr 47890485652059026823698344598447161988085597568237568 s e1 := zfr_tr (zfr_rf _ _) (frl_270_175_6 h2)
  cases h
  exact f3
theorem frb_136_13 {v1 : Int} {v3 : Int} {v4 : Int} {s : zS} {q : (Int × zS) ⊕ (zS)} (h : b_136_13 v1 v3 v4 s = some q) : zfr 47890485652059026823698344598447161988085597568237568 s (Sum.elim (fun e : (Int × zS) => e.2) (fun e : (zS) => e) q) := by
  unfold b_136_13 at h
  obtain ⟨hg1, h⟩ := zg_some h
  by_cases hc2 : v4 < (gI s 25 2)
  · rw [if_pos hc2] at h
    obtain ⟨e3, h4, h⟩ := zo_some h
    obtain ⟨hg5, h⟩ := zg_some h
    obtain ⟨hg6, h⟩ := zg_some h
    obtain ⟨hg7, h⟩ := zg_some h
    cases h
    exact (zfr_tr (zfr_rf _ _) (zfr_J rfl))
  · rw [if_neg hc2] at h
    cases h
    exact (zfr_rf _ _)
theorem frl_136_13 {v1 : Int} {v3 : Int} {n : Nat} {e0 : (Int × zS)} {t : (zS)} (h : zlp (fun (q : Int × zS) => b_136_13 v1 v3 q.1 q.2) n e0 = some t) : zfr 47890485652059026823698344598447161988085597568237568 ((fun e : (Int × zS) => e.2) e0) ((fun e : (zS) => e) t) := zfr_lp (f := (fun e : (Int × zS) => e.2)) (g := (fun e : (zS) => e)) (fun e q h1 => frb_136_13 h1) n e0 t h
theorem fr_136 {v1 : Int} {s : zS} {q : (Unit × zS)} (h : f_136 v1 s = some q) : zfr 47890485652059026823698344598447161988085597568237568 s q.2 := by
  unfold f_136 at h
  obtain ⟨e1, h2, h⟩ := zo_some h
  have f3 : zfr 47890485652059026823698344598447161988085597568237568 s e1 := zfr_tr (zfr_rf _ _) (frl_136_13 h2)
  cases h
  exact f3
theorem frb_28_43 {v2 : Int} {w3 : BitVec 64} {v1 : Int} {v5 : Int} {s : zS} {q : (Int × Int × zS) ⊕ (Int × zS)} (h : b_28_43 v2 w3 v1 v5 s = some q) : zfr 83808349891103296941472103047282533479149796012720192 s (Sum.elim (fun e : (Int × Int × zS) => e.2.2) (fun e : (Int × zS) => e.2) q) := by
  unfold b_28_43 at h
  obtain ⟨hg1, h⟩ := zg_some h
  by_cases hc2 : v5 < 64
  · rw [if_pos hc2] at h
    by_cases hc3 : w3 = (0#64)
    · rw [if_pos hc3] at h
      cases h
      exact (zfr_rf _ _)
    · rw [if_neg hc3] at h
      obtain ⟨hg4, h⟩ := zg_some h
      by_cases hc5 : (((w3 &&& ((gJ s 175 v2) ^^^ (18446744073709551615#64))) >>> zshl v5) &&& (1#64)) = (0#64)
      · rw [if_pos hc5] at h
        cases h
        exact (zfr_rf _ _)
      · rw [if_neg hc5] at h
        obtain ⟨r7, s8, h6, h⟩ := zb_some h
        have f9 := zfr_tr (zfr_rf _ _) (zfr_sub (m2 := 83808349891103296941472103047282533479149796012720192) rfl (fr_136 h6))
        cases h
        exact f9
  · rw [if_neg hc2] at h
    cases h
    exact (zfr_rf _ _)
theorem frl_28_43 {v2 : Int} {w3 : BitVec 64} {n : Nat} {e0 : (Int × Int × zS)} {t : (Int × zS)} (h : zlp (fun (q : Int × Int × zS) => b_28_43 v2 w3 q.1 q.2.1 q.2.2) n e0 = some t) : zfr 83808349891103296941472103047282533479149796012720192 ((fun e : (Int × Int × zS) => e.2.2) e0) ((fun e : (Int × zS) => e.2) t) := zfr_lp (f := (fun e : (Int × Int × zS) => e.2.2)) (g := (fun e : (Int × zS) => e.2)) (fun e q h1 => frb_28_43 h1) n e0 t h
theorem frb_28_19 {v1 : Int} {v2 : Int} {s : zS} {q : (Int × Int × zS) ⊕ (Int × zS)} (h : b_28_19 v1 v2 s = some q) : zfr 83808349891103296941472103047282533479149796012720192 s (Sum.elim (fun e : (Int × Int × zS) => e.2.2) (fun e : (Int × zS) => e.2) q) := by
  unfold b_28_19 at h
  obtain ⟨r2, h1, h⟩ := zo_some h
  obtain ⟨hg3, h⟩ := zg_some h
  obtain ⟨hg4, h⟩ := zg_some h
  by_cases hc5 : v2 < r2
  · rw [if_pos hc5] at h
    obtain ⟨r7, h6, h⟩ := zo_some h
    obtain ⟨r9, s10, h8, h⟩ := zb_some h
    have f11 := zfr_tr (zfr_rf _ _) (zfr_sub (m2 := 83808349891103296941472103047282533479149796012720192) rfl (fr_26 h8))
    obtain ⟨e12, h13, h⟩ := zo_some h
    have f14 : zfr 83808349891103296941472103047282533479149796012720192 s e12.2 := zfr_tr f11 (frl_28_43 h13)
    cases h
    exact f14
  · rw [if_neg hc5] at h
    cases h
    exact (zfr_rf _ _)
theorem frl_28_19 {n : Nat} {e0 : (Int × Int × zS)} {t : (Int × zS)} (h : zlp (fun (q : Int × Int × zS) => b_28_19 q.1 q.2.1 q.2.2) n e0 = some t) : zfr 83808349891103296941472103047282533479149796012720192 ((fun e : (Int × Int × zS) => e.2.2) e0) ((fun e : (Int × zS) => e.2) t) := zfr_lp (f := (fun e : (Int × Int × zS) => e.2.2)) (g := (fun e : (Int × zS) => e.2)) (fun e q h1 => frb_28_19 h1) n e0 t h
theorem fr_28 {s : zS} {q : (Int × zS)} (h : f_28 s = some q) : zfr 83808349891103296941472103047282533479149796012720192 s q.2 := by
  unfold f_28 at h
  obtain ⟨r2, s3, h1, h⟩ := zb_some h
  have f4 := zfr_tr (zfr_rf _ _) (zfr_sub (m2 := 83808349891103296941472103047282533479149796012720192) rfl (fr_130 h1))
  obtain ⟨r6, s7, h5, h⟩ := zb_some h
  have f8 := zfr_tr f4 (zfr_sub (m2 := 83808349891103296941472103047282533479149796012720192) rfl (fr_270_175 h5))
  obtain ⟨e9, h10, h⟩ := zo_some h
  have f11 : zfr 83808349891103296941472103047282533479149796012720192 s e9.2 := zfr_tr f8 (frl_28_19 h10)
  cases h
  exact f11
theorem fr_29 {s : zS} {q : (Int × zS)} (h : f_29 s = some q) : zfr 234881024 s q.2 := by
  unfold f_29 at h
  obtain ⟨r2, s3, h1, h⟩ := zb_some h
  have f4 := zfr_tr (zfr_rf _ _) (zfr_sub (m2 := 234881024) rfl (fr_130 h1))
  cases h
  exact f4
theorem frb_71_5 {w1 : BitVec 64} {v4 : Int} {s : zS} {q : (Int × zS) ⊕ (zS)} (h : b_71_5 w1 v4 s = some q) : zfr 768 s (Sum.elim (fun e : (Int × zS) => e.2) (fun e : (zS) => e) q) := by
  unfold b_71_5 at h
  obtain ⟨hg1, h⟩ := zg_some h
  by_cases hc2 : v4 < 0
  · rw [if_pos hc2] at h
    cases h
    exact (zfr_rf _ _)
  · rw [if_neg hc2] at h
    by_cases hc3 : (gI s 8 1) < 600
    · rw [if_pos hc3] at h
      obtain ⟨hg4, h⟩ := zg_some h
      obtain ⟨hg5, h⟩ := zg_some h
      cases h
      exact (zfr_tr (zfr_tr (zfr_rf _ _) (zfr_I rfl)) (zfr_I rfl))
    · rw [if_neg hc3] at h
      cases h
      exact (zfr_rf _ _)
theorem frl_71_5 {w1 : BitVec 64} {n : Nat} {e0 : (Int × zS)} {t : (zS)} (h : zlp (fun (q : Int × zS) => b_71_5 w1 q.1 q.2) n e0 = some t) : zfr 768 ((fun e : (Int × zS) => e.2) e0) ((fun e : (zS) => e) t) := zfr_lp (f := (fun e : (Int × zS) => e.2)) (g := (fun e : (zS) => e)) (fun e q h1 => frb_71_5 h1) n e0 t h
theorem fr_71 {w1 : BitVec 64} {v3 : Int} {s : zS} {q : (Unit × zS)} (h : f_71 w1 v3 s = some q) : zfr 768 s q.2 := by
  unfold f_71 at h
  obtain ⟨e1, h2, h⟩ := zo_some h
  have f3 : zfr 768 s e1 := zfr_tr (zfr_rf _ _) (frl_71_5 h2)
  cases h
  exact f3
theorem fr_32 {w1 : BitVec 64} {v3 : Int} {s : zS} {q : ((Int ⊕ Nat) × zS)} (h : f_32 w1 v3 s = some q) : zfr 768 s q.2 := by
  unfold f_32 at h
  obtain ⟨hg1, h⟩ := zg_some h
  by_cases hc2 : v3 < 1
  · rw [if_pos hc2] at h
    cases h
    exact (zfr_rf _ _)
  · rw [if_neg hc2] at h
    by_cases hc3 : 8 < v3
    · rw [if_pos hc3] at h
      cases h
      exact (zfr_rf _ _)
    · rw [if_neg hc3] at h
      obtain ⟨hg4, h⟩ := zg_some h
      by_cases hc5 : 600 < ((gI s 8 1) + v3)
      · rw [if_pos hc5] at h
        cases h
        exact (zfr_rf _ _)
      · rw [if_neg hc5] at h
        obtain ⟨r7, s8, h6, h⟩ := zb_some h
        have f9 := zfr_tr (zfr_rf _ _) (zfr_sub (m2 := 768) rfl (fr_71 h6))
        cases h
        exact f9
theorem fr_2 {w1 : BitVec 64} {v3 : Int} {s : zS} {q : (Int × zS)} (h : f_2 w1 v3 s = some q) : zfr 51422017416287688817342786954917203280710495801049370729644800 s q.2 := by
  unfold f_2 at h
  obtain ⟨r2, s3, h1, h⟩ := zb_some h
  have f6 := zfr_tr (zfr_rf _ _) (zfr_sub (m2 := 51422017416287688817342786954917203280710495801049370729644800) rfl (fr_32 h1))
  rcases r2 with v4 | c5
  · simp only [ze_l] at h
    obtain ⟨hg7, h⟩ := zg_some h
    cases h
    exact (zfr_tr f6 (zfr_J rfl))
  · simp only [ze_r] at h
    by_cases hc8 : c5 = 8
    · rw [if_pos hc8] at h
      cases h
      exact f6
    · rw [if_neg hc8] at h
      by_cases hc9 : c5 = 9
      · rw [if_pos hc9] at h
        cases h
        exact f6
      · rw [if_neg hc9] at h
        cases h
theorem fr_54 {w1 : BitVec 64} {v3 : Int} {s : zS} {q : (Int × zS)} (h : f_54 w1 v3 s = some q) : zfr 26 s q.2 := by
  unfold f_54 at h
  obtain ⟨hg1, h⟩ := zg_some h
  cases h
  exact (zfr_tr (zfr_tr (zfr_tr (zfr_rf _ _) (zfr_J rfl)) (zfr_I rfl)) (zfr_I rfl))
theorem fr_33 {w1 : BitVec 64} {v3 : Int} {s : zS} {q : ((Int ⊕ Nat) × zS)} (h : f_33 w1 v3 s = some q) : zfr 27 s q.2 := by
  unfold f_33 at h
  obtain ⟨r2, h1, h⟩ := zo_some h
  obtain ⟨hg3, h⟩ := zg_some h
  by_cases hc4 : r2 = 0
  · rw [if_pos hc4] at h
    cases h
    exact (zfr_rf _ _)
  · rw [if_neg hc4] at h
    obtain ⟨r6, h5, h⟩ := zo_some h
    obtain ⟨hg7, h⟩ := zg_some h
    by_cases hc8 : r6 = (-1)
    · rw [if_pos hc8] at h
      obtain ⟨hg9, h⟩ := zg_some h
      by_cases hc10 : v3 < 1
      · rw [if_pos hc10] at h
        cases h
        exact (zfr_rf _ _)
      · rw [if_neg hc10] at h
        by_cases hc11 : 3 < v3
        · rw [if_pos hc11] at h
          cases h
          exact (zfr_rf _ _)
        · rw [if_neg hc11] at h
          by_cases hc12 : (gI s 1 4) < 8
          · rw [if_pos hc12] at h
            obtain ⟨r14, s15, h13, h⟩ := zb_some h
            have f16 := zfr_tr (zfr_tr (zfr_rf _ _) (zfr_I rfl)) (zfr_sub (m2 := 27) rfl (fr_54 h13))
            cases h
            exact f16
          · rw [if_neg hc12] at h
            cases h
            exact (zfr_rf _ _)
    · rw [if_neg hc8] at h
      cases h
      exact (zfr_rf _ _)
theorem fr_3 {w1 : BitVec 64} {v3 : Int} {s : zS} {q : (Int × zS)} (h : f_3 w1 v3 s = some q) : zfr 51422017416287688817342786954917203280710495801049370729644059 s q.2 := by
  unfold f_3 at h
  obtain ⟨r2, s3, h1, h⟩ := zb_some h
  have f6 := zfr_tr (zfr_rf _ _) (zfr_sub (m2 := 51422017416287688817342786954917203280710495801049370729644059) rfl (fr_33 h1))
  rcases r2 with v4 | c5
  · simp only [ze_l] at h
    obtain ⟨hg7, h⟩ := zg_some h
    cases h
    exact (zfr_tr f6 (zfr_J rfl))
  · simp only [ze_r] at h
    by_cases hc8 : c5 = 8
    · rw [if_pos hc8] at h
      cases h
      exact f6
    · rw [if_neg hc8] at h
      by_cases hc9 : c5 = 9
      · rw [if_pos hc9] at h
        cases h
        exact f6
      · rw [if_neg hc9] at h
        cases h
theorem frb_57_4 {v1 : Int} {v2 : Int} {v3 : Int} {s : zS} {q : (Int × Int × zS) ⊕ (Int × zS)} (h : b_57_4 v1 v2 v3 s = some q) : zfr 130 s (Sum.elim (fun e : (Int × Int × zS) => e.2.2) (fun e : (Int × zS) => e.2) q) := by
  unfold b_57_4 at h
  obtain ⟨hg1, h⟩ := zg_some h
  by_cases hc2 : v3 < (gI s 1 8)
  · rw [if_pos hc2] at h
    obtain ⟨hg3, h⟩ := zg_some h
    obtain ⟨hg4, h⟩ := zg_some h
    by_cases hc5 : (gI s 7 v3) = v1
    · rw [if_pos hc5] at h
      cases h
      exact (zfr_rf _ _)
    · rw [if_neg hc5] at h
      obtain ⟨hg6, h⟩ := zg_some h
      cases h
      exact (zfr_tr (zfr_rf _ _) (zfr_I rfl))
  · rw [if_neg hc2] at h
    cases h
    exact (zfr_rf _ _)
theorem frl_57_4 {v1 : Int} {n : Nat} {e0 : (Int × Int × zS)} {t : (Int × zS)} (h : zlp (fun (q : Int × Int × zS) => b_57_4 v1 q.1 q.2.1 q.2.2) n e0 = some t) : zfr 130 ((fun e : (Int × Int × zS) => e.2.2) e0) ((fun e : (Int × zS) => e.2) t) := zfr_lp (f := (fun e : (Int × Int × zS) => e.2.2)) (g := (fun e : (Int × zS) => e.2)) (fun e q h1 => frb_57_4 h1) n e0 t h
theorem fr_57 {v1 : Int} {s : zS} {q : (Unit × zS)} (h : f_57 v1 s = some q) : zfr 130 s q.2 := by
  unfold f_57 at h
  obtain ⟨e1, h2, h⟩ := zo_some h
  have f3 : zfr 130 s e1.2 := zfr_tr (zfr_rf _ _) (frl_57_4 h2)
  cases h
  exact (zfr_tr f3 (zfr_I rfl))
theorem frb_58_5 {v1 : Int} {v2 : Int} {s : zS} {q : (Int × zS) ⊕ (Int × zS)} (h : b_58_5 v1 v2 s = some q) : zfr 130 s (Sum.elim (fun e : (Int × zS) => e.2) (fun e : (Int × zS) => e.2) q) := by
  unfold b_58_5 at h
  obtain ⟨hg1, h⟩ := zg_some h
  by_cases hc2 : 0 < v2
  · rw [if_pos hc2] at h
    obtain ⟨hg3, h⟩ := zg_some h
    obtain ⟨hg4, h⟩ := zg_some h
    by_cases hc5 : v1 < (gI s 7 (v2 - 1))
    · rw [if_pos hc5] at h
      obtain ⟨hg6, h⟩ := zg_some h
      cases h
      exact (zfr_tr (zfr_rf _ _) (zfr_I rfl))
    · rw [if_neg hc5] at h
      cases h
      exact (zfr_rf _ _)
  · rw [if_neg hc2] at h
    cases h
    exact (zfr_rf _ _)
theorem frl_58_5 {v1 : Int} {n : Nat} {e0 : (Int × zS)} {t : (Int × zS)} (h : zlp (fun (q : Int × zS) => b_58_5 v1 q.1 q.2) n e0 = some t) : zfr 130 ((fun e : (Int × zS) => e.2) e0) ((fun e : (Int × zS) => e.2) t) := zfr_lp (f := (fun e : (Int × zS) => e.2)) (g := (fun e : (Int × zS) => e.2)) (fun e q h1 => frb_58_5 h1) n e0 t h
theorem fr_58 {v1 : Int} {s : zS} {q : (Unit × zS)} (h : f_58 v1 s = some q) : zfr 130 s q.2 := by
  unfold f_58 at h
  obtain ⟨e1, h2, h⟩ := zo_some h
  have f3 : zfr 130 s e1.2 := zfr_tr (zfr_rf _ _) (frl_58_5 h2)
  obtain ⟨hg4, h⟩ := zg_some h
  cases h
  exact (zfr_tr (zfr_tr f3 (zfr_I rfl)) (zfr_I rfl))
theorem frj_56_25 {v1 : Int} {v2 : Int} {s : zS} {q : (Unit × zS)} (h : j_56_25 v1 v2 s = some q) : zfr 226 s q.2 := by
  unfold j_56_25 at h
  obtain ⟨hg1, h⟩ := zg_some h
  obtain ⟨hg2, h⟩ := zg_some h
  by_cases hc3 : v2 = 2
  · rw [if_pos hc3] at h
    cases h
    exact (zfr_tr (zfr_tr (zfr_rf _ _) (zfr_I rfl)) (zfr_J rfl))
  · rw [if_neg hc3] at h
    cases h
    exact (zfr_tr (zfr_tr (zfr_rf _ _) (zfr_I rfl)) (zfr_J rfl))
theorem frj_56_15 {v1 : Int} {v2 : Int} {s : zS} {q : (Unit × zS)} (h : j_56_15 v1 v2 s = some q) : zfr 226 s q.2 := by
  unfold j_56_15 at h
  obtain ⟨hg1, h⟩ := zg_some h
  by_cases hc2 : v2 = 1
  · rw [if_pos hc2] at h
    obtain ⟨r4, s5, h3, h⟩ := zb_some h
    have f6 := zfr_tr (zfr_rf _ _) (zfr_sub (m2 := 226) rfl (fr_58 h3))
    exact zfr_tr f6 (frj_56_25 h)
  · rw [if_neg hc2] at h
    exact zfr_tr (zfr_rf _ _) (frj_56_25 h)
theorem fr_56 {v1 : Int} {v2 : Int} {s : zS} {q : (Unit × zS)} (h : f_56 v1 v2 s = some q) : zfr 226 s q.2 := by
  unfold f_56 at h
  obtain ⟨hg1, h⟩ := zg_some h
  by_cases hc2 : (gI s 5 v1) = 1
  · rw [if_pos hc2] at h
    obtain ⟨r4, s5, h3, h⟩ := zb_some h
    have f6 := zfr_tr (zfr_rf _ _) (zfr_sub (m2 := 226) rfl (fr_57 h3))
    exact zfr_tr f6 (frj_56_15 h)
  · rw [if_neg hc2] at h
    exact zfr_tr (zfr_rf _ _) (frj_56_15 h)
theorem frb_270_174_6 {w1 : BitVec 64} {v4 : Int} {v3 : Int} {s : zS} {q : (Int × zS) ⊕ (zS)} (h : b_270_174_6 w1 v4 v3 s = some q) : zfr 23945242826029513411849172299223580994042798784118784 s (Sum.elim (fun e : (Int × zS) => e.2) (fun e : (zS) => e) q) := by
  unfold b_270_174_6 at h
  obtain ⟨hg1, h⟩ := zg_some h
  obtain ⟨hg2, h⟩ := zg_some h
  by_cases hc3 : v3 < v4
  · rw [if_pos hc3] at h
    obtain ⟨hg4, h⟩ := zg_some h
    cases h
    exact (zfr_tr (zfr_rf _ _) (zfr_J rfl))
  · rw [if_neg hc3] at h
    cases h
    exact (zfr_rf _ _)
theorem frl_270_174_6 {w1 : BitVec 64} {v4 : Int} {n : Nat} {e0 : (Int × zS)} {t : (zS)} (h : zlp (fun (q : Int × zS) => b_270_174_6 w1 v4 q.1 q.2) n e0 = some t) : zfr 23945242826029513411849172299223580994042798784118784 ((fun e : (Int × zS) => e.2) e0) ((fun e : (zS) => e) t) := zfr_lp (f := (fun e : (Int × zS) => e.2)) (g := (fun e : (zS) => e)) (fun e q h1 => frb_270_174_6 h1) n e0 t h
theorem fr_270_174 {w1 : BitVec 64} {s : zS} {q : (Unit × zS)} (h : f_270_174 w1 s = some q) : zfr 23945242826029513411849172299223580994042798784118784 s q.2 := by
  unfold f_270_174 at h
  obtain ⟨e1, h2, h⟩ := zo_some h
  have f3 : zfr 23945242826029513411849172299223580994042798784118784 s e1 := zfr_tr (zfr_rf _ _) (frl_270_174_6 h2)
  cases h
  exact f3
theorem frj_35_94 {v3 : Int} {v4 : Int} {v5 : Int} {s : zS} {q : ((Int ⊕ Nat) × zS)} (h : j_35_94 v3 v4 v5 s = some q) : zfr 23945242826029513411849172299223580994042798817673443 s q.2 := by
  unfold j_35_94 at h
  obtain ⟨hg1, h⟩ := zg_some h
  obtain ⟨hg2, h⟩ := zg_some h
  by_cases hc3 : v5 = v3
  · rw [if_pos hc3] at h
    cases h
    exact (zfr_tr (zfr_rf _ _) (zfr_I rfl))
  · rw [if_neg hc3] at h
    obtain ⟨r5, s6, h4, h⟩ := zb_some h
    have f7 := zfr_tr (zfr_tr (zfr_rf _ _) (zfr_I rfl)) (zfr_sub (m2 := 23945242826029513411849172299223580994042798817673443) rfl (fr_56 h4))
    obtain ⟨r9, s10, h8, h⟩ := zb_some h
    have f11 := zfr_tr f7 (zfr_sub (m2 := 23945242826029513411849172299223580994042798817673443) rfl (fr_270_174 h8))
    cases h
    exact (zfr_tr f11 (zfr_I rfl))
theorem fr_35 {v1 : Int} {v2 : Int} {v3 : Int} {s : zS} {q : ((Int ⊕ Nat) × zS)} (h : f_35 v1 v2 v3 s = some q) : zfr 23945242826029513411849172299223580994042798817673443 s q.2 := by
  unfold f_35 at h
  obtain ⟨r2, h1, h⟩ := zo_some h
  obtain ⟨hg3, h⟩ := zg_some h
  by_cases hc4 : r2 = 0
  · rw [if_pos hc4] at h
    cases h
    exact (zfr_rf _ _)
  · rw [if_neg hc4] at h
    obtain ⟨hg5, h⟩ := zg_some h
    by_cases hc6 : v3 < 0
    · rw [if_pos hc6] at h
      cases h
      exact (zfr_rf _ _)
    · rw [if_neg hc6] at h
      by_cases hc7 : 2 < v3
      · rw [if_pos hc7] at h
        cases h
        exact (zfr_rf _ _)
      · rw [if_neg hc7] at h
        obtain ⟨hg8, h⟩ := zg_some h
        by_cases hc9 : v3 = 1
        · rw [if_pos hc9] at h
          by_cases hc10 : (gI s 5 ((v1 * 125) + v2)) = 1
          · rw [if_pos hc10] at h
            exact zfr_tr (zfr_rf _ _) (frj_35_94 h)
          · rw [if_neg hc10] at h
            by_cases hc11 : (gI s 1 8) < 12
            · rw [if_pos hc11] at h
              exact zfr_tr (zfr_rf _ _) (frj_35_94 h)
            · rw [if_neg hc11] at h
              cases h
              exact (zfr_rf _ _)
        · rw [if_neg hc9] at h
          exact zfr_tr (zfr_rf _ _) (frj_35_94 h)
theorem fr_4 {v1 : Int} {v2 : Int} {v3 : Int} {s : zS} {q : (Int × zS)} (h : f_4 v1 v2 v3 s = some q) : zfr 51422017440232931643372300366766375579934076795092169547317475 s q.2 := by
  unfold f_4 at h
  obtain ⟨r2, s3, h1, h⟩ := zb_some h
  have f6 := zfr_tr (zfr_rf _ _) (zfr_sub (m2 := 51422017440232931643372300366766375579934076795092169547317475) rfl (fr_35 h1))
  rcases r2 with v4 | c5
  · simp only [ze_l] at h
    obtain ⟨hg7, h⟩ := zg_some h
    cases h
    exact (zfr_tr f6 (zfr_J rfl))
  · simp only [ze_r] at h
    by_cases hc8 : c5 = 10
    · rw [if_pos hc8] at h
      cases h
      exact f6
    · rw [if_neg hc8] at h
      by_cases hc9 : c5 = 8
      · rw [if_pos hc9] at h
        cases h
        exact f6
      · rw [if_neg hc9] at h
        by_cases hc10 : c5 = 9
        · rw [if_pos hc10] at h
          cases h
          exact f6
        · rw [if_neg hc10] at h
          cases h
theorem fr_36 {s : zS} {q : ((Int ⊕ Nat) × zS)} (h : f_36 s = some q) : zfr 35917864239044270117773758448835371491064197907873025 s q.2 := by
  unfold f_36 at h
  by_cases hc1 : (gI s 0 10) < 16
  · rw [if_pos hc1] at h
    obtain ⟨r3, s4, h2, h⟩ := zb_some h
    have f5 := zfr_tr (zfr_rf _ _) (zfr_sub (m2 := 35917864239044270117773758448835371491064197907873025) rfl (fr_17 h2))
    obtain ⟨hg6, h⟩ := zg_some h
    by_cases hc7 : r3 = 0
    · rw [if_pos hc7] at h
      obtain ⟨r9, s10, h8, h⟩ := zb_some h
      have f11 := zfr_tr f5 (zfr_sub (m2 := 35917864239044270117773758448835371491064197907873025) rfl (fr_22 h8))
      cases h
      exact (zfr_tr f11 (zfr_I rfl))
    · rw [if_neg hc7] at h
      cases h
      exact f5
  · rw [if_neg hc1] at h
    obtain ⟨r13, s14, h12, h⟩ := zb_some h
    have f15 := zfr_tr (zfr_rf _ _) (zfr_sub (m2 := 35917864239044270117773758448835371491064197907873025) rfl (fr_70 h12))
    cases h
    exact f15
theorem fr_5 {s : zS} {q : (Int × zS)} (h : f_5 s = some q) : zfr 51422017452205553056387057072690961729545867292113568637517057 s q.2 := by
  unfold f_5 at h
  obtain ⟨r2, s3, h1, h⟩ := zb_some h
  have f6 := zfr_tr (zfr_rf _ _) (zfr_sub (m2 := 51422017452205553056387057072690961729545867292113568637517057) rfl (fr_36 h1))
  rcases r2 with v4 | c5
  · simp only [ze_l] at h
    obtain ⟨hg7, h⟩ := zg_some h
    cases h
    exact (zfr_tr f6 (zfr_J rfl))
  · simp only [ze_r] at h
    by_cases hc8 : c5 = 9
    · rw [if_pos hc8] at h
      cases h
      exact f6
    · rw [if_neg hc8] at h
      cases h
theorem fr_37 {s : zS} {q : ((Int ⊕ Nat) × zS)} (h : f_37 s = some q) : zfr 1 s q.2 := by
  unfold f_37 at h
  by_cases hc1 : (gI s 0 10) = 0
  · rw [if_pos hc1] at h
    cases h
    exact (zfr_rf _ _)
  · rw [if_neg hc1] at h
    cases h
    exact (zfr_tr (zfr_tr (zfr_tr (zfr_rf _ _) (zfr_I rfl)) (zfr_I rfl)) (zfr_I rfl))
theorem fr_6 {s : zS} {q : (Int × zS)} (h : f_6 s = some q) : zfr 51422017416287688817342786954917203280710495801049370729644033 s q.2 := by
  unfold f_6 at h
  obtain ⟨r2, s3, h1, h⟩ := zb_some h
  have f6 := zfr_tr (zfr_rf _ _) (zfr_sub (m2 := 51422017416287688817342786954917203280710495801049370729644033) rfl (fr_37 h1))
  rcases r2 with v4 | c5
  · simp only [ze_l] at h
    obtain ⟨hg7, h⟩ := zg_some h
    cases h
    exact (zfr_tr f6 (zfr_J rfl))
  · simp only [ze_r] at h
    by_cases hc8 : c5 = 11
    · rw [if_pos hc8] at h
      cases h
      exact f6
    · rw [if_neg hc8] at h
      cases h
theorem fr_38 {s : zS} {q : ((Int ⊕ Nat) × zS)} (h : f_38 s = some q) : zfr 35917864239044270117773758448835371491064198209601601 s q.2 := by
  unfold f_38 at h
  by_cases hc1 : (gI s 0 12) = (-1)
  · rw [if_pos hc1] at h
    cases h
    exact (zfr_rf _ _)
  · rw [if_neg hc1] at h
    obtain ⟨r3, h2, h⟩ := zo_some h
    obtain ⟨r5, s6, h4, h⟩ := zb_some h
    have f7 := zfr_tr (zfr_rf _ _) (zfr_sub (m2 := 35917864239044270117773758448835371491064198209601601) rfl (fr_25 h4))
    by_cases hc8 : (gI (sI s6 0 12 r5) 0 12) = (-1)
    · rw [if_pos hc8] at h
      cases h
      exact (zfr_tr f7 (zfr_I rfl))
    · rw [if_neg hc8] at h
      cases h
      exact (zfr_tr f7 (zfr_I rfl))
theorem fr_7 {s : zS} {q : (Int × zS)} (h : f_7 s = some q) : zfr 51422017452205553056387057072690961729545867292113568939245633 s q.2 := by
  unfold f_7 at h
  obtain ⟨r2, s3, h1, h⟩ := zb_some h
  have f6 := zfr_tr (zfr_rf _ _) (zfr_sub (m2 := 51422017452205553056387057072690961729545867292113568939245633) rfl (fr_38 h1))
  rcases r2 with v4 | c5
  · simp only [ze_l] at h
    obtain ⟨hg7, h⟩ := zg_some h
    cases h
    exact (zfr_tr f6 (zfr_J rfl))
  · simp only [ze_r] at h
    by_cases hc8 : c5 = 11
    · rw [if_pos hc8] at h
      cases h
      exact f6
    · rw [if_neg hc8] at h
      cases h
theorem fr_39 {s : zS} {q : ((Int ⊕ Nat) × zS)} (h : f_39 s = some q) : zfr 35917864239044270117773758448835371491064198209601601 s q.2 := by
  unfold f_39 at h
  by_cases hc1 : (gI s 0 11) = 0
  · rw [if_pos hc1] at h
    cases h
    exact (zfr_rf _ _)
  · rw [if_neg hc1] at h
    obtain ⟨r3, h2, h⟩ := zo_some h
    obtain ⟨r5, s6, h4, h⟩ := zb_some h
    have f7 := zfr_tr (zfr_rf _ _) (zfr_sub (m2 := 35917864239044270117773758448835371491064198209601601) rfl (fr_25 h4))
    by_cases hc8 : (gI (sI s6 0 12 r5) 0 12) = (-1)
    · rw [if_pos hc8] at h
      cases h
      exact (zfr_tr f7 (zfr_I rfl))
    · rw [if_neg hc8] at h
      cases h
      exact (zfr_tr f7 (zfr_I rfl))
theorem fr_8 {s : zS} {q : (Int × zS)} (h : f_8 s = some q) : zfr 51422017452205553056387057072690961729545867292113568939245633 s q.2 := by
  unfold f_8 at h
  obtain ⟨r2, s3, h1, h⟩ := zb_some h
  have f6 := zfr_tr (zfr_rf _ _) (zfr_sub (m2 := 51422017452205553056387057072690961729545867292113568939245633) rfl (fr_39 h1))
  rcases r2 with v4 | c5
  · simp only [ze_l] at h
    obtain ⟨hg7, h⟩ := zg_some h
    cases h
    exact (zfr_tr f6 (zfr_J rfl))
  · simp only [ze_r] at h
    by_cases hc8 : c5 = 11
    · rw [if_pos hc8] at h
      cases h
      exact f6
    · rw [if_neg hc8] at h
      cases h
theorem fr_40 {v1 : Int} {v2 : Int} {s : zS} {q : ((Int ⊕ Nat) × zS)} (h : f_40 v1 v2 s = some q) : zfr 0 s q.2 := by
  unfold f_40 at h
  obtain ⟨r2, h1, h⟩ := zo_some h
  obtain ⟨hg3, h⟩ := zg_some h
  by_cases hc4 : r2 = 0
  · rw [if_pos hc4] at h
    cases h
    exact (zfr_rf _ _)
  · rw [if_neg hc4] at h
    by_cases hc5 : (gI s 0 12) = (-1)
    · rw [if_pos hc5] at h
      cases h
      exact (zfr_rf _ _)
    · rw [if_neg hc5] at h
      obtain ⟨r7, h6, h⟩ := zo_some h
      obtain ⟨hg8, h⟩ := zg_some h
      cases h
      exact (zfr_rf _ _)
theorem fr_9 {v1 : Int} {v2 : Int} {s : zS} {q : (Int × zS)} (h : f_9 v1 v2 s = some q) : zfr 51422017416287688817342786954917203280710495801049370729644032 s q.2 := by
  unfold f_9 at h
  obtain ⟨r2, s3, h1, h⟩ := zb_some h
  have f6 := zfr_tr (zfr_rf _ _) (zfr_sub (m2 := 51422017416287688817342786954917203280710495801049370729644032) rfl (fr_40 h1))
  rcases r2 with v4 | c5
  · simp only [ze_l] at h
    obtain ⟨hg7, h⟩ := zg_some h
    by_cases hc8 : v4 = 0
    · rw [if_pos hc8] at h
      cases h
      exact (zfr_tr f6 (zfr_J rfl))
    · rw [if_neg hc8] at h
      cases h
      exact (zfr_tr f6 (zfr_J rfl))
  · simp only [ze_r] at h
    by_cases hc9 : c5 = 10
    · rw [if_pos hc9] at h
      cases h
      exact f6
    · rw [if_neg hc9] at h
      by_cases hc10 : c5 = 11
      · rw [if_pos hc10] at h
        cases h
        exact f6
      · rw [if_neg hc10] at h
        cases h
theorem frb_41_27 {v1 : Int} {v2 : Int} {s : zS} {q : (Int × Int × zS) ⊕ (Int × zS)} (h : b_41_27 v1 v2 s = some q) : zfr 35917864239044270117773758448835371491064198209601601 s (Sum.elim (fun e : (Int × Int × zS) => e.2.2) (fun e : (Int × zS) => e.2) q) := by
  unfold b_41_27 at h
  obtain ⟨hg1, h⟩ := zg_some h
  by_cases hc2 : v2 < (gI s 0 10)
  · rw [if_pos hc2] at h
    obtain ⟨r4, s5, h3, h⟩ := zb_some h
    have f6 := zfr_tr (zfr_rf _ _) (zfr_sub (m2 := 35917864239044270117773758448835371491064198209601601) rfl (fr_25 h3))
    obtain ⟨hg7, h⟩ := zg_some h
    by_cases hc8 : r4 = (-1)
    · rw [if_pos hc8] at h
      cases h
      exact f6
    · rw [if_neg hc8] at h
      cases h
      exact f6
  · rw [if_neg hc2] at h
    cases h
    exact (zfr_rf _ _)
theorem frl_41_27 {n : Nat} {e0 : (Int × Int × zS)} {t : (Int × zS)} (h : zlp (fun (q : Int × Int × zS) => b_41_27 q.1 q.2.1 q.2.2) n e0 = some t) : zfr 35917864239044270117773758448835371491064198209601601 ((fun e : (Int × Int × zS) => e.2.2) e0) ((fun e : (Int × zS) => e.2) t) := zfr_lp (f := (fun e : (Int × Int × zS) => e.2.2)) (g := (fun e : (Int × zS) => e.2)) (fun e q h1 => frb_41_27 h1) n e0 t h
theorem fr_41 {s : zS} {q : ((Int ⊕ Nat) × zS)} (h : f_41 s = some q) : zfr 35917864239044270117773758448835371491064198209601601 s q.2 := by
  unfold f_41 at h
  obtain ⟨r2, h1, h⟩ := zo_some h
  obtain ⟨r4, s5, h3, h⟩ := zb_some h
  have f6 := zfr_tr (zfr_rf _ _) (zfr_sub (m2 := 35917864239044270117773758448835371491064198209601601) rfl (fr_25 h3))
  obtain ⟨hg7, h⟩ := zg_some h
  by_cases hc8 : r4 = (-1)
  · rw [if_pos hc8] at h
    obtain ⟨e9, h10, h⟩ := zo_some h
    have f11 : zfr 35917864239044270117773758448835371491064198209601601 s e9.2 := zfr_tr f6 (frl_41_27 h10)
    obtain ⟨r13, h12, h⟩ := zo_some h
    cases h
    exact (zfr_tr f11 (zfr_I rfl))
  · rw [if_neg hc8] at h
    cases h
    exact f6
theorem fr_10 {s : zS} {q : (Int × zS)} (h : f_10 s = some q) : zfr 51422017452205553056387057072690961729545867292113568939245633 s q.2 := by
  unfold f_10 at h
  obtain ⟨r2, s3, h1, h⟩ := zb_some h
  have f6 := zfr_tr (zfr_rf _ _) (zfr_sub (m2 := 51422017452205553056387057072690961729545867292113568939245633) rfl (fr_41 h1))
  rcases r2 with v4 | c5
  · simp only [ze_l] at h
    obtain ⟨hg7, h⟩ := zg_some h
    cases h
    exact (zfr_tr f6 (zfr_J rfl))
  · simp only [ze_r] at h
    by_cases hc8 : c5 = 11
    · rw [if_pos hc8] at h
      cases h
      exact f6
    · rw [if_neg hc8] at h
      cases h
theorem fr_42 {v1 : Int} {s : zS} {q : ((Int ⊕ Nat) × zS)} (h : f_42 v1 s = some q) : zfr 0 s q.2 := by
  unfold f_42 at h
  obtain ⟨hg1, h⟩ := zg_some h
  by_cases hc2 : v1 < 0
  · rw [if_pos hc2] at h
    cases h
    exact (zfr_rf _ _)
  · rw [if_neg hc2] at h
    by_cases hc3 : v1 < (gI s 0 10)
    · rw [if_pos hc3] at h
      obtain ⟨hg4, h⟩ := zg_some h
      by_cases hc5 : (zand ((gI s 0 13) / 2 ^ zsh v1) 1) = 0
      · rw [if_pos hc5] at h
        cases h
        exact (zfr_rf _ _)
      · rw [if_neg hc5] at h
        cases h
        exact (zfr_rf _ _)
    · rw [if_neg hc3] at h
      cases h
      exact (zfr_rf _ _)
theorem fr_11 {v1 : Int} {s : zS} {q : (Int × zS)} (h : f_11 v1 s = some q) : zfr 51422017416287688817342786954917203280710495801049370729644032 s q.2 := by
  unfold f_11 at h
  obtain ⟨r2, s3, h1, h⟩ := zb_some h
  have f6 := zfr_tr (zfr_rf _ _) (zfr_sub (m2 := 51422017416287688817342786954917203280710495801049370729644032) rfl (fr_42 h1))
  rcases r2 with v4 | c5
  · simp only [ze_l] at h
    obtain ⟨hg7, h⟩ := zg_some h
    by_cases hc8 : v4 = 0
    · rw [if_pos hc8] at h
      cases h
      exact (zfr_tr f6 (zfr_J rfl))
    · rw [if_neg hc8] at h
      cases h
      exact (zfr_tr f6 (zfr_J rfl))
  · simp only [ze_r] at h
    by_cases hc9 : c5 = 10
    · rw [if_pos hc9] at h
      cases h
      exact f6
    · rw [if_neg hc9] at h
      cases h
theorem fr_44 {s : zS} {q : (Unit × zS)} (h : f_44 s = some q) : zfr 33423424 s q.2 := by
  unfold f_44 at h
  obtain ⟨hg1, h⟩ := zg_some h
  obtain ⟨hg2, h⟩ := zg_some h
  obtain ⟨r4, s5, h3, h⟩ := zb_some h
  have f6 := zfr_tr (zfr_rf _ _) (zfr_sub (m2 := 33423424) rfl (fr_102 h3))
  cases h
  exact f6
theorem frj_43_71_112 {v2 : Int} {v3 : Int} {v4 : Int} {t1 : Int} {t2 : Int} {s : zS} {q : (Int × Int × zS) ⊕ (Int × zS)} (h : j_43_71_112 v2 v3 v4 t1 t2 s = some q) : zfr 107753592717132810353321275346506114473192594025217345 s (Sum.elim (fun e : (Int × Int × zS) => e.2.2) (fun e : (Int × zS) => e.2) q) := by
  unfold j_43_71_112 at h
  obtain ⟨hg1, h⟩ := zg_some h
  obtain ⟨hg2, h⟩ := zg_some h
  obtain ⟨hg3, h⟩ := zg_some h
  by_cases hc4 : (gI (sI s 176 t1 t2) 176 v4) = 0
  · rw [if_pos hc4] at h
    cases h
    exact (zfr_tr (zfr_rf _ _) (zfr_I rfl))
  · rw [if_neg hc4] at h
    cases h
    exact (zfr_tr (zfr_rf _ _) (zfr_I rfl))
theorem frj_43_71_111 {v2 : Int} {v3 : Int} {v4 : Int} {t1 : Int} {s : zS} {q : (Int × Int × zS) ⊕ (Int × zS)} (h : j_43_71_111 v2 v3 v4 t1 s = some q) : zfr 107753592717132810353321275346506114473192594025217345 s (Sum.elim (fun e : (Int × Int × zS) => e.2.2) (fun e : (Int × zS) => e.2) q) := by
  unfold j_43_71_111 at h
  exact zfr_tr (zfr_rf _ _) (frj_43_71_112 h)
theorem frb_43_71 {v2 : Int} {v3 : Int} {v4 : Int} {s : zS} {q : (Int × Int × zS) ⊕ (Int × zS)} (h : b_43_71 v2 v3 v4 s = some q) : zfr 107753592717132810353321275346506114473192594025217345 s (Sum.elim (fun e : (Int × Int × zS) => e.2.2) (fun e : (Int × zS) => e.2) q) := by
  unfold b_43_71 at h
  obtain ⟨hg1, h⟩ := zg_some h
  by_cases hc2 : v4 < 125
  · rw [if_pos hc2] at h
    obtain ⟨hg3, h⟩ := zg_some h
    by_cases hc4 : v4 < v2
    · rw [if_pos hc4] at h
      obtain ⟨hg5, h⟩ := zg_some h
      obtain ⟨r7, h6, h⟩ := zo_some h
      obtain ⟨hg8, h⟩ := zg_some h
      by_cases hc9 : r7 = 0
      · rw [if_pos hc9] at h
        exact zfr_tr (zfr_rf _ _) (frj_43_71_111 h)
      · rw [if_neg hc9] at h
        exact zfr_tr (zfr_rf _ _) (frj_43_71_112 h)
    · rw [if_neg hc4] at h
      exact zfr_tr (zfr_rf _ _) (frj_43_71_111 h)
  · rw [if_neg hc2] at h
    cases h
    exact (zfr_rf _ _)
theorem frl_43_71 {v2 : Int} {n : Nat} {e0 : (Int × Int × zS)} {t : (Int × zS)} (h : zlp (fun (q : Int × Int × zS) => b_43_71 v2 q.1 q.2.1 q.2.2) n e0 = some t) : zfr 107753592717132810353321275346506114473192594025217345 ((fun e : (Int × Int × zS) => e.2.2) e0) ((fun e : (Int × zS) => e.2) t) := zfr_lp (f := (fun e : (Int × Int × zS) => e.2.2)) (g := (fun e : (Int × zS) => e.2)) (fun e q h1 => frb_43_71 h1) n e0 t h
theorem fr_43 {s : zS} {q : ((Int ⊕ Nat) × zS)} (h : f_43 s = some q) : zfr 107753592717132810353321275346506114473192594025217345 s q.2 := by
  unfold f_43 at h
  by_cases hc1 : (gI s 0 12) = (-1)
  · rw [if_pos hc1] at h
    obtain ⟨r3, s4, h2, h⟩ := zb_some h
    have f5 := zfr_tr (zfr_rf _ _) (zfr_sub (m2 := 107753592717132810353321275346506114473192594025217345) rfl (fr_70 h2))
    cases h
    exact f5
  · rw [if_neg hc1] at h
    obtain ⟨r7, s8, h6, h⟩ := zb_some h
    have f9 := zfr_tr (zfr_rf _ _) (zfr_sub (m2 := 107753592717132810353321275346506114473192594025217345) rfl (fr_17 h6))
    obtain ⟨hg10, h⟩ := zg_some h
    by_cases hc11 : r7 = 0
    · rw [if_pos hc11] at h
      obtain ⟨r13, s14, h12, h⟩ := zb_some h
      have f15 := zfr_tr f9 (zfr_sub (m2 := 107753592717132810353321275346506114473192594025217345) rfl (fr_44 h12))
      obtain ⟨r17, h16, h⟩ := zo_some h
      obtain ⟨e18, h19, h⟩ := zo_some h
      have f20 : zfr 107753592717132810353321275346506114473192594025217345 s e18.2 := zfr_tr (zfr_tr f15 (zfr_I rfl)) (frl_43_71 h19)
      cases h
      exact f20
    · rw [if_neg hc11] at h
      cases h
      exact f9
theorem fr_12 {s : zS} {q : (Int × zS)} (h : f_12 s = some q) : zfr 51422017524041281534475597308238478627216610274241964754861377 s q.2 := by
  unfold f_12 at h
  obtain ⟨r2, s3, h1, h⟩ := zb_some h
  have f6 := zfr_tr (zfr_rf _ _) (zfr_sub (m2 := 51422017524041281534475597308238478627216610274241964754861377) rfl (fr_43 h1))
  rcases r2 with v4 | c5
  · simp only [ze_l] at h
    obtain ⟨hg7, h⟩ := zg_some h
    cases h
    exact (zfr_tr f6 (zfr_J rfl))
  · simp only [ze_r] at h
    by_cases hc8 : c5 = 11
    · rw [if_pos hc8] at h
      cases h
      exact f6
    · rw [if_neg hc8] at h
      cases h
theorem fr_46 {s : zS} {q : ((Int ⊕ Nat) × zS)} (h : f_46 s = some q) : zfr 11972621413014756705924586149611790497021398888742209 s q.2 := by
  unfold f_46 at h
  by_cases hc1 : (gI s 0 12) = (-1)
  · rw [if_pos hc1] at h
    obtain ⟨r3, s4, h2, h⟩ := zb_some h
    have f5 := zfr_tr (zfr_rf _ _) (zfr_sub (m2 := 11972621413014756705924586149611790497021398888742209) rfl (fr_70 h2))
    cases h
    exact f5
  · rw [if_neg hc1] at h
    obtain ⟨r7, s8, h6, h⟩ := zb_some h
    have f9 := zfr_tr (zfr_rf _ _) (zfr_sub (m2 := 11972621413014756705924586149611790497021398888742209) rfl (fr_17 h6))
    obtain ⟨hg10, h⟩ := zg_some h
    by_cases hc11 : r7 = 0
    · rw [if_pos hc11] at h
      obtain ⟨r13, s14, h12, h⟩ := zb_some h
      have f15 := zfr_tr f9 (zfr_sub (m2 := 11972621413014756705924586149611790497021398888742209) rfl (fr_44 h12))
      obtain ⟨r17, h16, h⟩ := zo_some h
      obtain ⟨hg18, h⟩ := zg_some h
      by_cases hc19 : r17 = 0
      · rw [if_pos hc19] at h
        cases h
        exact f15
      · rw [if_neg hc19] at h
        cases h
        exact f15
    · rw [if_neg hc11] at h
      cases h
      exact f9
theorem fr_13 {s : zS} {q : (Int × zS)} (h : f_13 s = some q) : zfr 51422017428260310230357543660841789430322286298070769618386241 s q.2 := by
  unfold f_13 at h
  obtain ⟨r2, s3, h1, h⟩ := zb_some h
  have f6 := zfr_tr (zfr_rf _ _) (zfr_sub (m2 := 51422017428260310230357543660841789430322286298070769618386241) rfl (fr_46 h1))
  rcases r2 with v4 | c5
  · simp only [ze_l] at h
    obtain ⟨hg7, h⟩ := zg_some h
    cases h
    exact (zfr_tr f6 (zfr_J rfl))
  · simp only [ze_r] at h
    by_cases hc8 : c5 = 11
    · rw [if_pos hc8] at h
      cases h
      exact f6
    · rw [if_neg hc8] at h
      cases h

