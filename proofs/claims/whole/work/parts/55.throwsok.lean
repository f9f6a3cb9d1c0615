/-! TABLES: places of 'throw' and handlers are right; wider lists of words. -/
def xNc : List Cond := [.not (.castable "java/lang/IllegalArgumentException" "java/lang/UnsupportedOperationException"), .not (.castable "java/lang/IllegalArgumentException" "java/lang/IndexOutOfBoundsException"), .not (.castable "java/lang/IllegalArgumentException" "java/lang/IllegalStateException"), .not (.castable "java/lang/UnsupportedOperationException" "java/lang/IllegalArgumentException"), .not (.castable "java/lang/UnsupportedOperationException" "java/lang/IndexOutOfBoundsException"), .not (.castable "java/lang/UnsupportedOperationException" "java/lang/IllegalStateException"), .not (.castable "java/lang/IndexOutOfBoundsException" "java/lang/IllegalArgumentException"), .not (.castable "java/lang/IndexOutOfBoundsException" "java/lang/UnsupportedOperationException"), .not (.castable "java/lang/IndexOutOfBoundsException" "java/lang/IllegalStateException"), .not (.castable "java/lang/IllegalStateException" "java/lang/IllegalArgumentException"), .not (.castable "java/lang/IllegalStateException" "java/lang/UnsupportedOperationException"), .not (.castable "java/lang/IllegalStateException" "java/lang/IndexOutOfBoundsException")]
def yTw : List Cond := xTw ++ xNc
theorem yTw_nk : ∀ w ∈ yTw, am_nk w = true := fun w h => by
  rcases List.mem_append.mp h with h | h
  · exact xTw_nk w h
  · exact List.all_eq_true.mp (show xNc.all am_nk = true from by decide +kernel) w h
def ykz (vz vu vs : Value) : List (String × String × String × Value) := xkz vz ++ [(Jvm.Bundle.tN, "UNASSIGNED_STACK", Jvm.Bundle.steD, vu), (Jvm.Bundle.tN, "SUPPRESSED_SENTINEL", Jvm.Bundle.listD, vs)]
theorem ykzT {vz vu vs : Value} (hu : vu.isRef = true) (hs : vs.isRef = true) : am_KzT (ykz vz vu vs) := ⟨⟨vu, hu, List.mem_append_right _ List.mem_cons_self⟩, ⟨vs, hs, List.mem_append_right _ (List.mem_cons_of_mem _ List.mem_cons_self)⟩⟩
theorem yMOk {vz vu vs : Value} {M : am_M} (h : am_MOk xcl xTs xTw xfty xkr (xkz vz) xfn M) : am_MOk xcl xTs yTw xfty xkr (ykz vz vu vs) xfn M := by
  obtain ⟨h1, h2, h3, h4, h5, h6, h7, h8⟩ := h
  refine ⟨h1, ?_, ?_, h4, ?_, h6, h7, ?_⟩
  · intro ix ci k hh hg
    obtain ⟨C, T, N, q1, q2, q3⟩ := h2 ix ci k hh hg
    refine ⟨C, T, N, q1, q2, ?_⟩
    cases hh with
    | none => exact q3
    | some host => exact List.mem_append_left _ q3
  · intro ix ci k hh fin hg
    obtain ⟨C, T, N, q1, q2, q3⟩ := h3 ix ci k hh fin hg
    refine ⟨C, T, N, q1, q2, ?_⟩
    cases hh with
    | none => exact q3
    | some host => exact ⟨List.mem_append_left _ q3.1, q3.2⟩
  · intro ix C hg
    obtain ⟨q1, q2⟩ := h5 ix C hg
    exact ⟨q1, List.mem_append_left _ q2⟩
  · intro ix v hg
    obtain ⟨C, n, d, q1, q2⟩ := h8 ix v hg
    refine ⟨C, n, d, List.mem_append_left _ q1, ?_⟩
    rcases q2 with q2 | ⟨host, q2⟩
    · exact Or.inl q2
    · exact Or.inr ⟨host, List.mem_append_left _ q2⟩
theorem yCt {MT : Nat → Option am_M} {M : am_M} (h : am_CtOk MT xcl xTs xTw M) : am_CtOk MT xcl xTs yTw M := by
  intro ix k mi n hh rc hg
  obtain ⟨a1, a2, a3, a4, a5⟩ := h ix k mi n hh rc hg
  refine ⟨a1, a2, a3, a4, fun hk M' hM' => ?_⟩
  obtain ⟨b1, b2, b3⟩ := a5 hk M' hM'
  refine ⟨b1, ?_, b3⟩
  cases hh with
  | none => exact b2
  | some host => exact List.mem_append_left _ b2
def xOwn (E : String) : List Cond := Jvm.Bundle.throwableAtoms ++ Jvm.Bundle.throwableSAtoms ++ Jvm.Bundle.chainSAtoms E am_up ++
  [.instantiable E 6, .castable E E, .selects E Jvm.Bundle.tFill0 Jvm.Bundle.tFill0, .selects E Jvm.Bundle.tFill Jvm.Bundle.tFill,
   .lays E Jvm.Bundle.tN "cause" "Ljava/lang/Throwable;", .lays E Jvm.Bundle.tN "stackTrace" Jvm.Bundle.steD, .lays E Jvm.Bundle.tN "suppressedExceptions" Jvm.Bundle.listD, .lays E Jvm.Bundle.tN "detailMessage" "Ljava/lang/String;",
   am_iu, am_is, .fieldLink Jvm.Bundle.tN 198 Jvm.Bundle.tN "backtrace" "Ljava/lang/Object;", .lays Jvm.Bundle.tN Jvm.Bundle.tN "backtrace" "Ljava/lang/Object;", .lays E Jvm.Bundle.tN "backtrace" "Ljava/lang/Object;"]
def ck_dc (w : Cond) : Bool := match w with
  | .declares x => ck_in (.instanceMethod x) && (ck_in (.code x Jvm.Bundle.six 2 none) || ck_in (.code x Jvm.LibCode.Throwable.InitS.code 2 none))
  | _ => false
def ck_aw (w : Cond) : Bool := ck_in w || (ck_nk w || (decide (w = am_iu) || (decide (w = am_is) || (decide (w = am_lu) || (decide (w = am_ls) || ck_dc w)))))
theorem ck_aw_ok {w : Cond} (h : ck_aw w = true) : am_aw xTs yTw w := by
  simp only [ck_aw, Bool.or_eq_true, decide_eq_true_eq] at h
  rcases h with h | h | h | h | h | h | h
  · exact Or.inl (ck_in_ok h)
  · exact Or.inr (Or.inl (List.mem_append_left _ (ck_nk_ok h)))
  · exact Or.inr (Or.inr (Or.inl h))
  · exact Or.inr (Or.inr (Or.inr (Or.inl h)))
  · exact Or.inr (Or.inr (Or.inr (Or.inr (Or.inl h))))
  · exact Or.inr (Or.inr (Or.inr (Or.inr (Or.inr (Or.inl h)))))
  · unfold ck_dc at h
    split at h
    · next x =>
      simp only [Bool.and_eq_true, Bool.or_eq_true] at h
      rcases h.2 with h2 | h2
      · exact Or.inr (Or.inr (Or.inr (Or.inr (Or.inr (Or.inr ⟨x, _, _, _, rfl, ck_in_ok h.1, ck_in_ok h2⟩)))))
      · exact Or.inr (Or.inr (Or.inr (Or.inr (Or.inr (Or.inr ⟨x, _, _, _, rfl, ck_in_ok h.1, ck_in_ok h2⟩)))))
    · cases h
def ck_E (E : String) : Bool := Jvm.Bundle.fit E && (ck_in (.instantiable E 6) && (ck_in (.initialized E) && (xOwn E).all ck_aw))
theorem xE_0 : ck_E "java/lang/IllegalArgumentException" = true := by decide +kernel
theorem xE_1 : ck_E "java/lang/UnsupportedOperationException" = true := by decide +kernel
theorem xE_2 : ck_E "java/lang/IndexOutOfBoundsException" = true := by decide +kernel
theorem xE_3 : ck_E "java/lang/IllegalStateException" = true := by decide +kernel
theorem xE_all {E : String} (h : E ∈ (["java/lang/IllegalArgumentException", "java/lang/UnsupportedOperationException", "java/lang/IndexOutOfBoundsException", "java/lang/IllegalStateException"] : List String)) : ck_E E = true := by
  simp only [List.mem_cons, List.not_mem_nil, or_false] at h
  rcases h with rfl | rfl | rfl | rfl
  · exact xE_0
  · exact xE_1
  · exact xE_2
  · exact xE_3
def xexc : List String := ["java/lang/IllegalArgumentException", "java/lang/UnsupportedOperationException", "java/lang/IndexOutOfBoundsException", "java/lang/IllegalStateException"]
theorem ck_E_ok {E own : String} {iv : Nat} (h : ck_E E = true) (hl : Cond.methodLink own iv (Jvm.Bundle.initS E) ∈ xTs) : Jvm.Bundle.fit E = true ∧ Cond.instantiable E 6 ∈ xTs ∧ Cond.initialized E ∈ xTs ∧ ∀ w ∈ Jvm.Bundle.ownAtoms own iv E am_up, am_aw xTs yTw w := by
  simp only [ck_E, Bool.and_eq_true] at h
  obtain ⟨h1, h2, h3, h4⟩ := h
  refine ⟨h1, ck_in_ok h2, ck_in_ok h3, fun w hw => ?_⟩
  have hw2 : w = Cond.methodLink own iv (Jvm.Bundle.initS E) ∨ w ∈ xOwn E := by
    simp only [Jvm.Bundle.ownAtoms, xOwn, am_iu, am_is, List.mem_append, List.mem_cons, List.not_mem_nil, or_false] at hw ⊢
    rcases hw with hw | hw | hw
    · exact Or.inr (Or.inl hw)
    · exact Or.inl hw
    · exact Or.inr (Or.inr hw)
  rcases hw2 with hw2 | hw2
  · rw [hw2]; exact Or.inl hl
  · exact ck_aw_ok (List.all_eq_true.mp h4 w hw2)
def ck_X (M : am_M) (q : Nat × Nat) : Bool := match xcl[q.2]? with
  | some (E, _, 0) => (match am_mI M q.1, am_mI M (q.1 + 3), am_mI M (q.1 + 4), am_mI M (q.1 + 6), am_mI M (q.1 + 9) with
    | some (.new ix, 3), some (.dup, 1), some (.ldc il, 2), some (.invokespecial iv, 3), some (.athrow, 1) =>
      decide (E ∈ xexc) && (ck_in (.classLink (am_y M).cls ix E) && (ck_in (.methodLink (am_y M).cls iv (Jvm.Bundle.initS E)) && (xkr.any (fun r => decide (r.1 = (am_y M).cls) && Nat.beq r.2.1 il) && ck_in (am_wd M))))
    | _, _, _, _, _ => false)
  | _ => false
theorem ck_X_ok {vz : Value} {M : am_M} {l : List (Nat × Nat)} (hX : am_mX M = am_lk l) (hT : am_mT M = []) (hM : am_MOk xcl xTs xTw xfty xkr (xkz vz) xfn M) (h : l.all (ck_X M) = true) : ∀ pc ci, am_mX M pc = some ci → am_XOk xcl xTs yTw xkr M pc ci := by
  intro pc ci hpc
  rw [hX] at hpc
  have h1 := List.all_eq_true.mp h _ (am_lk_mem hpc)
  unfold ck_X at h1
  split at h1
  · next E T e1 =>
    split at h1
    · next ix il iv i0 i3 i4 i6 i9 =>
      simp only [Bool.and_eq_true, decide_eq_true_eq, List.any_eq_true] at h1
      obtain ⟨g1, g2, g3, ⟨⟨r1, r2, tx, j⟩, hr, hr1, hr2⟩, g5⟩ := h1
      have hr3 := Nat.eq_of_beq_eq_true hr2
      simp only at hr1 hr3
      subst hr1; subst hr3
      obtain ⟨f1, f2, f3, f4⟩ := ck_E_ok (xE_all g1) (ck_in_ok g3)
      exact ⟨E, tx, T, ix, r2, iv, j, e1, hT, ck_in_ok g5, (hM.1 _ _ _ i0).1, (hM.1 _ _ _ i3).1, (hM.1 _ _ _ i4).1, (hM.1 _ _ _ i6).1, (hM.1 _ _ _ i9).1, ck_in_ok g2, f2, f3, hr, f1, f4⟩
    · cases h1
  · cases h1
def ck_T (M : am_M) (q : Nat × Nat × Nat × Nat) : Bool := match am_mK M q.2.2.2 with
  | some cj => (match xcl[cj]? with
    | some (C, _, 0) => decide (q.2.2.2 ≠ 0) && (ck_in (.classLink (am_y M).cls q.2.2.2 C) && (am_mT M).all (fun q' => match am_mK M q'.2.2.2 with
      | some ci => (match xcl[ci]? with
        | some (E, _, 0) => if ci = cj then ck_nk (.castable E C) else decide (Cond.not (.castable E C) ∈ xNc)
        | _ => false)
      | none => false))
    | _ => false)
  | none => false
theorem ck_T_ok {M : am_M} (h : (am_mT M).all (ck_T M) = true) : am_TOk xcl xTs yTw M := by
  intro q hq
  have h1 := List.all_eq_true.mp h q hq
  unfold ck_T at h1
  split at h1
  · next cj e1 =>
    split at h1
    · next C T e2 =>
      simp only [Bool.and_eq_true, decide_eq_true_eq] at h1
      obtain ⟨g1, g2, g3⟩ := h1
      refine ⟨cj, C, T, g1, e1, e2, ck_in_ok g2, fun q' hq' ci E T' f1 f2 => ?_⟩
      have h2 := List.all_eq_true.mp g3 q' hq'
      simp only [f1, f2] at h2
      split at h2
      · next hc => exact ⟨fun _ => List.mem_append_left _ (ck_nk_ok h2), fun hn => absurd hc hn⟩
      · next hc => exact ⟨fun hn => absurd hn hc, fun _ => List.mem_append_right _ (of_decide_eq_true h2)⟩
    · cases h1
  · cases h1
def ck_V (M : am_M) (q : Nat × Instr × Nat) : Bool := match am_cal M q.2.1 with
  | some (_, k, _, _, h, _) => decide (4 ≤ k) || (decide (k = 2) && h.isNone)
  | none => true
theorem ck_V_ok {M : am_M} {t : List (List (Nat × Instr × Nat))} (hI : am_mI M = am_lk2 t) (h : t.flatten.all (ck_V M) = true) : ∀ pc i len ix k mi' na hh rc, am_mI M pc = some (i, len) → am_cal M i = some (ix, k, mi', na, hh, rc) → ¬ 4 ≤ k → k = 2 ∧ hh = none := by
  intro pc i len ix k mi' na hh rc h1 h2 h3
  rw [hI] at h1
  have h4 := List.all_eq_true.mp h _ (am_lk2_mem h1)
  unfold ck_V at h4
  simp only [h2, Bool.or_eq_true, Bool.and_eq_true, decide_eq_true_eq] at h4
  rcases h4 with h4 | ⟨h4, h5⟩
  · exact absurd h4 h3
  · exact ⟨h4, Option.isNone_iff_eq_none.mp h5⟩
def xOkX (M : am_M) : Prop := (∀ pc ci, am_mX M pc = some ci → am_XOk xcl xTs yTw xkr M pc ci) ∧ (am_mT M ≠ [] → am_TOk xcl xTs yTw M ∧ am_wd M ∈ xTs ∧ ∀ pc i len ix k mi' na h rc, am_mI M pc = some (i, len) → am_cal M i = some (ix, k, mi', na, h, rc) → ¬ 4 ≤ k → k = 2 ∧ h = none)
theorem xOkX_0 {M : am_M} (hX : am_mX M = am_lk []) (hT : am_mT M = []) : xOkX M := ⟨fun pc ci h => absurd (hX ▸ h : am_lk [] pc = some ci) (by intro h9; cases h9), fun h => absurd hT h⟩
theorem xOkX_X {vz : Value} {M : am_M} {l : List (Nat × Nat)} (hX : am_mX M = am_lk l) (hT : am_mT M = []) (hM : am_MOk xcl xTs xTw xfty xkr (xkz vz) xfn M) (h : l.all (ck_X M) = true) : xOkX M := ⟨ck_X_ok hX hT hM h, fun h => absurd hT h⟩
theorem xOkX_T {M : am_M} {t : List (List (Nat × Instr × Nat))} (hX : am_mX M = am_lk []) (hT : (am_mT M).all (ck_T M) = true) (hw : ck_in (am_wd M) = true) (hI : am_mI M = am_lk2 t) (h : t.flatten.all (ck_V M) = true) : xOkX M := ⟨fun pc ci h => absurd (hX ▸ h : am_lk [] pc = some ci) (by intro h9; cases h9), fun _ => ⟨ck_T_ok hT, ck_in_ok hw, ck_V_ok hI h⟩⟩
theorem xX_0 (vz : Value) : ∀ q ∈ ([(0, xm_0), (1, xm_1), (2, xm_2), (3, xm_3), (4, xm_4), (5, xm_5), (6, xm_6), (7, xm_7), (8, xm_8), (9, xm_9), (10, xm_10), (11, xm_11), (12, xm_12), (13, xm_13), (14, xm_14), (15, xm_15)] : List (Nat × am_M)), xOkX q.2 := by
  intro q hq
  simp only [List.mem_cons, List.not_mem_nil, or_false] at hq
  rcases hq with rfl | rfl | rfl | rfl | rfl | rfl | rfl | rfl | rfl | rfl | rfl | rfl | rfl | rfl | rfl | rfl
  · exact xOkX_0 rfl rfl
  · exact xOkX_0 rfl rfl
  · exact xOkX_T (t := xi_2) rfl (by decide +kernel) (by decide +kernel) rfl (by decide +kernel)
  · exact xOkX_T (t := xi_3) rfl (by decide +kernel) (by decide +kernel) rfl (by decide +kernel)
  · exact xOkX_T (t := xi_4) rfl (by decide +kernel) (by decide +kernel) rfl (by decide +kernel)
  · exact xOkX_T (t := xi_5) rfl (by decide +kernel) (by decide +kernel) rfl (by decide +kernel)
  · exact xOkX_T (t := xi_6) rfl (by decide +kernel) (by decide +kernel) rfl (by decide +kernel)
  · exact xOkX_T (t := xi_7) rfl (by decide +kernel) (by decide +kernel) rfl (by decide +kernel)
  · exact xOkX_T (t := xi_8) rfl (by decide +kernel) (by decide +kernel) rfl (by decide +kernel)
  · exact xOkX_T (t := xi_9) rfl (by decide +kernel) (by decide +kernel) rfl (by decide +kernel)
  · exact xOkX_T (t := xi_10) rfl (by decide +kernel) (by decide +kernel) rfl (by decide +kernel)
  · exact xOkX_T (t := xi_11) rfl (by decide +kernel) (by decide +kernel) rfl (by decide +kernel)
  · exact xOkX_T (t := xi_12) rfl (by decide +kernel) (by decide +kernel) rfl (by decide +kernel)
  · exact xOkX_T (t := xi_13) rfl (by decide +kernel) (by decide +kernel) rfl (by decide +kernel)
  · exact xOkX_0 rfl rfl
  · exact xOkX_0 rfl rfl
theorem xX_1 (vz : Value) : ∀ q ∈ ([(16, xm_16), (17, xm_17), (18, xm_18), (19, xm_19), (20, xm_20), (21, xm_21), (22, xm_22), (23, xm_23), (24, xm_24), (25, xm_25), (26, xm_26), (27, xm_27), (28, xm_28), (29, xm_29), (30, xm_30), (31, xm_31)] : List (Nat × am_M)), xOkX q.2 := by
  intro q hq
  simp only [List.mem_cons, List.not_mem_nil, or_false] at hq
  rcases hq with rfl | rfl | rfl | rfl | rfl | rfl | rfl | rfl | rfl | rfl | rfl | rfl | rfl | rfl | rfl | rfl
  · exact xOkX_0 rfl rfl
  · exact xOkX_0 rfl rfl
  · exact xOkX_0 rfl rfl
  · exact xOkX_0 rfl rfl
  · exact xOkX_0 rfl rfl
  · exact xOkX_0 rfl rfl
  · exact xOkX_0 rfl rfl
  · exact xOkX_0 rfl rfl
  · exact xOkX_0 rfl rfl
  · exact xOkX_0 rfl rfl
  · exact xOkX_0 rfl rfl
  · exact xOkX_0 rfl rfl
  · exact xOkX_0 rfl rfl
  · exact xOkX_0 rfl rfl
  · exact xOkX_0 rfl rfl
  · exact xOkX_0 rfl rfl
theorem xX_2 (vz : Value) : ∀ q ∈ ([(32, xm_32), (33, xm_33), (34, xm_34), (35, xm_35), (36, xm_36), (37, xm_37), (38, xm_38), (39, xm_39), (40, xm_40), (41, xm_41), (42, xm_42), (43, xm_43), (44, xm_44), (45, xm_45), (46, xm_46), (47, xm_47)] : List (Nat × am_M)), xOkX q.2 := by
  intro q hq
  simp only [List.mem_cons, List.not_mem_nil, or_false] at hq
  rcases hq with rfl | rfl | rfl | rfl | rfl | rfl | rfl | rfl | rfl | rfl | rfl | rfl | rfl | rfl | rfl | rfl
  · exact xOkX_X (vz := vz) (l := [(11, 8), (36, 9)]) rfl rfl (hM_32 vz) (by decide +kernel)
  · exact xOkX_X (vz := vz) (l := [(29, 8), (51, 9)]) rfl rfl (hM_33 vz) (by decide +kernel)
  · exact xOkX_0 rfl rfl
  · exact xOkX_X (vz := vz) (l := [(12, 10), (31, 8), (84, 9)]) rfl rfl (hM_35 vz) (by decide +kernel)
  · exact xOkX_X (vz := vz) (l := [(16, 9)]) rfl rfl (hM_36 vz) (by decide +kernel)
  · exact xOkX_X (vz := vz) (l := [(7, 11)]) rfl rfl (hM_37 vz) (by decide +kernel)
  · exact xOkX_X (vz := vz) (l := [(8, 11)]) rfl rfl (hM_38 vz) (by decide +kernel)
  · exact xOkX_X (vz := vz) (l := [(7, 11)]) rfl rfl (hM_39 vz) (by decide +kernel)
  · exact xOkX_X (vz := vz) (l := [(12, 10), (30, 11)]) rfl rfl (hM_40 vz) (by decide +kernel)
  · exact xOkX_X (vz := vz) (l := [(15, 11)]) rfl rfl (hM_41 vz) (by decide +kernel)
  · exact xOkX_X (vz := vz) (l := [(12, 10)]) rfl rfl (hM_42 vz) (by decide +kernel)
  · exact xOkX_X (vz := vz) (l := [(15, 11)]) rfl rfl (hM_43 vz) (by decide +kernel)
  · exact xOkX_0 rfl rfl
  · exact xOkX_0 rfl rfl
  · exact xOkX_X (vz := vz) (l := [(15, 11)]) rfl rfl (hM_46 vz) (by decide +kernel)
  · exact xOkX_0 rfl rfl
theorem xX_3 (vz : Value) : ∀ q ∈ ([(48, xm_48), (49, xm_49), (50, xm_50), (51, xm_51), (52, xm_52), (53, xm_53), (54, xm_54), (55, xm_55), (56, xm_56), (57, xm_57), (58, xm_58), (59, xm_59), (60, xm_60), (61, xm_61), (62, xm_62), (63, xm_63)] : List (Nat × am_M)), xOkX q.2 := by
  intro q hq
  simp only [List.mem_cons, List.not_mem_nil, or_false] at hq
  rcases hq with rfl | rfl | rfl | rfl | rfl | rfl | rfl | rfl | rfl | rfl | rfl | rfl | rfl | rfl | rfl | rfl
  · exact xOkX_0 rfl rfl
  · exact xOkX_0 rfl rfl
  · exact xOkX_0 rfl rfl
  · exact xOkX_0 rfl rfl
  · exact xOkX_0 rfl rfl
  · exact xOkX_0 rfl rfl
  · exact xOkX_0 rfl rfl
  · exact xOkX_0 rfl rfl
  · exact xOkX_0 rfl rfl
  · exact xOkX_0 rfl rfl
  · exact xOkX_0 rfl rfl
  · exact xOkX_0 rfl rfl
  · exact xOkX_0 rfl rfl
  · exact xOkX_0 rfl rfl
  · exact xOkX_0 rfl rfl
  · exact xOkX_0 rfl rfl
theorem xX_4 (vz : Value) : ∀ q ∈ ([(64, xm_64), (65, xm_65), (66, xm_66), (67, xm_67), (68, xm_68), (69, xm_69), (70, xm_70), (71, xm_71), (72, xm_72), (73, xm_73), (74, xm_74), (75, xm_75), (76, xm_76), (77, xm_77), (78, xm_78), (79, xm_79)] : List (Nat × am_M)), xOkX q.2 := by
  intro q hq
  simp only [List.mem_cons, List.not_mem_nil, or_false] at hq
  rcases hq with rfl | rfl | rfl | rfl | rfl | rfl | rfl | rfl | rfl | rfl | rfl | rfl | rfl | rfl | rfl | rfl
  · exact xOkX_0 rfl rfl
  · exact xOkX_0 rfl rfl
  · exact xOkX_0 rfl rfl
  · exact xOkX_0 rfl rfl
  · exact xOkX_0 rfl rfl
  · exact xOkX_0 rfl rfl
  · exact xOkX_0 rfl rfl
  · exact xOkX_0 rfl rfl
  · exact xOkX_0 rfl rfl
  · exact xOkX_0 rfl rfl
  · exact xOkX_0 rfl rfl
  · exact xOkX_0 rfl rfl
  · exact xOkX_0 rfl rfl
  · exact xOkX_0 rfl rfl
  · exact xOkX_0 rfl rfl
  · exact xOkX_0 rfl rfl
theorem xX_5 (vz : Value) : ∀ q ∈ ([(80, xm_80), (81, xm_81), (82, xm_82), (83, xm_83), (84, xm_84), (85, xm_85), (86, xm_86), (87, xm_87), (88, xm_88), (89, xm_89), (90, xm_90), (91, xm_91), (92, xm_92), (93, xm_93), (94, xm_94), (95, xm_95)] : List (Nat × am_M)), xOkX q.2 := by
  intro q hq
  simp only [List.mem_cons, List.not_mem_nil, or_false] at hq
  rcases hq with rfl | rfl | rfl | rfl | rfl | rfl | rfl | rfl | rfl | rfl | rfl | rfl | rfl | rfl | rfl | rfl
  · exact xOkX_0 rfl rfl
  · exact xOkX_0 rfl rfl
  · exact xOkX_0 rfl rfl
  · exact xOkX_0 rfl rfl
  · exact xOkX_0 rfl rfl
  · exact xOkX_0 rfl rfl
  · exact xOkX_0 rfl rfl
  · exact xOkX_0 rfl rfl
  · exact xOkX_0 rfl rfl
  · exact xOkX_0 rfl rfl
  · exact xOkX_0 rfl rfl
  · exact xOkX_0 rfl rfl
  · exact xOkX_0 rfl rfl
  · exact xOkX_0 rfl rfl
  · exact xOkX_0 rfl rfl
  · exact xOkX_0 rfl rfl
theorem xX_6 (vz : Value) : ∀ q ∈ ([(96, xm_96), (97, xm_97), (98, xm_98), (99, xm_99), (100, xm_100), (101, xm_101), (102, xm_102), (103, xm_103), (104, xm_104), (105, xm_105), (106, xm_106), (107, xm_107), (108, xm_108), (109, xm_109), (110, xm_110), (111, xm_111)] : List (Nat × am_M)), xOkX q.2 := by
  intro q hq
  simp only [List.mem_cons, List.not_mem_nil, or_false] at hq
  rcases hq with rfl | rfl | rfl | rfl | rfl | rfl | rfl | rfl | rfl | rfl | rfl | rfl | rfl | rfl | rfl | rfl
  · exact xOkX_0 rfl rfl
  · exact xOkX_0 rfl rfl
  · exact xOkX_0 rfl rfl
  · exact xOkX_0 rfl rfl
  · exact xOkX_0 rfl rfl
  · exact xOkX_0 rfl rfl
  · exact xOkX_0 rfl rfl
  · exact xOkX_0 rfl rfl
  · exact xOkX_0 rfl rfl
  · exact xOkX_0 rfl rfl
  · exact xOkX_0 rfl rfl
  · exact xOkX_0 rfl rfl
  · exact xOkX_0 rfl rfl
  · exact xOkX_0 rfl rfl
  · exact xOkX_0 rfl rfl
  · exact xOkX_0 rfl rfl
theorem xX_7 (vz : Value) : ∀ q ∈ ([(112, xm_112), (113, xm_113), (114, xm_114), (115, xm_115), (116, xm_116), (117, xm_117), (118, xm_118), (119, xm_119), (120, xm_120), (121, xm_121), (122, xm_122), (123, xm_123), (124, xm_124), (125, xm_125), (126, xm_126), (127, xm_127)] : List (Nat × am_M)), xOkX q.2 := by
  intro q hq
  simp only [List.mem_cons, List.not_mem_nil, or_false] at hq
  rcases hq with rfl | rfl | rfl | rfl | rfl | rfl | rfl | rfl | rfl | rfl | rfl | rfl | rfl | rfl | rfl | rfl
  · exact xOkX_0 rfl rfl
  · exact xOkX_0 rfl rfl
  · exact xOkX_0 rfl rfl
  · exact xOkX_0 rfl rfl
  · exact xOkX_0 rfl rfl
  · exact xOkX_0 rfl rfl
  · exact xOkX_0 rfl rfl
  · exact xOkX_0 rfl rfl
  · exact xOkX_0 rfl rfl
  · exact xOkX_0 rfl rfl
  · exact xOkX_0 rfl rfl
  · exact xOkX_0 rfl rfl
  · exact xOkX_0 rfl rfl
  · exact xOkX_0 rfl rfl
  · exact xOkX_0 rfl rfl
  · exact xOkX_0 rfl rfl
theorem xX_8 (vz : Value) : ∀ q ∈ ([(128, xm_128), (129, xm_129), (130, xm_130), (131, xm_131), (132, xm_132), (133, xm_133), (134, xm_134), (135, xm_135), (136, xm_136), (137, xm_137), (138, xm_138), (139, xm_139), (140, xm_140), (141, xm_141), (142, xm_142), (143, xm_143)] : List (Nat × am_M)), xOkX q.2 := by
  intro q hq
  simp only [List.mem_cons, List.not_mem_nil, or_false] at hq
  rcases hq with rfl | rfl | rfl | rfl | rfl | rfl | rfl | rfl | rfl | rfl | rfl | rfl | rfl | rfl | rfl | rfl
  · exact xOkX_0 rfl rfl
  · exact xOkX_0 rfl rfl
  · exact xOkX_0 rfl rfl
  · exact xOkX_0 rfl rfl
  · exact xOkX_0 rfl rfl
  · exact xOkX_0 rfl rfl
  · exact xOkX_0 rfl rfl
  · exact xOkX_0 rfl rfl
  · exact xOkX_0 rfl rfl
  · exact xOkX_0 rfl rfl
  · exact xOkX_0 rfl rfl
  · exact xOkX_0 rfl rfl
  · exact xOkX_0 rfl rfl
  · exact xOkX_0 rfl rfl
  · exact xOkX_0 rfl rfl
  · exact xOkX_0 rfl rfl
theorem xX_9 (vz : Value) : ∀ q ∈ ([(144, xm_144), (145, xm_145), (146, xm_146), (147, xm_147), (148, xm_148), (149, xm_149), (150, xm_150), (151, xm_151), (152, xm_152), (153, xm_153), (154, xm_154), (155, xm_155), (156, xm_156), (157, xm_157), (158, xm_158), (159, xm_159)] : List (Nat × am_M)), xOkX q.2 := by
  intro q hq
  simp only [List.mem_cons, List.not_mem_nil, or_false] at hq
  rcases hq with rfl | rfl | rfl | rfl | rfl | rfl | rfl | rfl | rfl | rfl | rfl | rfl | rfl | rfl | rfl | rfl
  · exact xOkX_0 rfl rfl
  · exact xOkX_0 rfl rfl
  · exact xOkX_0 rfl rfl
  · exact xOkX_0 rfl rfl
  · exact xOkX_0 rfl rfl
  · exact xOkX_0 rfl rfl
  · exact xOkX_0 rfl rfl
  · exact xOkX_0 rfl rfl
  · exact xOkX_0 rfl rfl
  · exact xOkX_0 rfl rfl
  · exact xOkX_0 rfl rfl
  · exact xOkX_0 rfl rfl
  · exact xOkX_0 rfl rfl
  · exact xOkX_0 rfl rfl
  · exact xOkX_0 rfl rfl
  · exact xOkX_0 rfl rfl
theorem xX_10 (vz : Value) : ∀ q ∈ ([(160, xm_160), (161, xm_161), (162, xm_162), (163, xm_163), (164, xm_164), (165, xm_165), (166, xm_166), (167, xm_167), (168, xm_168), (169, xm_169), (170, xm_170), (171, xm_171), (172, xm_172), (173, xm_173), (174, xm_174), (175, xm_175)] : List (Nat × am_M)), xOkX q.2 := by
  intro q hq
  simp only [List.mem_cons, List.not_mem_nil, or_false] at hq
  rcases hq with rfl | rfl | rfl | rfl | rfl | rfl | rfl | rfl | rfl | rfl | rfl | rfl | rfl | rfl | rfl | rfl
  · exact xOkX_0 rfl rfl
  · exact xOkX_0 rfl rfl
  · exact xOkX_0 rfl rfl
  · exact xOkX_0 rfl rfl
  · exact xOkX_0 rfl rfl
  · exact xOkX_0 rfl rfl
  · exact xOkX_0 rfl rfl
  · exact xOkX_0 rfl rfl
  · exact xOkX_0 rfl rfl
  · exact xOkX_0 rfl rfl
  · exact xOkX_0 rfl rfl
  · exact xOkX_0 rfl rfl
  · exact xOkX_0 rfl rfl
  · exact xOkX_0 rfl rfl
  · exact xOkX_0 rfl rfl
  · exact xOkX_0 rfl rfl
theorem xX_11 (vz : Value) : ∀ q ∈ ([(176, xm_176), (177, xm_177), (178, xm_178), (179, xm_179), (180, xm_180), (181, xm_181), (182, xm_182), (183, xm_183), (184, xm_184), (185, xm_185), (186, xm_186), (187, xm_187), (188, xm_188), (189, xm_189), (190, xm_190), (191, xm_191)] : List (Nat × am_M)), xOkX q.2 := by
  intro q hq
  simp only [List.mem_cons, List.not_mem_nil, or_false] at hq
  rcases hq with rfl | rfl | rfl | rfl | rfl | rfl | rfl | rfl | rfl | rfl | rfl | rfl | rfl | rfl | rfl | rfl
  · exact xOkX_0 rfl rfl
  · exact xOkX_0 rfl rfl
  · exact xOkX_0 rfl rfl
  · exact xOkX_0 rfl rfl
  · exact xOkX_0 rfl rfl
  · exact xOkX_0 rfl rfl
  · exact xOkX_0 rfl rfl
  · exact xOkX_0 rfl rfl
  · exact xOkX_0 rfl rfl
  · exact xOkX_0 rfl rfl
  · exact xOkX_0 rfl rfl
  · exact xOkX_0 rfl rfl
  · exact xOkX_0 rfl rfl
  · exact xOkX_0 rfl rfl
  · exact xOkX_0 rfl rfl
  · exact xOkX_0 rfl rfl
theorem xX_12 (vz : Value) : ∀ q ∈ ([(192, xm_192), (193, xm_193), (194, xm_194), (195, xm_195), (196, xm_196), (197, xm_197), (198, xm_198), (199, xm_199), (200, xm_200), (201, xm_201), (202, xm_202), (203, xm_203), (204, xm_204), (205, xm_205), (206, xm_206), (207, xm_207)] : List (Nat × am_M)), xOkX q.2 := by
  intro q hq
  simp only [List.mem_cons, List.not_mem_nil, or_false] at hq
  rcases hq with rfl | rfl | rfl | rfl | rfl | rfl | rfl | rfl | rfl | rfl | rfl | rfl | rfl | rfl | rfl | rfl
  · exact xOkX_0 rfl rfl
  · exact xOkX_0 rfl rfl
  · exact xOkX_0 rfl rfl
  · exact xOkX_0 rfl rfl
  · exact xOkX_0 rfl rfl
  · exact xOkX_0 rfl rfl
  · exact xOkX_0 rfl rfl
  · exact xOkX_0 rfl rfl
  · exact xOkX_0 rfl rfl
  · exact xOkX_0 rfl rfl
  · exact xOkX_0 rfl rfl
  · exact xOkX_0 rfl rfl
  · exact xOkX_0 rfl rfl
  · exact xOkX_0 rfl rfl
  · exact xOkX_0 rfl rfl
  · exact xOkX_0 rfl rfl
theorem xX_13 (vz : Value) : ∀ q ∈ ([(208, xm_208), (209, xm_209), (210, xm_210), (211, xm_211), (212, xm_212), (213, xm_213), (214, xm_214), (215, xm_215), (216, xm_216), (217, xm_217), (218, xm_218), (219, xm_219), (220, xm_220), (221, xm_221), (222, xm_222), (223, xm_223)] : List (Nat × am_M)), xOkX q.2 := by
  intro q hq
  simp only [List.mem_cons, List.not_mem_nil, or_false] at hq
  rcases hq with rfl | rfl | rfl | rfl | rfl | rfl | rfl | rfl | rfl | rfl | rfl | rfl | rfl | rfl | rfl | rfl
  · exact xOkX_0 rfl rfl
  · exact xOkX_0 rfl rfl
  · exact xOkX_0 rfl rfl
  · exact xOkX_0 rfl rfl
  · exact xOkX_0 rfl rfl
  · exact xOkX_0 rfl rfl
  · exact xOkX_0 rfl rfl
  · exact xOkX_0 rfl rfl
  · exact xOkX_0 rfl rfl
  · exact xOkX_0 rfl rfl
  · exact xOkX_0 rfl rfl
  · exact xOkX_0 rfl rfl
  · exact xOkX_0 rfl rfl
  · exact xOkX_0 rfl rfl
  · exact xOkX_0 rfl rfl
  · exact xOkX_0 rfl rfl
theorem xX_14 (vz : Value) : ∀ q ∈ ([(224, xm_224), (225, xm_225), (226, xm_226), (227, xm_227), (228, xm_228), (229, xm_229), (230, xm_230), (231, xm_231), (232, xm_232), (233, xm_233), (234, xm_234), (235, xm_235), (236, xm_236), (237, xm_237), (238, xm_238), (239, xm_239)] : List (Nat × am_M)), xOkX q.2 := by
  intro q hq
  simp only [List.mem_cons, List.not_mem_nil, or_false] at hq
  rcases hq with rfl | rfl | rfl | rfl | rfl | rfl | rfl | rfl | rfl | rfl | rfl | rfl | rfl | rfl | rfl | rfl
  · exact xOkX_0 rfl rfl
  · exact xOkX_0 rfl rfl
  · exact xOkX_0 rfl rfl
  · exact xOkX_0 rfl rfl
  · exact xOkX_0 rfl rfl
  · exact xOkX_0 rfl rfl
  · exact xOkX_0 rfl rfl
  · exact xOkX_0 rfl rfl
  · exact xOkX_0 rfl rfl
  · exact xOkX_0 rfl rfl
  · exact xOkX_0 rfl rfl
  · exact xOkX_0 rfl rfl
  · exact xOkX_0 rfl rfl
  · exact xOkX_0 rfl rfl
  · exact xOkX_0 rfl rfl
  · exact xOkX_0 rfl rfl
theorem xX_15 (vz : Value) : ∀ q ∈ ([(240, xm_240), (241, xm_241), (242, xm_242), (243, xm_243 vz), (244, xm_244 vz), (245, xm_245 vz), (246, xm_246 vz), (247, xm_247), (248, xm_248 vz), (249, xm_249), (250, xm_250), (251, xm_251), (252, xm_252), (253, xm_253), (254, xm_254 vz), (255, xm_255 vz)] : List (Nat × am_M)), xOkX q.2 := by
  intro q hq
  simp only [List.mem_cons, List.not_mem_nil, or_false] at hq
  rcases hq with rfl | rfl | rfl | rfl | rfl | rfl | rfl | rfl | rfl | rfl | rfl | rfl | rfl | rfl | rfl | rfl
  · exact xOkX_0 rfl rfl
  · exact xOkX_0 rfl rfl
  · exact xOkX_0 rfl rfl
  · exact xOkX_0 rfl rfl
  · exact xOkX_0 rfl rfl
  · exact xOkX_0 rfl rfl
  · exact xOkX_0 rfl rfl
  · exact xOkX_0 rfl rfl
  · exact xOkX_0 rfl rfl
  · exact xOkX_0 rfl rfl
  · exact xOkX_0 rfl rfl
  · exact xOkX_0 rfl rfl
  · exact xOkX_0 rfl rfl
  · exact xOkX_0 rfl rfl
  · exact xOkX_0 rfl rfl
  · exact xOkX_0 rfl rfl
theorem xX_16 (vz : Value) : ∀ q ∈ ([(256, xm_256), (257, xm_257), (258, xm_258), (259, xm_259), (260, xm_260), (261, xm_261), (262, xm_262 vz), (263, xm_263), (264, xm_264), (265, xm_265), (266, xm_266), (267, xm_267), (268, xm_268), (269, xm_269), (270, xm_270), (271, xm_271)] : List (Nat × am_M)), xOkX q.2 := by
  intro q hq
  simp only [List.mem_cons, List.not_mem_nil, or_false] at hq
  rcases hq with rfl | rfl | rfl | rfl | rfl | rfl | rfl | rfl | rfl | rfl | rfl | rfl | rfl | rfl | rfl | rfl
  · exact xOkX_0 rfl rfl
  · exact xOkX_0 rfl rfl
  · exact xOkX_0 rfl rfl
  · exact xOkX_0 rfl rfl
  · exact xOkX_0 rfl rfl
  · exact xOkX_0 rfl rfl
  · exact xOkX_0 rfl rfl
  · exact xOkX_0 rfl rfl
  · exact xOkX_0 rfl rfl
  · exact xOkX_0 rfl rfl
  · exact xOkX_0 rfl rfl
  · exact xOkX_0 rfl rfl
  · exact xOkX_0 rfl rfl
  · exact xOkX_0 rfl rfl
  · exact xOkX_0 rfl rfl
  · exact xOkX_0 rfl rfl
theorem xX (vz : Value) : ∀ mi M, xMT vz mi = some M → xOkX M := by
  intro mi M h
  have hm := am_lk2_mem h
  obtain ⟨l, hl, hq⟩ := List.mem_flatten.mp hm
  simp only [xms, List.mem_cons, List.not_mem_nil, or_false] at hl
  rcases hl with rfl | rfl | rfl | rfl | rfl | rfl | rfl | rfl | rfl | rfl | rfl | rfl | rfl | rfl | rfl | rfl | rfl
  · exact xX_0 vz _ hq
  · exact xX_1 vz _ hq
  · exact xX_2 vz _ hq
  · exact xX_3 vz _ hq
  · exact xX_4 vz _ hq
  · exact xX_5 vz _ hq
  · exact xX_6 vz _ hq
  · exact xX_7 vz _ hq
  · exact xX_8 vz _ hq
  · exact xX_9 vz _ hq
  · exact xX_10 vz _ hq
  · exact xX_11 vz _ hq
  · exact xX_12 vz _ hq
  · exact xX_13 vz _ hq
  · exact xX_14 vz _ hq
  · exact xX_15 vz _ hq
  · exact xX_16 vz _ hq
theorem xThrow {l : Launch} {base : Nat} {g : Nat → Nat} {D : va_G} {dA : FieldType → ClassId} {kA : am_KA} {vz vu vs : Value} (hl : ∀ e : Env, l.admits e → e.platform.stackTraces = false) (hu : vu.isRef = true) (hs : vs.isRef = true) : am_ThrowOk l xTs yTw D xcl dA xtyl base g xkr (ykz vz vu vs) kA xfn xkF xko (xMT vz) :=
  am_throw_ok hl xTs_good yTw_nk (ykzT hu hs) (fun mi M pc ci hM h => (xX vz mi M hM).1 pc ci h)
theorem xCatch {l : Launch} {base : Nat} {g : Nat → Nat} {D : va_G} {dA : FieldType → ClassId} {kA : am_KA} {vz vu vs : Value} : am_CatchOk l xTs yTw D xcl dA xtyl base g xkr (ykz vz vu vs) kA xfn xkF xko (xMT vz) :=
  am_catch_ok xTs_good yTw_nk (fun mi M hM => yCt (xAll vz mi M hM).2.1.1) (fun mi M hM => yMOk (xAll vz mi M hM).1) (fun mi M hM => (xX vz mi M hM).2)
/-- every run of the abstract machine is a run of the machine -/
theorem xSound {l : Launch} {base : Nat} {g : Nat → Nat} {D : va_G} {dA : FieldType → ClassId} {kA : am_KA} {vz vu vs : Value} (hl : ∀ e : Env, l.admits e → e.platform.stackTraces = false) (hu : vu.isRef = true) (hs : vs.isRef = true) :
    ∀ (n d mi : Nat) (f : am_F) (ah : am_H) (r : am_A) (ah' : am_H), am_exec (xMT vz) xcl xfty xtyl kA xkF xko n d mi f ah = some (r, ah') → ∀ M, xMT vz mi = some M → am_Ok l xTs yTw D xcl dA xtyl base g xkr (ykz vz vu vs) kA xfn xkF xko M d f ah r ah' :=
  am_sound (xThrow hl hu hs) xCatch xGlo xTs_good yTw_nk (fun mi M hM => ⟨yMOk (xAll vz mi M hM).1, yCt (xAll vz mi M hM).2.1.1, (xAll vz mi M hM).2.2⟩) (fun mi mi' ix k na rc host M M' hM hC hk hM' => (xAll vz mi M hM).2.1.2 _ _ _ _ _ _ _ hC hk hM')
