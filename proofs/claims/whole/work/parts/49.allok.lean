/-! TABLES: all is right. -/
theorem xAll_0 (vz : Value) : ∀ q ∈ ([(0, xm_0), (1, xm_1), (2, xm_2), (3, xm_3), (4, xm_4), (5, xm_5), (6, xm_6), (7, xm_7), (8, xm_8), (9, xm_9), (10, xm_10), (11, xm_11), (12, xm_12), (13, xm_13), (14, xm_14), (15, xm_15)] : List (Nat × am_M)), am_MOk xcl xTs xTw xfty xkr (xkz vz) xfn q.2 ∧ (am_CtOk (xMT vz) xcl xTs xTw q.2 ∧ ∀ mi' ix k na rc host M', am_mC q.2 ix = some (k, mi', na, some host, rc) → ¬ 4 ≤ k → xMT vz mi' = some M' → am_mT M' = []) ∧ (am_mT q.2 = [] ∨ ∀ pc, am_mX q.2 pc = none) := by
  intro q hq
  simp only [List.mem_cons, List.not_mem_nil, or_false] at hq
  rcases hq with rfl | rfl | rfl | rfl | rfl | rfl | rfl | rfl | rfl | rfl | rfl | rfl | rfl | rfl | rfl | rfl
  · exact ⟨hM_0 vz, ck_C_ok (by decide) gC_0 rfl, Or.inl rfl⟩
  · exact ⟨hM_1 vz, ck_C_ok (by decide) gC_0 rfl, Or.inl rfl⟩
  · exact ⟨hM_2 vz, ck_C_ok (by decide) gC_0 rfl, Or.inr (fun _ => rfl)⟩
  · exact ⟨hM_3 vz, ck_C_ok (by decide) gC_0 rfl, Or.inr (fun _ => rfl)⟩
  · exact ⟨hM_4 vz, ck_C_ok (by decide) gC_0 rfl, Or.inr (fun _ => rfl)⟩
  · exact ⟨hM_5 vz, ck_C_ok (by decide) gC_0 rfl, Or.inr (fun _ => rfl)⟩
  · exact ⟨hM_6 vz, ck_C_ok (by decide) gC_0 rfl, Or.inr (fun _ => rfl)⟩
  · exact ⟨hM_7 vz, ck_C_ok (by decide) gC_0 rfl, Or.inr (fun _ => rfl)⟩
  · exact ⟨hM_8 vz, ck_C_ok (by decide) gC_0 rfl, Or.inr (fun _ => rfl)⟩
  · exact ⟨hM_9 vz, ck_C_ok (by decide) gC_0 rfl, Or.inr (fun _ => rfl)⟩
  · exact ⟨hM_10 vz, ck_C_ok (by decide) gC_0 rfl, Or.inr (fun _ => rfl)⟩
  · exact ⟨hM_11 vz, ck_C_ok (by decide) gC_0 rfl, Or.inr (fun _ => rfl)⟩
  · exact ⟨hM_12 vz, ck_C_ok (by decide) gC_0 rfl, Or.inr (fun _ => rfl)⟩
  · exact ⟨hM_13 vz, ck_C_ok (by decide) gC_0 rfl, Or.inr (fun _ => rfl)⟩
  · exact ⟨hM_14 vz, ck_C_ok (by decide) gC_1 rfl, Or.inl rfl⟩
  · exact ⟨hM_15 vz, ck_C_ok (by decide) gC_1 rfl, Or.inl rfl⟩
theorem xAll_1 (vz : Value) : ∀ q ∈ ([(16, xm_16), (17, xm_17), (18, xm_18), (19, xm_19), (20, xm_20), (21, xm_21), (22, xm_22), (23, xm_23), (24, xm_24), (25, xm_25), (26, xm_26), (27, xm_27), (28, xm_28), (29, xm_29), (30, xm_30), (31, xm_31)] : List (Nat × am_M)), am_MOk xcl xTs xTw xfty xkr (xkz vz) xfn q.2 ∧ (am_CtOk (xMT vz) xcl xTs xTw q.2 ∧ ∀ mi' ix k na rc host M', am_mC q.2 ix = some (k, mi', na, some host, rc) → ¬ 4 ≤ k → xMT vz mi' = some M' → am_mT M' = []) ∧ (am_mT q.2 = [] ∨ ∀ pc, am_mX q.2 pc = none) := by
  intro q hq
  simp only [List.mem_cons, List.not_mem_nil, or_false] at hq
  rcases hq with rfl | rfl | rfl | rfl | rfl | rfl | rfl | rfl | rfl | rfl | rfl | rfl | rfl | rfl | rfl | rfl
  · exact ⟨hM_16 vz, ck_C_ok (by decide) gC_1 rfl, Or.inl rfl⟩
  · exact ⟨hM_17 vz, ck_C_ok (by decide) gC_1 rfl, Or.inl rfl⟩
  · exact ⟨hM_18 vz, ck_C_ok (by decide) gC_1 rfl, Or.inl rfl⟩
  · exact ⟨hM_19 vz, ck_C_ok (by decide) gC_1 rfl, Or.inl rfl⟩
  · exact ⟨hM_20 vz, ck_C_ok (by decide) gC_1 rfl, Or.inl rfl⟩
  · exact ⟨hM_21 vz, ck_C_ok (by decide) gC_1 rfl, Or.inl rfl⟩
  · exact ⟨hM_22 vz, ck_C_ok (by decide) gC_1 rfl, Or.inl rfl⟩
  · exact ⟨hM_23 vz, ck_C_ok (by decide) gC_1 rfl, Or.inl rfl⟩
  · exact ⟨hM_24 vz, ck_C_ok (by decide) gC_1 rfl, Or.inl rfl⟩
  · exact ⟨hM_25 vz, ck_C_ok (by decide) gC_1 rfl, Or.inl rfl⟩
  · exact ⟨hM_26 vz, ck_C_ok (by decide) gC_1 rfl, Or.inl rfl⟩
  · exact ⟨hM_27 vz, ck_C_ok (by decide) gC_1 rfl, Or.inl rfl⟩
  · exact ⟨hM_28 vz, ck_C_ok (by decide) gC_1 rfl, Or.inl rfl⟩
  · exact ⟨hM_29 vz, ck_C_ok (by decide) gC_1 rfl, Or.inl rfl⟩
  · exact ⟨hM_30 vz, ck_C_ok (by decide) gC_1 rfl, Or.inl rfl⟩
  · exact ⟨hM_31 vz, ck_C_ok (by decide) gC_1 rfl, Or.inl rfl⟩
theorem xAll_2 (vz : Value) : ∀ q ∈ ([(32, xm_32), (33, xm_33), (34, xm_34), (35, xm_35), (36, xm_36), (37, xm_37), (38, xm_38), (39, xm_39), (40, xm_40), (41, xm_41), (42, xm_42), (43, xm_43), (44, xm_44), (45, xm_45), (46, xm_46), (47, xm_47)] : List (Nat × am_M)), am_MOk xcl xTs xTw xfty xkr (xkz vz) xfn q.2 ∧ (am_CtOk (xMT vz) xcl xTs xTw q.2 ∧ ∀ mi' ix k na rc host M', am_mC q.2 ix = some (k, mi', na, some host, rc) → ¬ 4 ≤ k → xMT vz mi' = some M' → am_mT M' = []) ∧ (am_mT q.2 = [] ∨ ∀ pc, am_mX q.2 pc = none) := by
  intro q hq
  simp only [List.mem_cons, List.not_mem_nil, or_false] at hq
  rcases hq with rfl | rfl | rfl | rfl | rfl | rfl | rfl | rfl | rfl | rfl | rfl | rfl | rfl | rfl | rfl | rfl
  · exact ⟨hM_32 vz, ck_C_ok (by decide) gC_1 rfl, Or.inl rfl⟩
  · exact ⟨hM_33 vz, ck_C_ok (by decide) gC_1 rfl, Or.inl rfl⟩
  · exact ⟨hM_34 vz, ck_C_ok (by decide) gC_1 rfl, Or.inl rfl⟩
  · exact ⟨hM_35 vz, ck_C_ok (by decide) gC_1 rfl, Or.inl rfl⟩
  · exact ⟨hM_36 vz, ck_C_ok (by decide) gC_1 rfl, Or.inl rfl⟩
  · exact ⟨hM_37 vz, ck_C_ok (by decide) gC_1 rfl, Or.inl rfl⟩
  · exact ⟨hM_38 vz, ck_C_ok (by decide) gC_1 rfl, Or.inl rfl⟩
  · exact ⟨hM_39 vz, ck_C_ok (by decide) gC_1 rfl, Or.inl rfl⟩
  · exact ⟨hM_40 vz, ck_C_ok (by decide) gC_1 rfl, Or.inl rfl⟩
  · exact ⟨hM_41 vz, ck_C_ok (by decide) gC_1 rfl, Or.inl rfl⟩
  · exact ⟨hM_42 vz, ck_C_ok (by decide) gC_1 rfl, Or.inl rfl⟩
  · exact ⟨hM_43 vz, ck_C_ok (by decide) gC_1 rfl, Or.inl rfl⟩
  · exact ⟨hM_44 vz, ck_C_ok (by decide) gC_1 rfl, Or.inl rfl⟩
  · exact ⟨hM_45 vz, ck_C_ok (by decide) gC_1 rfl, Or.inl rfl⟩
  · exact ⟨hM_46 vz, ck_C_ok (by decide) gC_1 rfl, Or.inl rfl⟩
  · exact ⟨hM_47 vz, ck_C_ok (by decide) gC_2 rfl, Or.inl rfl⟩
theorem xAll_3 (vz : Value) : ∀ q ∈ ([(48, xm_48), (49, xm_49), (50, xm_50), (51, xm_51), (52, xm_52), (53, xm_53), (54, xm_54), (55, xm_55), (56, xm_56), (57, xm_57), (58, xm_58), (59, xm_59), (60, xm_60), (61, xm_61), (62, xm_62), (63, xm_63)] : List (Nat × am_M)), am_MOk xcl xTs xTw xfty xkr (xkz vz) xfn q.2 ∧ (am_CtOk (xMT vz) xcl xTs xTw q.2 ∧ ∀ mi' ix k na rc host M', am_mC q.2 ix = some (k, mi', na, some host, rc) → ¬ 4 ≤ k → xMT vz mi' = some M' → am_mT M' = []) ∧ (am_mT q.2 = [] ∨ ∀ pc, am_mX q.2 pc = none) := by
  intro q hq
  simp only [List.mem_cons, List.not_mem_nil, or_false] at hq
  rcases hq with rfl | rfl | rfl | rfl | rfl | rfl | rfl | rfl | rfl | rfl | rfl | rfl | rfl | rfl | rfl | rfl
  · exact ⟨hM_48 vz, ck_C_ok (by decide) gC_2 rfl, Or.inl rfl⟩
  · exact ⟨hM_49 vz, ck_C_ok (by decide) gC_2 rfl, Or.inl rfl⟩
  · exact ⟨hM_50 vz, ck_C_ok (by decide) gC_2 rfl, Or.inl rfl⟩
  · exact ⟨hM_51 vz, ck_C_ok (by decide) gC_2 rfl, Or.inl rfl⟩
  · exact ⟨hM_52 vz, ck_C_ok (by decide) gC_2 rfl, Or.inl rfl⟩
  · exact ⟨hM_53 vz, ck_C_ok (by decide) gC_2 rfl, Or.inl rfl⟩
  · exact ⟨hM_54 vz, ck_C_ok (by decide) gC_2 rfl, Or.inl rfl⟩
  · exact ⟨hM_55 vz, ck_C_ok (by decide) gC_2 rfl, Or.inl rfl⟩
  · exact ⟨hM_56 vz, ck_C_ok (by decide) gC_2 rfl, Or.inl rfl⟩
  · exact ⟨hM_57 vz, ck_C_ok (by decide) gC_2 rfl, Or.inl rfl⟩
  · exact ⟨hM_58 vz, ck_C_ok (by decide) gC_2 rfl, Or.inl rfl⟩
  · exact ⟨hM_59 vz, ck_C_ok (by decide) gC_2 rfl, Or.inl rfl⟩
  · exact ⟨hM_60 vz, ck_C_ok (by decide) gC_3 rfl, Or.inl rfl⟩
  · exact ⟨hM_61 vz, ck_C_ok (by decide) gC_3 rfl, Or.inl rfl⟩
  · exact ⟨hM_62 vz, ck_C_ok (by decide) gC_3 rfl, Or.inl rfl⟩
  · exact ⟨hM_63 vz, ck_C_ok (by decide) gC_3 rfl, Or.inl rfl⟩
theorem xAll_4 (vz : Value) : ∀ q ∈ ([(64, xm_64), (65, xm_65), (66, xm_66), (67, xm_67), (68, xm_68), (69, xm_69), (70, xm_70), (71, xm_71), (72, xm_72), (73, xm_73), (74, xm_74), (75, xm_75), (76, xm_76), (77, xm_77), (78, xm_78), (79, xm_79)] : List (Nat × am_M)), am_MOk xcl xTs xTw xfty xkr (xkz vz) xfn q.2 ∧ (am_CtOk (xMT vz) xcl xTs xTw q.2 ∧ ∀ mi' ix k na rc host M', am_mC q.2 ix = some (k, mi', na, some host, rc) → ¬ 4 ≤ k → xMT vz mi' = some M' → am_mT M' = []) ∧ (am_mT q.2 = [] ∨ ∀ pc, am_mX q.2 pc = none) := by
  intro q hq
  simp only [List.mem_cons, List.not_mem_nil, or_false] at hq
  rcases hq with rfl | rfl | rfl | rfl | rfl | rfl | rfl | rfl | rfl | rfl | rfl | rfl | rfl | rfl | rfl | rfl
  · exact ⟨hM_64 vz, ck_C_ok (by decide) gC_3 rfl, Or.inl rfl⟩
  · exact ⟨hM_65 vz, ck_C_ok (by decide) gC_3 rfl, Or.inl rfl⟩
  · exact ⟨hM_66 vz, ck_C_ok (by decide) gC_3 rfl, Or.inl rfl⟩
  · exact ⟨hM_67 vz, ck_C_ok (by decide) gC_3 rfl, Or.inl rfl⟩
  · exact ⟨hM_68 vz, ck_C_ok (by decide) gC_3 rfl, Or.inl rfl⟩
  · exact ⟨hM_69 vz, ck_C_ok (by decide) gC_3 rfl, Or.inl rfl⟩
  · exact ⟨hM_70 vz, ck_C_ok (by decide) gC_3 rfl, Or.inl rfl⟩
  · exact ⟨hM_71 vz, ck_C_ok (by decide) gC_3 rfl, Or.inl rfl⟩
  · exact ⟨hM_72 vz, ck_C_ok (by decide) gC_4 rfl, Or.inl rfl⟩
  · exact ⟨hM_73 vz, ck_C_ok (by decide) gC_4 rfl, Or.inl rfl⟩
  · exact ⟨hM_74 vz, ck_C_ok (by decide) gC_4 rfl, Or.inl rfl⟩
  · exact ⟨hM_75 vz, ck_C_ok (by decide) gC_4 rfl, Or.inl rfl⟩
  · exact ⟨hM_76 vz, ck_C_ok (by decide) gC_4 rfl, Or.inl rfl⟩
  · exact ⟨hM_77 vz, ck_C_ok (by decide) gC_4 rfl, Or.inl rfl⟩
  · exact ⟨hM_78 vz, ck_C_ok (by decide) gC_4 rfl, Or.inl rfl⟩
  · exact ⟨hM_79 vz, ck_C_ok (by decide) gC_4 rfl, Or.inl rfl⟩
theorem xAll_5 (vz : Value) : ∀ q ∈ ([(80, xm_80), (81, xm_81), (82, xm_82), (83, xm_83), (84, xm_84), (85, xm_85), (86, xm_86), (87, xm_87), (88, xm_88), (89, xm_89), (90, xm_90), (91, xm_91), (92, xm_92), (93, xm_93), (94, xm_94), (95, xm_95)] : List (Nat × am_M)), am_MOk xcl xTs xTw xfty xkr (xkz vz) xfn q.2 ∧ (am_CtOk (xMT vz) xcl xTs xTw q.2 ∧ ∀ mi' ix k na rc host M', am_mC q.2 ix = some (k, mi', na, some host, rc) → ¬ 4 ≤ k → xMT vz mi' = some M' → am_mT M' = []) ∧ (am_mT q.2 = [] ∨ ∀ pc, am_mX q.2 pc = none) := by
  intro q hq
  simp only [List.mem_cons, List.not_mem_nil, or_false] at hq
  rcases hq with rfl | rfl | rfl | rfl | rfl | rfl | rfl | rfl | rfl | rfl | rfl | rfl | rfl | rfl | rfl | rfl
  · exact ⟨hM_80 vz, ck_C_ok (by decide) gC_4 rfl, Or.inl rfl⟩
  · exact ⟨hM_81 vz, ck_C_ok (by decide) gC_4 rfl, Or.inl rfl⟩
  · exact ⟨hM_82 vz, ck_C_ok (by decide) gC_4 rfl, Or.inl rfl⟩
  · exact ⟨hM_83 vz, ck_C_ok (by decide) gC_4 rfl, Or.inl rfl⟩
  · exact ⟨hM_84 vz, ck_C_ok (by decide) gC_4 rfl, Or.inl rfl⟩
  · exact ⟨hM_85 vz, ck_C_ok (by decide) gC_4 rfl, Or.inl rfl⟩
  · exact ⟨hM_86 vz, ck_C_ok (by decide) gC_4 rfl, Or.inl rfl⟩
  · exact ⟨hM_87 vz, ck_C_ok (by decide) gC_4 rfl, Or.inl rfl⟩
  · exact ⟨hM_88 vz, ck_C_ok (by decide) gC_4 rfl, Or.inl rfl⟩
  · exact ⟨hM_89 vz, ck_C_ok (by decide) gC_4 rfl, Or.inl rfl⟩
  · exact ⟨hM_90 vz, ck_C_ok (by decide) gC_4 rfl, Or.inl rfl⟩
  · exact ⟨hM_91 vz, ck_C_ok (by decide) gC_4 rfl, Or.inl rfl⟩
  · exact ⟨hM_92 vz, ck_C_ok (by decide) gC_4 rfl, Or.inl rfl⟩
  · exact ⟨hM_93 vz, ck_C_ok (by decide) gC_4 rfl, Or.inl rfl⟩
  · exact ⟨hM_94 vz, ck_C_ok (by decide) gC_4 rfl, Or.inl rfl⟩
  · exact ⟨hM_95 vz, ck_C_ok (by decide) gC_4 rfl, Or.inl rfl⟩
theorem xAll_6 (vz : Value) : ∀ q ∈ ([(96, xm_96), (97, xm_97), (98, xm_98), (99, xm_99), (100, xm_100), (101, xm_101), (102, xm_102), (103, xm_103), (104, xm_104), (105, xm_105), (106, xm_106), (107, xm_107), (108, xm_108), (109, xm_109), (110, xm_110), (111, xm_111)] : List (Nat × am_M)), am_MOk xcl xTs xTw xfty xkr (xkz vz) xfn q.2 ∧ (am_CtOk (xMT vz) xcl xTs xTw q.2 ∧ ∀ mi' ix k na rc host M', am_mC q.2 ix = some (k, mi', na, some host, rc) → ¬ 4 ≤ k → xMT vz mi' = some M' → am_mT M' = []) ∧ (am_mT q.2 = [] ∨ ∀ pc, am_mX q.2 pc = none) := by
  intro q hq
  simp only [List.mem_cons, List.not_mem_nil, or_false] at hq
  rcases hq with rfl | rfl | rfl | rfl | rfl | rfl | rfl | rfl | rfl | rfl | rfl | rfl | rfl | rfl | rfl | rfl
  · exact ⟨hM_96 vz, ck_C_ok (by decide) gC_4 rfl, Or.inl rfl⟩
  · exact ⟨hM_97 vz, ck_C_ok (by decide) gC_4 rfl, Or.inl rfl⟩
  · exact ⟨hM_98 vz, ck_C_ok (by decide) gC_4 rfl, Or.inl rfl⟩
  · exact ⟨hM_99 vz, ck_C_ok (by decide) gC_4 rfl, Or.inl rfl⟩
  · exact ⟨hM_100 vz, ck_C_ok (by decide) gC_4 rfl, Or.inl rfl⟩
  · exact ⟨hM_101 vz, ck_C_ok (by decide) gC_5 rfl, Or.inl rfl⟩
  · exact ⟨hM_102 vz, ck_C_ok (by decide) gC_5 rfl, Or.inl rfl⟩
  · exact ⟨hM_103 vz, ck_C_ok (by decide) gC_5 rfl, Or.inl rfl⟩
  · exact ⟨hM_104 vz, ck_C_ok (by decide) gC_5 rfl, Or.inl rfl⟩
  · exact ⟨hM_105 vz, ck_C_ok (by decide) gC_5 rfl, Or.inl rfl⟩
  · exact ⟨hM_106 vz, ck_C_ok (by decide) gC_5 rfl, Or.inl rfl⟩
  · exact ⟨hM_107 vz, ck_C_ok (by decide) gC_5 rfl, Or.inl rfl⟩
  · exact ⟨hM_108 vz, ck_C_ok (by decide) gC_5 rfl, Or.inl rfl⟩
  · exact ⟨hM_109 vz, ck_C_ok (by decide) gC_5 rfl, Or.inl rfl⟩
  · exact ⟨hM_110 vz, ck_C_ok (by decide) gC_5 rfl, Or.inl rfl⟩
  · exact ⟨hM_111 vz, ck_C_ok (by decide) gC_5 rfl, Or.inl rfl⟩
theorem xAll_7 (vz : Value) : ∀ q ∈ ([(112, xm_112), (113, xm_113), (114, xm_114), (115, xm_115), (116, xm_116), (117, xm_117), (118, xm_118), (119, xm_119), (120, xm_120), (121, xm_121), (122, xm_122), (123, xm_123), (124, xm_124), (125, xm_125), (126, xm_126), (127, xm_127)] : List (Nat × am_M)), am_MOk xcl xTs xTw xfty xkr (xkz vz) xfn q.2 ∧ (am_CtOk (xMT vz) xcl xTs xTw q.2 ∧ ∀ mi' ix k na rc host M', am_mC q.2 ix = some (k, mi', na, some host, rc) → ¬ 4 ≤ k → xMT vz mi' = some M' → am_mT M' = []) ∧ (am_mT q.2 = [] ∨ ∀ pc, am_mX q.2 pc = none) := by
  intro q hq
  simp only [List.mem_cons, List.not_mem_nil, or_false] at hq
  rcases hq with rfl | rfl | rfl | rfl | rfl | rfl | rfl | rfl | rfl | rfl | rfl | rfl | rfl | rfl | rfl | rfl
  · exact ⟨hM_112 vz, ck_C_ok (by decide) gC_5 rfl, Or.inl rfl⟩
  · exact ⟨hM_113 vz, ck_C_ok (by decide) gC_5 rfl, Or.inl rfl⟩
  · exact ⟨hM_114 vz, ck_C_ok (by decide) gC_5 rfl, Or.inl rfl⟩
  · exact ⟨hM_115 vz, ck_C_ok (by decide) gC_5 rfl, Or.inl rfl⟩
  · exact ⟨hM_116 vz, ck_C_ok (by decide) gC_5 rfl, Or.inl rfl⟩
  · exact ⟨hM_117 vz, ck_C_ok (by decide) gC_5 rfl, Or.inl rfl⟩
  · exact ⟨hM_118 vz, ck_C_ok (by decide) gC_5 rfl, Or.inl rfl⟩
  · exact ⟨hM_119 vz, ck_C_ok (by decide) gC_5 rfl, Or.inl rfl⟩
  · exact ⟨hM_120 vz, ck_C_ok (by decide) gC_5 rfl, Or.inl rfl⟩
  · exact ⟨hM_121 vz, ck_C_ok (by decide) gC_5 rfl, Or.inl rfl⟩
  · exact ⟨hM_122 vz, ck_C_ok (by decide) gC_5 rfl, Or.inl rfl⟩
  · exact ⟨hM_123 vz, ck_C_ok (by decide) gC_5 rfl, Or.inl rfl⟩
  · exact ⟨hM_124 vz, ck_C_ok (by decide) gC_5 rfl, Or.inl rfl⟩
  · exact ⟨hM_125 vz, ck_C_ok (by decide) gC_5 rfl, Or.inl rfl⟩
  · exact ⟨hM_126 vz, ck_C_ok (by decide) gC_5 rfl, Or.inl rfl⟩
  · exact ⟨hM_127 vz, ck_C_ok (by decide) gC_5 rfl, Or.inl rfl⟩
theorem xAll_8 (vz : Value) : ∀ q ∈ ([(128, xm_128), (129, xm_129), (130, xm_130), (131, xm_131), (132, xm_132), (133, xm_133), (134, xm_134), (135, xm_135), (136, xm_136), (137, xm_137), (138, xm_138), (139, xm_139), (140, xm_140), (141, xm_141), (142, xm_142), (143, xm_143)] : List (Nat × am_M)), am_MOk xcl xTs xTw xfty xkr (xkz vz) xfn q.2 ∧ (am_CtOk (xMT vz) xcl xTs xTw q.2 ∧ ∀ mi' ix k na rc host M', am_mC q.2 ix = some (k, mi', na, some host, rc) → ¬ 4 ≤ k → xMT vz mi' = some M' → am_mT M' = []) ∧ (am_mT q.2 = [] ∨ ∀ pc, am_mX q.2 pc = none) := by
  intro q hq
  simp only [List.mem_cons, List.not_mem_nil, or_false] at hq
  rcases hq with rfl | rfl | rfl | rfl | rfl | rfl | rfl | rfl | rfl | rfl | rfl | rfl | rfl | rfl | rfl | rfl
  · exact ⟨hM_128 vz, ck_C_ok (by decide) gC_5 rfl, Or.inl rfl⟩
  · exact ⟨hM_129 vz, ck_C_ok (by decide) gC_6 rfl, Or.inl rfl⟩
  · exact ⟨hM_130 vz, ck_C_ok (by decide) gC_6 rfl, Or.inl rfl⟩
  · exact ⟨hM_131 vz, ck_C_ok (by decide) gC_6 rfl, Or.inl rfl⟩
  · exact ⟨hM_132 vz, ck_C_ok (by decide) gC_6 rfl, Or.inl rfl⟩
  · exact ⟨hM_133 vz, ck_C_ok (by decide) gC_6 rfl, Or.inl rfl⟩
  · exact ⟨hM_134 vz, ck_C_ok (by decide) gC_6 rfl, Or.inl rfl⟩
  · exact ⟨hM_135 vz, ck_C_ok (by decide) gC_6 rfl, Or.inl rfl⟩
  · exact ⟨hM_136 vz, ck_C_ok (by decide) gC_6 rfl, Or.inl rfl⟩
  · exact ⟨hM_137 vz, ck_C_ok (by decide) gC_7 rfl, Or.inl rfl⟩
  · exact ⟨hM_138 vz, ck_C_ok (by decide) gC_7 rfl, Or.inl rfl⟩
  · exact ⟨hM_139 vz, ck_C_ok (by decide) gC_7 rfl, Or.inl rfl⟩
  · exact ⟨hM_140 vz, ck_C_ok (by decide) gC_7 rfl, Or.inl rfl⟩
  · exact ⟨hM_141 vz, ck_C_ok (by decide) gC_8 rfl, Or.inl rfl⟩
  · exact ⟨hM_142 vz, ck_C_ok (by decide) gC_8 rfl, Or.inl rfl⟩
  · exact ⟨hM_143 vz, ck_C_ok (by decide) gC_8 rfl, Or.inl rfl⟩
theorem xAll_9 (vz : Value) : ∀ q ∈ ([(144, xm_144), (145, xm_145), (146, xm_146), (147, xm_147), (148, xm_148), (149, xm_149), (150, xm_150), (151, xm_151), (152, xm_152), (153, xm_153), (154, xm_154), (155, xm_155), (156, xm_156), (157, xm_157), (158, xm_158), (159, xm_159)] : List (Nat × am_M)), am_MOk xcl xTs xTw xfty xkr (xkz vz) xfn q.2 ∧ (am_CtOk (xMT vz) xcl xTs xTw q.2 ∧ ∀ mi' ix k na rc host M', am_mC q.2 ix = some (k, mi', na, some host, rc) → ¬ 4 ≤ k → xMT vz mi' = some M' → am_mT M' = []) ∧ (am_mT q.2 = [] ∨ ∀ pc, am_mX q.2 pc = none) := by
  intro q hq
  simp only [List.mem_cons, List.not_mem_nil, or_false] at hq
  rcases hq with rfl | rfl | rfl | rfl | rfl | rfl | rfl | rfl | rfl | rfl | rfl | rfl | rfl | rfl | rfl | rfl
  · exact ⟨hM_144 vz, ck_C_ok (by decide) gC_8 rfl, Or.inl rfl⟩
  · exact ⟨hM_145 vz, ck_C_ok (by decide) gC_8 rfl, Or.inl rfl⟩
  · exact ⟨hM_146 vz, ck_C_ok (by decide) gC_8 rfl, Or.inl rfl⟩
  · exact ⟨hM_147 vz, ck_C_ok (by decide) gC_8 rfl, Or.inl rfl⟩
  · exact ⟨hM_148 vz, ck_C_ok (by decide) gC_8 rfl, Or.inl rfl⟩
  · exact ⟨hM_149 vz, ck_C_ok (by decide) gC_8 rfl, Or.inl rfl⟩
  · exact ⟨hM_150 vz, ck_C_ok (by decide) gC_8 rfl, Or.inl rfl⟩
  · exact ⟨hM_151 vz, ck_C_ok (by decide) gC_8 rfl, Or.inl rfl⟩
  · exact ⟨hM_152 vz, ck_C_ok (by decide) gC_8 rfl, Or.inl rfl⟩
  · exact ⟨hM_153 vz, ck_C_ok (by decide) gC_8 rfl, Or.inl rfl⟩
  · exact ⟨hM_154 vz, ck_C_ok (by decide) gC_8 rfl, Or.inl rfl⟩
  · exact ⟨hM_155 vz, ck_C_ok (by decide) gC_8 rfl, Or.inl rfl⟩
  · exact ⟨hM_156 vz, ck_C_ok (by decide) gC_8 rfl, Or.inl rfl⟩
  · exact ⟨hM_157 vz, ck_C_ok (by decide) gC_8 rfl, Or.inl rfl⟩
  · exact ⟨hM_158 vz, ck_C_ok (by decide) gC_8 rfl, Or.inl rfl⟩
  · exact ⟨hM_159 vz, ck_C_ok (by decide) gC_8 rfl, Or.inl rfl⟩
theorem xAll_10 (vz : Value) : ∀ q ∈ ([(160, xm_160), (161, xm_161), (162, xm_162), (163, xm_163), (164, xm_164), (165, xm_165), (166, xm_166), (167, xm_167), (168, xm_168), (169, xm_169), (170, xm_170), (171, xm_171), (172, xm_172), (173, xm_173), (174, xm_174), (175, xm_175)] : List (Nat × am_M)), am_MOk xcl xTs xTw xfty xkr (xkz vz) xfn q.2 ∧ (am_CtOk (xMT vz) xcl xTs xTw q.2 ∧ ∀ mi' ix k na rc host M', am_mC q.2 ix = some (k, mi', na, some host, rc) → ¬ 4 ≤ k → xMT vz mi' = some M' → am_mT M' = []) ∧ (am_mT q.2 = [] ∨ ∀ pc, am_mX q.2 pc = none) := by
  intro q hq
  simp only [List.mem_cons, List.not_mem_nil, or_false] at hq
  rcases hq with rfl | rfl | rfl | rfl | rfl | rfl | rfl | rfl | rfl | rfl | rfl | rfl | rfl | rfl | rfl | rfl
  · exact ⟨hM_160 vz, ck_C_ok (by decide) gC_8 rfl, Or.inl rfl⟩
  · exact ⟨hM_161 vz, ck_C_ok (by decide) gC_8 rfl, Or.inl rfl⟩
  · exact ⟨hM_162 vz, ck_C_ok (by decide) gC_8 rfl, Or.inl rfl⟩
  · exact ⟨hM_163 vz, ck_C_ok (by decide) gC_8 rfl, Or.inl rfl⟩
  · exact ⟨hM_164 vz, ck_C_ok (by decide) gC_8 rfl, Or.inl rfl⟩
  · exact ⟨hM_165 vz, ck_C_ok (by decide) gC_8 rfl, Or.inl rfl⟩
  · exact ⟨hM_166 vz, ck_C_ok (by decide) gC_8 rfl, Or.inl rfl⟩
  · exact ⟨hM_167 vz, ck_C_ok (by decide) gC_8 rfl, Or.inl rfl⟩
  · exact ⟨hM_168 vz, ck_C_ok (by decide) gC_8 rfl, Or.inl rfl⟩
  · exact ⟨hM_169 vz, ck_C_ok (by decide) gC_8 rfl, Or.inl rfl⟩
  · exact ⟨hM_170 vz, ck_C_ok (by decide) gC_8 rfl, Or.inl rfl⟩
  · exact ⟨hM_171 vz, ck_C_ok (by decide) gC_8 rfl, Or.inl rfl⟩
  · exact ⟨hM_172 vz, ck_C_ok (by decide) gC_8 rfl, Or.inl rfl⟩
  · exact ⟨hM_173 vz, ck_C_ok (by decide) gC_8 rfl, Or.inl rfl⟩
  · exact ⟨hM_174 vz, ck_C_ok (by decide) gC_8 rfl, Or.inl rfl⟩
  · exact ⟨hM_175 vz, ck_C_ok (by decide) gC_8 rfl, Or.inl rfl⟩
theorem xAll_11 (vz : Value) : ∀ q ∈ ([(176, xm_176), (177, xm_177), (178, xm_178), (179, xm_179), (180, xm_180), (181, xm_181), (182, xm_182), (183, xm_183), (184, xm_184), (185, xm_185), (186, xm_186), (187, xm_187), (188, xm_188), (189, xm_189), (190, xm_190), (191, xm_191)] : List (Nat × am_M)), am_MOk xcl xTs xTw xfty xkr (xkz vz) xfn q.2 ∧ (am_CtOk (xMT vz) xcl xTs xTw q.2 ∧ ∀ mi' ix k na rc host M', am_mC q.2 ix = some (k, mi', na, some host, rc) → ¬ 4 ≤ k → xMT vz mi' = some M' → am_mT M' = []) ∧ (am_mT q.2 = [] ∨ ∀ pc, am_mX q.2 pc = none) := by
  intro q hq
  simp only [List.mem_cons, List.not_mem_nil, or_false] at hq
  rcases hq with rfl | rfl | rfl | rfl | rfl | rfl | rfl | rfl | rfl | rfl | rfl | rfl | rfl | rfl | rfl | rfl
  · exact ⟨hM_176 vz, ck_C_ok (by decide) gC_8 rfl, Or.inl rfl⟩
  · exact ⟨hM_177 vz, ck_C_ok (by decide) gC_8 rfl, Or.inl rfl⟩
  · exact ⟨hM_178 vz, ck_C_ok (by decide) gC_8 rfl, Or.inl rfl⟩
  · exact ⟨hM_179 vz, ck_C_ok (by decide) gC_8 rfl, Or.inl rfl⟩
  · exact ⟨hM_180 vz, ck_C_ok (by decide) gC_8 rfl, Or.inl rfl⟩
  · exact ⟨hM_181 vz, ck_C_ok (by decide) gC_8 rfl, Or.inl rfl⟩
  · exact ⟨hM_182 vz, ck_C_ok (by decide) gC_8 rfl, Or.inl rfl⟩
  · exact ⟨hM_183 vz, ck_C_ok (by decide) gC_8 rfl, Or.inl rfl⟩
  · exact ⟨hM_184 vz, ck_C_ok (by decide) gC_8 rfl, Or.inl rfl⟩
  · exact ⟨hM_185 vz, ck_C_ok (by decide) gC_8 rfl, Or.inl rfl⟩
  · exact ⟨hM_186 vz, ck_C_ok (by decide) gC_8 rfl, Or.inl rfl⟩
  · exact ⟨hM_187 vz, ck_C_ok (by decide) gC_8 rfl, Or.inl rfl⟩
  · exact ⟨hM_188 vz, ck_C_ok (by decide) gC_8 rfl, Or.inl rfl⟩
  · exact ⟨hM_189 vz, ck_C_ok (by decide) gC_8 rfl, Or.inl rfl⟩
  · exact ⟨hM_190 vz, ck_C_ok (by decide) gC_8 rfl, Or.inl rfl⟩
  · exact ⟨hM_191 vz, ck_C_ok (by decide) gC_8 rfl, Or.inl rfl⟩
theorem xAll_12 (vz : Value) : ∀ q ∈ ([(192, xm_192), (193, xm_193), (194, xm_194), (195, xm_195), (196, xm_196), (197, xm_197), (198, xm_198), (199, xm_199), (200, xm_200), (201, xm_201), (202, xm_202), (203, xm_203), (204, xm_204), (205, xm_205), (206, xm_206), (207, xm_207)] : List (Nat × am_M)), am_MOk xcl xTs xTw xfty xkr (xkz vz) xfn q.2 ∧ (am_CtOk (xMT vz) xcl xTs xTw q.2 ∧ ∀ mi' ix k na rc host M', am_mC q.2 ix = some (k, mi', na, some host, rc) → ¬ 4 ≤ k → xMT vz mi' = some M' → am_mT M' = []) ∧ (am_mT q.2 = [] ∨ ∀ pc, am_mX q.2 pc = none) := by
  intro q hq
  simp only [List.mem_cons, List.not_mem_nil, or_false] at hq
  rcases hq with rfl | rfl | rfl | rfl | rfl | rfl | rfl | rfl | rfl | rfl | rfl | rfl | rfl | rfl | rfl | rfl
  · exact ⟨hM_192 vz, ck_C_ok (by decide) gC_8 rfl, Or.inl rfl⟩
  · exact ⟨hM_193 vz, ck_C_ok (by decide) gC_8 rfl, Or.inl rfl⟩
  · exact ⟨hM_194 vz, ck_C_ok (by decide) gC_8 rfl, Or.inl rfl⟩
  · exact ⟨hM_195 vz, ck_C_ok (by decide) gC_8 rfl, Or.inl rfl⟩
  · exact ⟨hM_196 vz, ck_C_ok (by decide) gC_8 rfl, Or.inl rfl⟩
  · exact ⟨hM_197 vz, ck_C_ok (by decide) gC_8 rfl, Or.inl rfl⟩
  · exact ⟨hM_198 vz, ck_C_ok (by decide) gC_8 rfl, Or.inl rfl⟩
  · exact ⟨hM_199 vz, ck_C_ok (by decide) gC_8 rfl, Or.inl rfl⟩
  · exact ⟨hM_200 vz, ck_C_ok (by decide) gC_8 rfl, Or.inl rfl⟩
  · exact ⟨hM_201 vz, ck_C_ok (by decide) gC_8 rfl, Or.inl rfl⟩
  · exact ⟨hM_202 vz, ck_C_ok (by decide) gC_8 rfl, Or.inl rfl⟩
  · exact ⟨hM_203 vz, ck_C_ok (by decide) gC_8 rfl, Or.inl rfl⟩
  · exact ⟨hM_204 vz, ck_C_ok (by decide) gC_8 rfl, Or.inl rfl⟩
  · exact ⟨hM_205 vz, ck_C_ok (by decide) gC_8 rfl, Or.inl rfl⟩
  · exact ⟨hM_206 vz, ck_C_ok (by decide) gC_8 rfl, Or.inl rfl⟩
  · exact ⟨hM_207 vz, ck_C_ok (by decide) gC_8 rfl, Or.inl rfl⟩
theorem xAll_13 (vz : Value) : ∀ q ∈ ([(208, xm_208), (209, xm_209), (210, xm_210), (211, xm_211), (212, xm_212), (213, xm_213), (214, xm_214), (215, xm_215), (216, xm_216), (217, xm_217), (218, xm_218), (219, xm_219), (220, xm_220), (221, xm_221), (222, xm_222), (223, xm_223)] : List (Nat × am_M)), am_MOk xcl xTs xTw xfty xkr (xkz vz) xfn q.2 ∧ (am_CtOk (xMT vz) xcl xTs xTw q.2 ∧ ∀ mi' ix k na rc host M', am_mC q.2 ix = some (k, mi', na, some host, rc) → ¬ 4 ≤ k → xMT vz mi' = some M' → am_mT M' = []) ∧ (am_mT q.2 = [] ∨ ∀ pc, am_mX q.2 pc = none) := by
  intro q hq
  simp only [List.mem_cons, List.not_mem_nil, or_false] at hq
  rcases hq with rfl | rfl | rfl | rfl | rfl | rfl | rfl | rfl | rfl | rfl | rfl | rfl | rfl | rfl | rfl | rfl
  · exact ⟨hM_208 vz, ck_C_ok (by decide) gC_8 rfl, Or.inl rfl⟩
  · exact ⟨hM_209 vz, ck_C_ok (by decide) gC_8 rfl, Or.inl rfl⟩
  · exact ⟨hM_210 vz, ck_C_ok (by decide) gC_8 rfl, Or.inl rfl⟩
  · exact ⟨hM_211 vz, ck_C_ok (by decide) gC_8 rfl, Or.inl rfl⟩
  · exact ⟨hM_212 vz, ck_C_ok (by decide) gC_8 rfl, Or.inl rfl⟩
  · exact ⟨hM_213 vz, ck_C_ok (by decide) gC_8 rfl, Or.inl rfl⟩
  · exact ⟨hM_214 vz, ck_C_ok (by decide) gC_8 rfl, Or.inl rfl⟩
  · exact ⟨hM_215 vz, ck_C_ok (by decide) gC_8 rfl, Or.inl rfl⟩
  · exact ⟨hM_216 vz, ck_C_ok (by decide) gC_8 rfl, Or.inl rfl⟩
  · exact ⟨hM_217 vz, ck_C_ok (by decide) gC_8 rfl, Or.inl rfl⟩
  · exact ⟨hM_218 vz, ck_C_ok (by decide) gC_8 rfl, Or.inl rfl⟩
  · exact ⟨hM_219 vz, ck_C_ok (by decide) gC_8 rfl, Or.inl rfl⟩
  · exact ⟨hM_220 vz, ck_C_ok (by decide) gC_8 rfl, Or.inl rfl⟩
  · exact ⟨hM_221 vz, ck_C_ok (by decide) gC_8 rfl, Or.inl rfl⟩
  · exact ⟨hM_222 vz, ck_C_ok (by decide) gC_8 rfl, Or.inl rfl⟩
  · exact ⟨hM_223 vz, ck_C_ok (by decide) gC_8 rfl, Or.inl rfl⟩
theorem xAll_14 (vz : Value) : ∀ q ∈ ([(224, xm_224), (225, xm_225), (226, xm_226), (227, xm_227), (228, xm_228), (229, xm_229), (230, xm_230), (231, xm_231), (232, xm_232), (233, xm_233), (234, xm_234), (235, xm_235), (236, xm_236), (237, xm_237), (238, xm_238), (239, xm_239)] : List (Nat × am_M)), am_MOk xcl xTs xTw xfty xkr (xkz vz) xfn q.2 ∧ (am_CtOk (xMT vz) xcl xTs xTw q.2 ∧ ∀ mi' ix k na rc host M', am_mC q.2 ix = some (k, mi', na, some host, rc) → ¬ 4 ≤ k → xMT vz mi' = some M' → am_mT M' = []) ∧ (am_mT q.2 = [] ∨ ∀ pc, am_mX q.2 pc = none) := by
  intro q hq
  simp only [List.mem_cons, List.not_mem_nil, or_false] at hq
  rcases hq with rfl | rfl | rfl | rfl | rfl | rfl | rfl | rfl | rfl | rfl | rfl | rfl | rfl | rfl | rfl | rfl
  · exact ⟨hM_224 vz, ck_C_ok (by decide) gC_8 rfl, Or.inl rfl⟩
  · exact ⟨hM_225 vz, ck_C_ok (by decide) gC_8 rfl, Or.inl rfl⟩
  · exact ⟨hM_226 vz, ck_C_ok (by decide) gC_8 rfl, Or.inl rfl⟩
  · exact ⟨hM_227 vz, ck_C_ok (by decide) gC_8 rfl, Or.inl rfl⟩
  · exact ⟨hM_228 vz, ck_C_ok (by decide) gC_8 rfl, Or.inl rfl⟩
  · exact ⟨hM_229 vz, ck_C_ok (by decide) gC_8 rfl, Or.inl rfl⟩
  · exact ⟨hM_230 vz, ck_C_ok (by decide) gC_8 rfl, Or.inl rfl⟩
  · exact ⟨hM_231 vz, ck_C_ok (by decide) gC_8 rfl, Or.inl rfl⟩
  · exact ⟨hM_232 vz, ck_C_ok (by decide) gC_8 rfl, Or.inl rfl⟩
  · exact ⟨hM_233 vz, ck_C_ok (by decide) gC_8 rfl, Or.inl rfl⟩
  · exact ⟨hM_234 vz, ck_C_ok (by decide) gC_8 rfl, Or.inl rfl⟩
  · exact ⟨hM_235 vz, ck_C_ok (by decide) gC_8 rfl, Or.inl rfl⟩
  · exact ⟨hM_236 vz, ck_C_ok (by decide) gC_8 rfl, Or.inl rfl⟩
  · exact ⟨hM_237 vz, ck_C_ok (by decide) gC_8 rfl, Or.inl rfl⟩
  · exact ⟨hM_238 vz, ck_C_ok (by decide) gC_8 rfl, Or.inl rfl⟩
  · exact ⟨hM_239 vz, ck_C_ok (by decide) gC_8 rfl, Or.inl rfl⟩
theorem xAll_15 (vz : Value) : ∀ q ∈ ([(240, xm_240), (241, xm_241), (242, xm_242), (243, xm_243 vz), (244, xm_244 vz), (245, xm_245 vz), (246, xm_246 vz), (247, xm_247), (248, xm_248 vz), (249, xm_249), (250, xm_250), (251, xm_251), (252, xm_252), (253, xm_253), (254, xm_254 vz), (255, xm_255 vz)] : List (Nat × am_M)), am_MOk xcl xTs xTw xfty xkr (xkz vz) xfn q.2 ∧ (am_CtOk (xMT vz) xcl xTs xTw q.2 ∧ ∀ mi' ix k na rc host M', am_mC q.2 ix = some (k, mi', na, some host, rc) → ¬ 4 ≤ k → xMT vz mi' = some M' → am_mT M' = []) ∧ (am_mT q.2 = [] ∨ ∀ pc, am_mX q.2 pc = none) := by
  intro q hq
  simp only [List.mem_cons, List.not_mem_nil, or_false] at hq
  rcases hq with rfl | rfl | rfl | rfl | rfl | rfl | rfl | rfl | rfl | rfl | rfl | rfl | rfl | rfl | rfl | rfl
  · exact ⟨hM_240 vz, ck_C_ok (by decide) gC_8 rfl, Or.inl rfl⟩
  · exact ⟨hM_241 vz, ck_C_ok (by decide) gC_8 rfl, Or.inl rfl⟩
  · exact ⟨hM_242 vz, ck_C_ok (by decide) gC_8 rfl, Or.inl rfl⟩
  · exact ⟨hM_243 vz, ck_C_ok (by decide) gC_9 rfl, Or.inl rfl⟩
  · exact ⟨hM_244 vz, ck_C_ok (by decide) gC_9 rfl, Or.inl rfl⟩
  · exact ⟨hM_245 vz, ck_C_ok (by decide) gC_9 rfl, Or.inl rfl⟩
  · exact ⟨hM_246 vz, ck_C_ok (by decide) gC_9 rfl, Or.inl rfl⟩
  · exact ⟨hM_247 vz, ck_C_ok (by decide) gC_10 rfl, Or.inl rfl⟩
  · exact ⟨hM_248 vz, ck_C_ok (by decide) gC_9 rfl, Or.inl rfl⟩
  · exact ⟨hM_249 vz, ck_C_ok (by decide) gC_11 rfl, Or.inl rfl⟩
  · exact ⟨hM_250 vz, ck_C_ok (by decide) gC_12 rfl, Or.inl rfl⟩
  · exact ⟨hM_251 vz, ck_C_ok (by decide) gC_12 rfl, Or.inl rfl⟩
  · exact ⟨hM_252 vz, ck_C_ok (by decide) gC_12 rfl, Or.inl rfl⟩
  · exact ⟨hM_253 vz, ck_C_ok (by decide) gC_12 rfl, Or.inl rfl⟩
  · exact ⟨hM_254 vz, ck_C_ok (by decide) gC_9 rfl, Or.inl rfl⟩
  · exact ⟨hM_255 vz, ck_C_ok (by decide) gC_9 rfl, Or.inl rfl⟩
theorem xAll_16 (vz : Value) : ∀ q ∈ ([(256, xm_256), (257, xm_257), (258, xm_258), (259, xm_259), (260, xm_260), (261, xm_261), (262, xm_262 vz), (263, xm_263), (264, xm_264), (265, xm_265), (266, xm_266), (267, xm_267), (268, xm_268), (269, xm_269), (270, xm_270), (271, xm_271)] : List (Nat × am_M)), am_MOk xcl xTs xTw xfty xkr (xkz vz) xfn q.2 ∧ (am_CtOk (xMT vz) xcl xTs xTw q.2 ∧ ∀ mi' ix k na rc host M', am_mC q.2 ix = some (k, mi', na, some host, rc) → ¬ 4 ≤ k → xMT vz mi' = some M' → am_mT M' = []) ∧ (am_mT q.2 = [] ∨ ∀ pc, am_mX q.2 pc = none) := by
  intro q hq
  simp only [List.mem_cons, List.not_mem_nil, or_false] at hq
  rcases hq with rfl | rfl | rfl | rfl | rfl | rfl | rfl | rfl | rfl | rfl | rfl | rfl | rfl | rfl | rfl | rfl
  · exact ⟨hM_256 vz, ck_C_ok (by decide) gC_10 rfl, Or.inl rfl⟩
  · exact ⟨hM_257 vz, ck_C_ok (by decide) gC_10 rfl, Or.inl rfl⟩
  · exact ⟨hM_258 vz, ck_C_ok (by decide) gC_10 rfl, Or.inl rfl⟩
  · exact ⟨hM_259 vz, ck_C_ok (by decide) gC_12 rfl, Or.inl rfl⟩
  · exact ⟨hM_260 vz, ck_C_ok (by decide) gC_12 rfl, Or.inl rfl⟩
  · exact ⟨hM_261 vz, ck_C_ok (by decide) gC_12 rfl, Or.inl rfl⟩
  · exact ⟨hM_262 vz, ck_C_ok (by decide) gC_9 rfl, Or.inl rfl⟩
  · exact ⟨hM_263 vz, ck_C_ok (by decide) gC_11 rfl, Or.inl rfl⟩
  · exact ⟨hM_264 vz, ck_C_ok (by decide) gC_12 rfl, Or.inl rfl⟩
  · exact ⟨hM_265 vz, ck_C_ok (by decide) gC_12 rfl, Or.inl rfl⟩
  · exact ⟨hM_266 vz, ck_C_ok (by decide) gC_13 rfl, Or.inl rfl⟩
  · exact ⟨hM_267 vz, ck_C_ok (by decide) gC_13 rfl, Or.inl rfl⟩
  · exact ⟨hM_268 vz, ck_C_ok (by decide) gC_13 rfl, Or.inl rfl⟩
  · exact ⟨hM_269 vz, ck_C_ok (by decide) gC_14 rfl, Or.inl rfl⟩
  · exact ⟨hM_270 vz, ck_C_ok (by decide) gC_15 rfl, Or.inl rfl⟩
  · exact ⟨hM_271 vz, ck_C_ok (by decide) gC_16 rfl, Or.inl rfl⟩
theorem xClOk : am_ClOk xcl xTs xfty := by
  intro ci C T N h
  match ci, h with
  | 0, h =>
    cases h
    exact ⟨by decide +kernel, by decide +kernel, fun w hw => ck_in_ok (List.all_eq_true.mp (show (u_ws "RelationFinder" xt_0 18).all ck_in = true from by decide +kernel) w hw)⟩
  | 1, h =>
    cases h
    exact ⟨by decide +kernel, by decide +kernel, fun w hw => ck_in_ok (List.all_eq_true.mp (show (u_ws "RelationFinder$World" xt_1 9).all ck_in = true from by decide +kernel) w hw)⟩
  | 2, h =>
    cases h
    exact ⟨by decide +kernel, by decide +kernel, fun w hw => ck_in_ok (List.all_eq_true.mp (show (u_ws "RelationFinder$Tape" xt_2 8).all ck_in = true from by decide +kernel) w hw)⟩
  | 3, h =>
    cases h
    exact ⟨by decide +kernel, by decide +kernel, fun w hw => ck_in_ok (List.all_eq_true.mp (show (u_ws "RelationFinder$Parser" xt_3 17).all ck_in = true from by decide +kernel) w hw)⟩
  | 4, h =>
    cases h
    exact ⟨by decide +kernel, by decide +kernel, fun w hw => ck_in_ok (List.all_eq_true.mp (show (u_ws "RelationFinder$Machine" xt_4 9).all ck_in = true from by decide +kernel) w hw)⟩
  | 5, h =>
    cases h
    exact ⟨by decide +kernel, by decide +kernel, fun w hw => ck_in_ok (List.all_eq_true.mp (show (u_ws "RelationFinder$Renamings" xt_5 5).all ck_in = true from by decide +kernel) w hw)⟩
  | 6, h =>
    cases h
    exact ⟨by decide +kernel, by decide +kernel, fun w hw => ck_in_ok (List.all_eq_true.mp (show (u_ws "RelationFinder$Code" xt_6 9).all ck_in = true from by decide +kernel) w hw)⟩
  | 7, h =>
    cases h
    exact ⟨by decide +kernel, by decide +kernel, fun w hw => ck_in_ok (List.all_eq_true.mp (show (u_ws "RelationFinderModel" xt_7 55).all ck_in = true from by decide +kernel) w hw)⟩
  | 8, h =>
    cases h
    exact ⟨by decide +kernel, by decide +kernel, fun w hw => ck_in_ok (List.all_eq_true.mp (show (u_ws "java/lang/IllegalArgumentException" xt_e 0).all ck_in = true from by decide +kernel) w hw)⟩
  | 9, h =>
    cases h
    exact ⟨by decide +kernel, by decide +kernel, fun w hw => ck_in_ok (List.all_eq_true.mp (show (u_ws "java/lang/UnsupportedOperationException" xt_e 0).all ck_in = true from by decide +kernel) w hw)⟩
  | 10, h =>
    cases h
    exact ⟨by decide +kernel, by decide +kernel, fun w hw => ck_in_ok (List.all_eq_true.mp (show (u_ws "java/lang/IndexOutOfBoundsException" xt_e 0).all ck_in = true from by decide +kernel) w hw)⟩
  | 11, h =>
    cases h
    exact ⟨by decide +kernel, by decide +kernel, fun w hw => ck_in_ok (List.all_eq_true.mp (show (u_ws "java/lang/IllegalStateException" xt_e 0).all ck_in = true from by decide +kernel) w hw)⟩
  | n + 12, h => simp [xcl] at h
theorem xGlo : am_Glo xcl xTs xfty xtyl := ⟨xClOk, by decide, by decide, by decide, by decide, fun ty hty hno => by
  simp only [xtyl, List.mem_cons, List.not_mem_nil, or_false] at hty
  rcases hty with rfl | rfl | rfl | rfl | rfl
  · exact ck_in_ok (by decide +kernel)
  · exact ck_in_ok (by decide +kernel)
  · exact ck_in_ok (by decide +kernel)
  · exact ck_in_ok (by decide +kernel)
  · exact absurd rfl (hno _)⟩
theorem xAll (vz : Value) : ∀ mi M, xMT vz mi = some M → am_MOk xcl xTs xTw xfty xkr (xkz vz) xfn M ∧ (am_CtOk (xMT vz) xcl xTs xTw M ∧ ∀ mi' ix k na rc host M', am_mC M ix = some (k, mi', na, some host, rc) → ¬ 4 ≤ k → xMT vz mi' = some M' → am_mT M' = []) ∧ (am_mT M = [] ∨ ∀ pc, am_mX M pc = none) := by
  intro mi M h
  have hm := am_lk2_mem h
  obtain ⟨l, hl, hq⟩ := List.mem_flatten.mp hm
  simp only [xms, List.mem_cons, List.not_mem_nil, or_false] at hl
  rcases hl with rfl | rfl | rfl | rfl | rfl | rfl | rfl | rfl | rfl | rfl | rfl | rfl | rfl | rfl | rfl | rfl | rfl
  · exact xAll_0 vz _ hq
  · exact xAll_1 vz _ hq
  · exact xAll_2 vz _ hq
  · exact xAll_3 vz _ hq
  · exact xAll_4 vz _ hq
  · exact xAll_5 vz _ hq
  · exact xAll_6 vz _ hq
  · exact xAll_7 vz _ hq
  · exact xAll_8 vz _ hq
  · exact xAll_9 vz _ hq
  · exact xAll_10 vz _ hq
  · exact xAll_11 vz _ hq
  · exact xAll_12 vz _ hq
  · exact xAll_13 vz _ hq
  · exact xAll_14 vz _ hq
  · exact xAll_15 vz _ hq
  · exact xAll_16 vz _ hq
