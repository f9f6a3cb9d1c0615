/-! TABLES: code of Machine is right. -/
theorem hD_101 : xi_101.flatten.all (ck_D prog_3_method_1_code) = true := by decide +kernel
theorem hM_101 (vz : Value) : am_MOk xcl xTs xTw xfty xkr (xkz vz) xfn xm_101 := ⟨ck_D_ok hD_101, ck_G_ok gG_5, ck_P_ok gPi_5, ck_N_ok gN_5, ck_Q_ok gQ_5, ck_H_ok gH_5, ck_L_ok gL_5, gS_5 vz⟩
theorem hD_102 : xi_102.flatten.all (ck_D prog_3_method_2_code) = true := by decide +kernel
theorem hM_102 (vz : Value) : am_MOk xcl xTs xTw xfty xkr (xkz vz) xfn xm_102 := ⟨ck_D_ok hD_102, ck_G_ok gG_5, gP_5 _, ck_N_ok gN_5, ck_Q_ok gQ_5, ck_H_ok gH_5, ck_L_ok gL_5, gS_5 vz⟩
theorem hD_103 : xi_103.flatten.all (ck_D prog_3_method_3_code) = true := by decide +kernel
theorem hM_103 (vz : Value) : am_MOk xcl xTs xTw xfty xkr (xkz vz) xfn xm_103 := ⟨ck_D_ok hD_103, ck_G_ok gG_5, gP_5 _, ck_N_ok gN_5, ck_Q_ok gQ_5, ck_H_ok gH_5, ck_L_ok gL_5, gS_5 vz⟩
theorem hD_104 : xi_104.flatten.all (ck_D prog_3_method_6_code) = true := by decide +kernel
theorem hM_104 (vz : Value) : am_MOk xcl xTs xTw xfty xkr (xkz vz) xfn xm_104 := ⟨ck_D_ok hD_104, ck_G_ok gG_5, gP_5 _, ck_N_ok gN_5, ck_Q_ok gQ_5, ck_H_ok gH_5, ck_L_ok gL_5, gS_5 vz⟩
theorem hD_105 : xi_105.flatten.all (ck_D prog_3_method_7_code) = true := by decide +kernel
theorem hM_105 (vz : Value) : am_MOk xcl xTs xTw xfty xkr (xkz vz) xfn xm_105 := ⟨ck_D_ok hD_105, ck_G_ok gG_5, gP_5 _, ck_N_ok gN_5, ck_Q_ok gQ_5, ck_H_ok gH_5, ck_L_ok gL_5, gS_5 vz⟩
theorem hD_106 : xi_106.flatten.all (ck_D prog_3_method_8_code) = true := by decide +kernel
theorem hM_106 (vz : Value) : am_MOk xcl xTs xTw xfty xkr (xkz vz) xfn xm_106 := ⟨ck_D_ok hD_106, ck_G_ok gG_5, gP_5 _, ck_N_ok gN_5, ck_Q_ok gQ_5, ck_H_ok gH_5, ck_L_ok gL_5, gS_5 vz⟩
theorem hD_107 : xi_107.flatten.all (ck_D prog_3_method_11_code) = true := by decide +kernel
theorem hM_107 (vz : Value) : am_MOk xcl xTs xTw xfty xkr (xkz vz) xfn xm_107 := ⟨ck_D_ok hD_107, ck_G_ok gG_5, gP_5 _, ck_N_ok gN_5, ck_Q_ok gQ_5, ck_H_ok gH_5, ck_L_ok gL_5, gS_5 vz⟩
theorem hD_108 : xi_108.flatten.all (ck_D prog_3_method_5_code) = true := by decide +kernel
theorem hM_108 (vz : Value) : am_MOk xcl xTs xTw xfty xkr (xkz vz) xfn xm_108 := ⟨ck_D_ok hD_108, ck_G_ok gG_5, gP_5 _, ck_N_ok gN_5, ck_Q_ok gQ_5, ck_H_ok gH_5, ck_L_ok gL_5, gS_5 vz⟩
theorem hD_109 : xi_109.flatten.all (ck_D prog_3_method_10_code) = true := by decide +kernel
theorem hM_109 (vz : Value) : am_MOk xcl xTs xTw xfty xkr (xkz vz) xfn xm_109 := ⟨ck_D_ok hD_109, ck_G_ok gG_5, gP_5 _, ck_N_ok gN_5, ck_Q_ok gQ_5, ck_H_ok gH_5, ck_L_ok gL_5, gS_5 vz⟩
theorem hD_110 : xi_110.flatten.all (ck_D prog_3_method_12_code) = true := by decide +kernel
theorem hM_110 (vz : Value) : am_MOk xcl xTs xTw xfty xkr (xkz vz) xfn xm_110 := ⟨ck_D_ok hD_110, ck_G_ok gG_5, gP_5 _, ck_N_ok gN_5, ck_Q_ok gQ_5, ck_H_ok gH_5, ck_L_ok gL_5, gS_5 vz⟩
theorem hD_111 : xi_111.flatten.all (ck_D prog_3_method_9_code) = true := by decide +kernel
theorem hM_111 (vz : Value) : am_MOk xcl xTs xTw xfty xkr (xkz vz) xfn xm_111 := ⟨ck_D_ok hD_111, ck_G_ok gG_5, gP_5 _, ck_N_ok gN_5, ck_Q_ok gQ_5, ck_H_ok gH_5, ck_L_ok gL_5, gS_5 vz⟩
theorem hD_112 : xi_112.flatten.all (ck_D prog_3_method_4_code) = true := by decide +kernel
theorem hM_112 (vz : Value) : am_MOk xcl xTs xTw xfty xkr (xkz vz) xfn xm_112 := ⟨ck_D_ok hD_112, ck_G_ok gG_5, gP_5 _, ck_N_ok gN_5, ck_Q_ok gQ_5, ck_H_ok gH_5, ck_L_ok gL_5, gS_5 vz⟩
theorem hD_113 : xi_113.flatten.all (ck_D prog_3_method_26_code) = true := by decide +kernel
theorem hM_113 (vz : Value) : am_MOk xcl xTs xTw xfty xkr (xkz vz) xfn xm_113 := ⟨ck_D_ok hD_113, ck_G_ok gG_5, gP_5 _, ck_N_ok gN_5, ck_Q_ok gQ_5, ck_H_ok gH_5, ck_L_ok gL_5, gS_5 vz⟩
theorem hD_114_0 : ((xi_114.drop 0).take 12).flatten.all (ck_D prog_3_method_13_code) = true := by decide +kernel
theorem hD_114_1 : ((xi_114.drop 12).take 12).flatten.all (ck_D prog_3_method_13_code) = true := by decide +kernel
theorem hD_114 : xi_114.flatten.all (ck_D prog_3_method_13_code) = true := by
  have e : xi_114 = (xi_114.drop 0).take 12 ++ ((xi_114.drop 12).take 12) := rfl
  rw [e]
  simp only [List.flatten_append, List.all_append, Bool.and_eq_true]
  exact ⟨hD_114_0, hD_114_1⟩
theorem hM_114 (vz : Value) : am_MOk xcl xTs xTw xfty xkr (xkz vz) xfn xm_114 := ⟨ck_D_ok hD_114, ck_G_ok gG_5, gP_5 _, ck_N_ok gN_5, ck_Q_ok gQ_5, ck_H_ok gH_5, ck_L_ok gL_5, gS_5 vz⟩
theorem hD_115 : xi_115.flatten.all (ck_D prog_3_method_14_code) = true := by decide +kernel
theorem hM_115 (vz : Value) : am_MOk xcl xTs xTw xfty xkr (xkz vz) xfn xm_115 := ⟨ck_D_ok hD_115, ck_G_ok gG_5, gP_5 _, ck_N_ok gN_5, ck_Q_ok gQ_5, ck_H_ok gH_5, ck_L_ok gL_5, gS_5 vz⟩
theorem hD_116 : xi_116.flatten.all (ck_D prog_3_method_16_code) = true := by decide +kernel
theorem hM_116 (vz : Value) : am_MOk xcl xTs xTw xfty xkr (xkz vz) xfn xm_116 := ⟨ck_D_ok hD_116, ck_G_ok gG_5, gP_5 _, ck_N_ok gN_5, ck_Q_ok gQ_5, ck_H_ok gH_5, ck_L_ok gL_5, gS_5 vz⟩
theorem hD_117 : xi_117.flatten.all (ck_D prog_3_method_15_code) = true := by decide +kernel
theorem hM_117 (vz : Value) : am_MOk xcl xTs xTw xfty xkr (xkz vz) xfn xm_117 := ⟨ck_D_ok hD_117, ck_G_ok gG_5, gP_5 _, ck_N_ok gN_5, ck_Q_ok gQ_5, ck_H_ok gH_5, ck_L_ok gL_5, gS_5 vz⟩
theorem hD_118_0 : ((xi_118.drop 0).take 14).flatten.all (ck_D prog_3_method_18_code) = true := by decide +kernel
theorem hD_118_1 : ((xi_118.drop 14).take 14).flatten.all (ck_D prog_3_method_18_code) = true := by decide +kernel
theorem hD_118 : xi_118.flatten.all (ck_D prog_3_method_18_code) = true := by
  have e : xi_118 = (xi_118.drop 0).take 14 ++ ((xi_118.drop 14).take 14) := rfl
  rw [e]
  simp only [List.flatten_append, List.all_append, Bool.and_eq_true]
  exact ⟨hD_118_0, hD_118_1⟩
theorem hM_118 (vz : Value) : am_MOk xcl xTs xTw xfty xkr (xkz vz) xfn xm_118 := ⟨ck_D_ok hD_118, ck_G_ok gG_5, gP_5 _, ck_N_ok gN_5, ck_Q_ok gQ_5, ck_H_ok gH_5, ck_L_ok gL_5, gS_5 vz⟩
theorem hD_119 : xi_119.flatten.all (ck_D prog_3_method_17_code) = true := by decide +kernel
theorem hM_119 (vz : Value) : am_MOk xcl xTs xTw xfty xkr (xkz vz) xfn xm_119 := ⟨ck_D_ok hD_119, ck_G_ok gG_5, gP_5 _, ck_N_ok gN_5, ck_Q_ok gQ_5, ck_H_ok gH_5, ck_L_ok gL_5, gS_5 vz⟩
theorem hD_120 : xi_120.flatten.all (ck_D prog_3_method_19_code) = true := by decide +kernel
theorem hM_120 (vz : Value) : am_MOk xcl xTs xTw xfty xkr (xkz vz) xfn xm_120 := ⟨ck_D_ok hD_120, ck_G_ok gG_5, gP_5 _, ck_N_ok gN_5, ck_Q_ok gQ_5, ck_H_ok gH_5, ck_L_ok gL_5, gS_5 vz⟩
theorem hD_121 : xi_121.flatten.all (ck_D prog_3_method_20_code) = true := by decide +kernel
theorem hM_121 (vz : Value) : am_MOk xcl xTs xTw xfty xkr (xkz vz) xfn xm_121 := ⟨ck_D_ok hD_121, ck_G_ok gG_5, gP_5 _, ck_N_ok gN_5, ck_Q_ok gQ_5, ck_H_ok gH_5, ck_L_ok gL_5, gS_5 vz⟩
theorem hD_122 : xi_122.flatten.all (ck_D prog_3_method_21_code) = true := by decide +kernel
theorem hM_122 (vz : Value) : am_MOk xcl xTs xTw xfty xkr (xkz vz) xfn xm_122 := ⟨ck_D_ok hD_122, ck_G_ok gG_5, gP_5 _, ck_N_ok gN_5, ck_Q_ok gQ_5, ck_H_ok gH_5, ck_L_ok gL_5, gS_5 vz⟩
theorem hD_123 : xi_123.flatten.all (ck_D prog_3_method_27_code) = true := by decide +kernel
theorem hM_123 (vz : Value) : am_MOk xcl xTs xTw xfty xkr (xkz vz) xfn xm_123 := ⟨ck_D_ok hD_123, ck_G_ok gG_5, gP_5 _, ck_N_ok gN_5, ck_Q_ok gQ_5, ck_H_ok gH_5, ck_L_ok gL_5, gS_5 vz⟩
theorem hD_124_0 : ((xi_124.drop 0).take 14).flatten.all (ck_D prog_3_method_22_code) = true := by decide +kernel
theorem hD_124_1 : ((xi_124.drop 14).take 14).flatten.all (ck_D prog_3_method_22_code) = true := by decide +kernel
theorem hD_124 : xi_124.flatten.all (ck_D prog_3_method_22_code) = true := by
  have e : xi_124 = (xi_124.drop 0).take 14 ++ ((xi_124.drop 14).take 14) := rfl
  rw [e]
  simp only [List.flatten_append, List.all_append, Bool.and_eq_true]
  exact ⟨hD_124_0, hD_124_1⟩
theorem hM_124 (vz : Value) : am_MOk xcl xTs xTw xfty xkr (xkz vz) xfn xm_124 := ⟨ck_D_ok hD_124, ck_G_ok gG_5, gP_5 _, ck_N_ok gN_5, ck_Q_ok gQ_5, ck_H_ok gH_5, ck_L_ok gL_5, gS_5 vz⟩
theorem hD_125 : xi_125.flatten.all (ck_D prog_3_method_23_code) = true := by decide +kernel
theorem hM_125 (vz : Value) : am_MOk xcl xTs xTw xfty xkr (xkz vz) xfn xm_125 := ⟨ck_D_ok hD_125, ck_G_ok gG_5, gP_5 _, ck_N_ok gN_5, ck_Q_ok gQ_5, ck_H_ok gH_5, ck_L_ok gL_5, gS_5 vz⟩
theorem hD_126 : xi_126.flatten.all (ck_D prog_3_method_24_code) = true := by decide +kernel
theorem hM_126 (vz : Value) : am_MOk xcl xTs xTw xfty xkr (xkz vz) xfn xm_126 := ⟨ck_D_ok hD_126, ck_G_ok gG_5, gP_5 _, ck_N_ok gN_5, ck_Q_ok gQ_5, ck_H_ok gH_5, ck_L_ok gL_5, gS_5 vz⟩
theorem hD_127 : xi_127.flatten.all (ck_D prog_3_method_25_code) = true := by decide +kernel
theorem hM_127 (vz : Value) : am_MOk xcl xTs xTw xfty xkr (xkz vz) xfn xm_127 := ⟨ck_D_ok hD_127, ck_G_ok gG_5, gP_5 _, ck_N_ok gN_5, ck_Q_ok gQ_5, ck_H_ok gH_5, ck_L_ok gL_5, gS_5 vz⟩
theorem hD_128 : xi_128.flatten.all (ck_D prog_3_method_28_code) = true := by decide +kernel
theorem hM_128 (vz : Value) : am_MOk xcl xTs xTw xfty xkr (xkz vz) xfn xm_128 := ⟨ck_D_ok hD_128, ck_G_ok gG_5, gP_5 _, ck_N_ok gN_5, ck_Q_ok gQ_5, ck_H_ok gH_5, ck_L_ok gL_5, gS_5 vz⟩
