/-! TABLES: code of World, Tape, Renamings, Code is right. -/
theorem hD_47 : xi_47.flatten.all (ck_D prog_7_method_1_code) = true := by decide +kernel
theorem hM_47 (vz : Value) : am_MOk xcl xTs xTw xfty xkr (xkz vz) xfn xm_47 := ⟨ck_D_ok hD_47, ck_G_ok gG_2, ck_P_ok gPi_2, ck_N_ok gN_2, ck_Q_ok gQ_2, ck_H_ok gH_2, ck_L_ok gL_2, gS_2 vz⟩
theorem hD_48 : xi_48.flatten.all (ck_D prog_7_method_3_code) = true := by decide +kernel
theorem hM_48 (vz : Value) : am_MOk xcl xTs xTw xfty xkr (xkz vz) xfn xm_48 := ⟨ck_D_ok hD_48, ck_G_ok gG_2, gP_2 _, ck_N_ok gN_2, ck_Q_ok gQ_2, ck_H_ok gH_2, ck_L_ok gL_2, gS_2 vz⟩
theorem hD_49 : xi_49.flatten.all (ck_D prog_7_method_11_code) = true := by decide +kernel
theorem hM_49 (vz : Value) : am_MOk xcl xTs xTw xfty xkr (xkz vz) xfn xm_49 := ⟨ck_D_ok hD_49, ck_G_ok gG_2, gP_2 _, ck_N_ok gN_2, ck_Q_ok gQ_2, ck_H_ok gH_2, ck_L_ok gL_2, gS_2 vz⟩
theorem hD_50 : xi_50.flatten.all (ck_D prog_7_method_12_code) = true := by decide +kernel
theorem hM_50 (vz : Value) : am_MOk xcl xTs xTw xfty xkr (xkz vz) xfn xm_50 := ⟨ck_D_ok hD_50, ck_G_ok gG_2, gP_2 _, ck_N_ok gN_2, ck_Q_ok gQ_2, ck_H_ok gH_2, ck_L_ok gL_2, gS_2 vz⟩
theorem hD_51 : xi_51.flatten.all (ck_D prog_7_method_13_code) = true := by decide +kernel
theorem hM_51 (vz : Value) : am_MOk xcl xTs xTw xfty xkr (xkz vz) xfn xm_51 := ⟨ck_D_ok hD_51, ck_G_ok gG_2, gP_2 _, ck_N_ok gN_2, ck_Q_ok gQ_2, ck_H_ok gH_2, ck_L_ok gL_2, gS_2 vz⟩
theorem hD_52 : xi_52.flatten.all (ck_D prog_7_method_2_code) = true := by decide +kernel
theorem hM_52 (vz : Value) : am_MOk xcl xTs xTw xfty xkr (xkz vz) xfn xm_52 := ⟨ck_D_ok hD_52, ck_G_ok gG_2, gP_2 _, ck_N_ok gN_2, ck_Q_ok gQ_2, ck_H_ok gH_2, ck_L_ok gL_2, gS_2 vz⟩
theorem hD_53 : xi_53.flatten.all (ck_D prog_7_method_9_code) = true := by decide +kernel
theorem hM_53 (vz : Value) : am_MOk xcl xTs xTw xfty xkr (xkz vz) xfn xm_53 := ⟨ck_D_ok hD_53, ck_G_ok gG_2, gP_2 _, ck_N_ok gN_2, ck_Q_ok gQ_2, ck_H_ok gH_2, ck_L_ok gL_2, gS_2 vz⟩
theorem hD_54 : xi_54.flatten.all (ck_D prog_7_method_4_code) = true := by decide +kernel
theorem hM_54 (vz : Value) : am_MOk xcl xTs xTw xfty xkr (xkz vz) xfn xm_54 := ⟨ck_D_ok hD_54, ck_G_ok gG_2, gP_2 _, ck_N_ok gN_2, ck_Q_ok gQ_2, ck_H_ok gH_2, ck_L_ok gL_2, gS_2 vz⟩
theorem hD_55 : xi_55.flatten.all (ck_D prog_7_method_5_code) = true := by decide +kernel
theorem hM_55 (vz : Value) : am_MOk xcl xTs xTw xfty xkr (xkz vz) xfn xm_55 := ⟨ck_D_ok hD_55, ck_G_ok gG_2, gP_2 _, ck_N_ok gN_2, ck_Q_ok gQ_2, ck_H_ok gH_2, ck_L_ok gL_2, gS_2 vz⟩
theorem hD_56 : xi_56.flatten.all (ck_D prog_7_method_6_code) = true := by decide +kernel
theorem hM_56 (vz : Value) : am_MOk xcl xTs xTw xfty xkr (xkz vz) xfn xm_56 := ⟨ck_D_ok hD_56, ck_G_ok gG_2, gP_2 _, ck_N_ok gN_2, ck_Q_ok gQ_2, ck_H_ok gH_2, ck_L_ok gL_2, gS_2 vz⟩
theorem hD_57 : xi_57.flatten.all (ck_D prog_7_method_8_code) = true := by decide +kernel
theorem hM_57 (vz : Value) : am_MOk xcl xTs xTw xfty xkr (xkz vz) xfn xm_57 := ⟨ck_D_ok hD_57, ck_G_ok gG_2, gP_2 _, ck_N_ok gN_2, ck_Q_ok gQ_2, ck_H_ok gH_2, ck_L_ok gL_2, gS_2 vz⟩
theorem hD_58 : xi_58.flatten.all (ck_D prog_7_method_7_code) = true := by decide +kernel
theorem hM_58 (vz : Value) : am_MOk xcl xTs xTw xfty xkr (xkz vz) xfn xm_58 := ⟨ck_D_ok hD_58, ck_G_ok gG_2, gP_2 _, ck_N_ok gN_2, ck_Q_ok gQ_2, ck_H_ok gH_2, ck_L_ok gL_2, gS_2 vz⟩
theorem hD_59 : xi_59.flatten.all (ck_D prog_7_method_10_code) = true := by decide +kernel
theorem hM_59 (vz : Value) : am_MOk xcl xTs xTw xfty xkr (xkz vz) xfn xm_59 := ⟨ck_D_ok hD_59, ck_G_ok gG_2, gP_2 _, ck_N_ok gN_2, ck_Q_ok gQ_2, ck_H_ok gH_2, ck_L_ok gL_2, gS_2 vz⟩
theorem hD_60 : xi_60.flatten.all (ck_D prog_6_method_1_code) = true := by decide +kernel
theorem hM_60 (vz : Value) : am_MOk xcl xTs xTw xfty xkr (xkz vz) xfn xm_60 := ⟨ck_D_ok hD_60, ck_G_ok gG_3, ck_P_ok gPi_3, ck_N_ok gN_3, ck_Q_ok gQ_3, ck_H_ok gH_3, ck_L_ok gL_3, gS_3 vz⟩
theorem hD_61 : xi_61.flatten.all (ck_D prog_6_method_4_code) = true := by decide +kernel
theorem hM_61 (vz : Value) : am_MOk xcl xTs xTw xfty xkr (xkz vz) xfn xm_61 := ⟨ck_D_ok hD_61, ck_G_ok gG_3, gP_3 _, ck_N_ok gN_3, ck_Q_ok gQ_3, ck_H_ok gH_3, ck_L_ok gL_3, gS_3 vz⟩
theorem hD_62 : xi_62.flatten.all (ck_D prog_6_method_5_code) = true := by decide +kernel
theorem hM_62 (vz : Value) : am_MOk xcl xTs xTw xfty xkr (xkz vz) xfn xm_62 := ⟨ck_D_ok hD_62, ck_G_ok gG_3, gP_3 _, ck_N_ok gN_3, ck_Q_ok gQ_3, ck_H_ok gH_3, ck_L_ok gL_3, gS_3 vz⟩
theorem hD_63 : xi_63.flatten.all (ck_D prog_6_method_6_code) = true := by decide +kernel
theorem hM_63 (vz : Value) : am_MOk xcl xTs xTw xfty xkr (xkz vz) xfn xm_63 := ⟨ck_D_ok hD_63, ck_G_ok gG_3, gP_3 _, ck_N_ok gN_3, ck_Q_ok gQ_3, ck_H_ok gH_3, ck_L_ok gL_3, gS_3 vz⟩
theorem hD_64 : xi_64.flatten.all (ck_D prog_6_method_9_code) = true := by decide +kernel
theorem hM_64 (vz : Value) : am_MOk xcl xTs xTw xfty xkr (xkz vz) xfn xm_64 := ⟨ck_D_ok hD_64, ck_G_ok gG_3, gP_3 _, ck_N_ok gN_3, ck_Q_ok gQ_3, ck_H_ok gH_3, ck_L_ok gL_3, gS_3 vz⟩
theorem hD_65 : xi_65.flatten.all (ck_D prog_6_method_7_code) = true := by decide +kernel
theorem hM_65 (vz : Value) : am_MOk xcl xTs xTw xfty xkr (xkz vz) xfn xm_65 := ⟨ck_D_ok hD_65, ck_G_ok gG_3, gP_3 _, ck_N_ok gN_3, ck_Q_ok gQ_3, ck_H_ok gH_3, ck_L_ok gL_3, gS_3 vz⟩
theorem hD_66 : xi_66.flatten.all (ck_D prog_6_method_8_code) = true := by decide +kernel
theorem hM_66 (vz : Value) : am_MOk xcl xTs xTw xfty xkr (xkz vz) xfn xm_66 := ⟨ck_D_ok hD_66, ck_G_ok gG_3, gP_3 _, ck_N_ok gN_3, ck_Q_ok gQ_3, ck_H_ok gH_3, ck_L_ok gL_3, gS_3 vz⟩
theorem hD_67 : xi_67.flatten.all (ck_D prog_6_method_10_code) = true := by decide +kernel
theorem hM_67 (vz : Value) : am_MOk xcl xTs xTw xfty xkr (xkz vz) xfn xm_67 := ⟨ck_D_ok hD_67, ck_G_ok gG_3, gP_3 _, ck_N_ok gN_3, ck_Q_ok gQ_3, ck_H_ok gH_3, ck_L_ok gL_3, gS_3 vz⟩
theorem hD_68 : xi_68.flatten.all (ck_D prog_6_method_11_code) = true := by decide +kernel
theorem hM_68 (vz : Value) : am_MOk xcl xTs xTw xfty xkr (xkz vz) xfn xm_68 := ⟨ck_D_ok hD_68, ck_G_ok gG_3, gP_3 _, ck_N_ok gN_3, ck_Q_ok gQ_3, ck_H_ok gH_3, ck_L_ok gL_3, gS_3 vz⟩
theorem hD_69 : xi_69.flatten.all (ck_D prog_6_method_12_code) = true := by decide +kernel
theorem hM_69 (vz : Value) : am_MOk xcl xTs xTw xfty xkr (xkz vz) xfn xm_69 := ⟨ck_D_ok hD_69, ck_G_ok gG_3, gP_3 _, ck_N_ok gN_3, ck_Q_ok gQ_3, ck_H_ok gH_3, ck_L_ok gL_3, gS_3 vz⟩
theorem hD_70 : xi_70.flatten.all (ck_D prog_6_method_3_code) = true := by decide +kernel
theorem hM_70 (vz : Value) : am_MOk xcl xTs xTw xfty xkr (xkz vz) xfn xm_70 := ⟨ck_D_ok hD_70, ck_G_ok gG_3, gP_3 _, ck_N_ok gN_3, ck_Q_ok gQ_3, ck_H_ok gH_3, ck_L_ok gL_3, gS_3 vz⟩
theorem hD_71 : xi_71.flatten.all (ck_D prog_6_method_2_code) = true := by decide +kernel
theorem hM_71 (vz : Value) : am_MOk xcl xTs xTw xfty xkr (xkz vz) xfn xm_71 := ⟨ck_D_ok hD_71, ck_G_ok gG_3, gP_3 _, ck_N_ok gN_3, ck_Q_ok gQ_3, ck_H_ok gH_3, ck_L_ok gL_3, gS_3 vz⟩
theorem hD_129 : xi_129.flatten.all (ck_D prog_5_method_1_code) = true := by decide +kernel
theorem hM_129 (vz : Value) : am_MOk xcl xTs xTw xfty xkr (xkz vz) xfn xm_129 := ⟨ck_D_ok hD_129, ck_G_ok gG_6, ck_P_ok gPi_6, ck_N_ok gN_6, ck_Q_ok gQ_6, ck_H_ok gH_6, ck_L_ok gL_6, gS_6 vz⟩
theorem hD_130 : xi_130.flatten.all (ck_D prog_5_method_2_code) = true := by decide +kernel
theorem hM_130 (vz : Value) : am_MOk xcl xTs xTw xfty xkr (xkz vz) xfn xm_130 := ⟨ck_D_ok hD_130, ck_G_ok gG_6, gP_6 _, ck_N_ok gN_6, ck_Q_ok gQ_6, ck_H_ok gH_6, ck_L_ok gL_6, gS_6 vz⟩
theorem hD_131 : xi_131.flatten.all (ck_D prog_5_method_3_code) = true := by decide +kernel
theorem hM_131 (vz : Value) : am_MOk xcl xTs xTw xfty xkr (xkz vz) xfn xm_131 := ⟨ck_D_ok hD_131, ck_G_ok gG_6, gP_6 _, ck_N_ok gN_6, ck_Q_ok gQ_6, ck_H_ok gH_6, ck_L_ok gL_6, gS_6 vz⟩
theorem hD_132 : xi_132.flatten.all (ck_D prog_5_method_4_code) = true := by decide +kernel
theorem hM_132 (vz : Value) : am_MOk xcl xTs xTw xfty xkr (xkz vz) xfn xm_132 := ⟨ck_D_ok hD_132, ck_G_ok gG_6, gP_6 _, ck_N_ok gN_6, ck_Q_ok gQ_6, ck_H_ok gH_6, ck_L_ok gL_6, gS_6 vz⟩
theorem hD_133 : xi_133.flatten.all (ck_D prog_5_method_5_code) = true := by decide +kernel
theorem hM_133 (vz : Value) : am_MOk xcl xTs xTw xfty xkr (xkz vz) xfn xm_133 := ⟨ck_D_ok hD_133, ck_G_ok gG_6, gP_6 _, ck_N_ok gN_6, ck_Q_ok gQ_6, ck_H_ok gH_6, ck_L_ok gL_6, gS_6 vz⟩
theorem hD_134 : xi_134.flatten.all (ck_D prog_5_method_6_code) = true := by decide +kernel
theorem hM_134 (vz : Value) : am_MOk xcl xTs xTw xfty xkr (xkz vz) xfn xm_134 := ⟨ck_D_ok hD_134, ck_G_ok gG_6, gP_6 _, ck_N_ok gN_6, ck_Q_ok gQ_6, ck_H_ok gH_6, ck_L_ok gL_6, gS_6 vz⟩
theorem hD_135 : xi_135.flatten.all (ck_D prog_5_method_7_code) = true := by decide +kernel
theorem hM_135 (vz : Value) : am_MOk xcl xTs xTw xfty xkr (xkz vz) xfn xm_135 := ⟨ck_D_ok hD_135, ck_G_ok gG_6, gP_6 _, ck_N_ok gN_6, ck_Q_ok gQ_6, ck_H_ok gH_6, ck_L_ok gL_6, gS_6 vz⟩
theorem hD_136 : xi_136.flatten.all (ck_D prog_5_method_8_code) = true := by decide +kernel
theorem hM_136 (vz : Value) : am_MOk xcl xTs xTw xfty xkr (xkz vz) xfn xm_136 := ⟨ck_D_ok hD_136, ck_G_ok gG_6, gP_6 _, ck_N_ok gN_6, ck_Q_ok gQ_6, ck_H_ok gH_6, ck_L_ok gL_6, gS_6 vz⟩
theorem hD_137 : xi_137.flatten.all (ck_D prog_2_method_1_code) = true := by decide +kernel
theorem hM_137 (vz : Value) : am_MOk xcl xTs xTw xfty xkr (xkz vz) xfn xm_137 := ⟨ck_D_ok hD_137, ck_G_ok gG_7, ck_P_ok gPi_7, ck_N_ok gN_7, ck_Q_ok gQ_7, ck_H_ok gH_7, ck_L_ok gL_7, gS_7 vz⟩
theorem hD_138 : xi_138.flatten.all (ck_D prog_2_method_2_code) = true := by decide +kernel
theorem hM_138 (vz : Value) : am_MOk xcl xTs xTw xfty xkr (xkz vz) xfn xm_138 := ⟨ck_D_ok hD_138, ck_G_ok gG_7, gP_7 _, ck_N_ok gN_7, ck_Q_ok gQ_7, ck_H_ok gH_7, ck_L_ok gL_7, gS_7 vz⟩
theorem hD_139 : xi_139.flatten.all (ck_D prog_2_method_3_code) = true := by decide +kernel
theorem hM_139 (vz : Value) : am_MOk xcl xTs xTw xfty xkr (xkz vz) xfn xm_139 := ⟨ck_D_ok hD_139, ck_G_ok gG_7, gP_7 _, ck_N_ok gN_7, ck_Q_ok gQ_7, ck_H_ok gH_7, ck_L_ok gL_7, gS_7 vz⟩
theorem hD_140 : xi_140.flatten.all (ck_D prog_2_method_4_code) = true := by decide +kernel
theorem hM_140 (vz : Value) : am_MOk xcl xTs xTw xfty xkr (xkz vz) xfn xm_140 := ⟨ck_D_ok hD_140, ck_G_ok gG_7, gP_7 _, ck_N_ok gN_7, ck_Q_ok gQ_7, ck_H_ok gH_7, ck_L_ok gL_7, gS_7 vz⟩
