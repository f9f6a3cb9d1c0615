/-! TABLES: code of Parser is right. -/
theorem hD_72 : xi_72.flatten.all (ck_D prog_4_method_1_code) = true := by decide +kernel
theorem hM_72 (vz : Value) : am_MOk xcl xTs xTw xfty xkr (xkz vz) xfn xm_72 := ⟨ck_D_ok hD_72, ck_G_ok gG_4, ck_P_ok gPi_4, ck_N_ok gN_4, ck_Q_ok gQ_4, ck_H_ok gH_4, ck_L_ok gL_4, gS_4 vz⟩
theorem hD_73 : xi_73.flatten.all (ck_D prog_4_method_2_code) = true := by decide +kernel
theorem hM_73 (vz : Value) : am_MOk xcl xTs xTw xfty xkr (xkz vz) xfn xm_73 := ⟨ck_D_ok hD_73, ck_G_ok gG_4, gP_4 _, ck_N_ok gN_4, ck_Q_ok gQ_4, ck_H_ok gH_4, ck_L_ok gL_4, gS_4 vz⟩
theorem hD_74 : xi_74.flatten.all (ck_D prog_4_method_3_code) = true := by decide +kernel
theorem hM_74 (vz : Value) : am_MOk xcl xTs xTw xfty xkr (xkz vz) xfn xm_74 := ⟨ck_D_ok hD_74, ck_G_ok gG_4, gP_4 _, ck_N_ok gN_4, ck_Q_ok gQ_4, ck_H_ok gH_4, ck_L_ok gL_4, gS_4 vz⟩
theorem hD_75 : xi_75.flatten.all (ck_D prog_4_method_5_code) = true := by decide +kernel
theorem hM_75 (vz : Value) : am_MOk xcl xTs xTw xfty xkr (xkz vz) xfn xm_75 := ⟨ck_D_ok hD_75, ck_G_ok gG_4, gP_4 _, ck_N_ok gN_4, ck_Q_ok gQ_4, ck_H_ok gH_4, ck_L_ok gL_4, gS_4 vz⟩
theorem hD_76 : xi_76.flatten.all (ck_D prog_4_method_13_code) = true := by decide +kernel
theorem hM_76 (vz : Value) : am_MOk xcl xTs xTw xfty xkr (xkz vz) xfn xm_76 := ⟨ck_D_ok hD_76, ck_G_ok gG_4, gP_4 _, ck_N_ok gN_4, ck_Q_ok gQ_4, ck_H_ok gH_4, ck_L_ok gL_4, gS_4 vz⟩
theorem hD_77 : xi_77.flatten.all (ck_D prog_4_method_14_code) = true := by decide +kernel
theorem hM_77 (vz : Value) : am_MOk xcl xTs xTw xfty xkr (xkz vz) xfn xm_77 := ⟨ck_D_ok hD_77, ck_G_ok gG_4, gP_4 _, ck_N_ok gN_4, ck_Q_ok gQ_4, ck_H_ok gH_4, ck_L_ok gL_4, gS_4 vz⟩
theorem hD_78 : xi_78.flatten.all (ck_D prog_4_method_9_code) = true := by decide +kernel
theorem hM_78 (vz : Value) : am_MOk xcl xTs xTw xfty xkr (xkz vz) xfn xm_78 := ⟨ck_D_ok hD_78, ck_G_ok gG_4, gP_4 _, ck_N_ok gN_4, ck_Q_ok gQ_4, ck_H_ok gH_4, ck_L_ok gL_4, gS_4 vz⟩
theorem hD_79 : xi_79.flatten.all (ck_D prog_4_method_7_code) = true := by decide +kernel
theorem hM_79 (vz : Value) : am_MOk xcl xTs xTw xfty xkr (xkz vz) xfn xm_79 := ⟨ck_D_ok hD_79, ck_G_ok gG_4, gP_4 _, ck_N_ok gN_4, ck_Q_ok gQ_4, ck_H_ok gH_4, ck_L_ok gL_4, gS_4 vz⟩
theorem hD_80 : xi_80.flatten.all (ck_D prog_4_method_8_code) = true := by decide +kernel
theorem hM_80 (vz : Value) : am_MOk xcl xTs xTw xfty xkr (xkz vz) xfn xm_80 := ⟨ck_D_ok hD_80, ck_G_ok gG_4, gP_4 _, ck_N_ok gN_4, ck_Q_ok gQ_4, ck_H_ok gH_4, ck_L_ok gL_4, gS_4 vz⟩
theorem hD_81 : xi_81.flatten.all (ck_D prog_4_method_15_code) = true := by decide +kernel
theorem hM_81 (vz : Value) : am_MOk xcl xTs xTw xfty xkr (xkz vz) xfn xm_81 := ⟨ck_D_ok hD_81, ck_G_ok gG_4, gP_4 _, ck_N_ok gN_4, ck_Q_ok gQ_4, ck_H_ok gH_4, ck_L_ok gL_4, gS_4 vz⟩
theorem hD_82 : xi_82.flatten.all (ck_D prog_4_method_6_code) = true := by decide +kernel
theorem hM_82 (vz : Value) : am_MOk xcl xTs xTw xfty xkr (xkz vz) xfn xm_82 := ⟨ck_D_ok hD_82, ck_G_ok gG_4, gP_4 _, ck_N_ok gN_4, ck_Q_ok gQ_4, ck_H_ok gH_4, ck_L_ok gL_4, gS_4 vz⟩
theorem hD_83 : xi_83.flatten.all (ck_D prog_4_method_4_code) = true := by decide +kernel
theorem hM_83 (vz : Value) : am_MOk xcl xTs xTw xfty xkr (xkz vz) xfn xm_83 := ⟨ck_D_ok hD_83, ck_G_ok gG_4, gP_4 _, ck_N_ok gN_4, ck_Q_ok gQ_4, ck_H_ok gH_4, ck_L_ok gL_4, gS_4 vz⟩
theorem hD_84 : xi_84.flatten.all (ck_D prog_4_method_10_code) = true := by decide +kernel
theorem hM_84 (vz : Value) : am_MOk xcl xTs xTw xfty xkr (xkz vz) xfn xm_84 := ⟨ck_D_ok hD_84, ck_G_ok gG_4, gP_4 _, ck_N_ok gN_4, ck_Q_ok gQ_4, ck_H_ok gH_4, ck_L_ok gL_4, gS_4 vz⟩
theorem hD_85 : xi_85.flatten.all (ck_D prog_4_method_11_code) = true := by decide +kernel
theorem hM_85 (vz : Value) : am_MOk xcl xTs xTw xfty xkr (xkz vz) xfn xm_85 := ⟨ck_D_ok hD_85, ck_G_ok gG_4, gP_4 _, ck_N_ok gN_4, ck_Q_ok gQ_4, ck_H_ok gH_4, ck_L_ok gL_4, gS_4 vz⟩
theorem hD_86 : xi_86.flatten.all (ck_D prog_4_method_12_code) = true := by decide +kernel
theorem hM_86 (vz : Value) : am_MOk xcl xTs xTw xfty xkr (xkz vz) xfn xm_86 := ⟨ck_D_ok hD_86, ck_G_ok gG_4, gP_4 _, ck_N_ok gN_4, ck_Q_ok gQ_4, ck_H_ok gH_4, ck_L_ok gL_4, gS_4 vz⟩
theorem hD_87 : xi_87.flatten.all (ck_D prog_4_method_17_code) = true := by decide +kernel
theorem hM_87 (vz : Value) : am_MOk xcl xTs xTw xfty xkr (xkz vz) xfn xm_87 := ⟨ck_D_ok hD_87, ck_G_ok gG_4, gP_4 _, ck_N_ok gN_4, ck_Q_ok gQ_4, ck_H_ok gH_4, ck_L_ok gL_4, gS_4 vz⟩
theorem hD_88 : xi_88.flatten.all (ck_D prog_4_method_18_code) = true := by decide +kernel
theorem hM_88 (vz : Value) : am_MOk xcl xTs xTw xfty xkr (xkz vz) xfn xm_88 := ⟨ck_D_ok hD_88, ck_G_ok gG_4, gP_4 _, ck_N_ok gN_4, ck_Q_ok gQ_4, ck_H_ok gH_4, ck_L_ok gL_4, gS_4 vz⟩
theorem hD_89 : xi_89.flatten.all (ck_D prog_4_method_16_code) = true := by decide +kernel
theorem hM_89 (vz : Value) : am_MOk xcl xTs xTw xfty xkr (xkz vz) xfn xm_89 := ⟨ck_D_ok hD_89, ck_G_ok gG_4, gP_4 _, ck_N_ok gN_4, ck_Q_ok gQ_4, ck_H_ok gH_4, ck_L_ok gL_4, gS_4 vz⟩
theorem hD_90 : xi_90.flatten.all (ck_D prog_4_method_19_code) = true := by decide +kernel
theorem hM_90 (vz : Value) : am_MOk xcl xTs xTw xfty xkr (xkz vz) xfn xm_90 := ⟨ck_D_ok hD_90, ck_G_ok gG_4, gP_4 _, ck_N_ok gN_4, ck_Q_ok gQ_4, ck_H_ok gH_4, ck_L_ok gL_4, gS_4 vz⟩
theorem hD_91 : xi_91.flatten.all (ck_D prog_4_method_20_code) = true := by decide +kernel
theorem hM_91 (vz : Value) : am_MOk xcl xTs xTw xfty xkr (xkz vz) xfn xm_91 := ⟨ck_D_ok hD_91, ck_G_ok gG_4, gP_4 _, ck_N_ok gN_4, ck_Q_ok gQ_4, ck_H_ok gH_4, ck_L_ok gL_4, gS_4 vz⟩
theorem hD_92 : xi_92.flatten.all (ck_D prog_4_method_25_code) = true := by decide +kernel
theorem hM_92 (vz : Value) : am_MOk xcl xTs xTw xfty xkr (xkz vz) xfn xm_92 := ⟨ck_D_ok hD_92, ck_G_ok gG_4, gP_4 _, ck_N_ok gN_4, ck_Q_ok gQ_4, ck_H_ok gH_4, ck_L_ok gL_4, gS_4 vz⟩
theorem hD_93 : xi_93.flatten.all (ck_D prog_4_method_27_code) = true := by decide +kernel
theorem hM_93 (vz : Value) : am_MOk xcl xTs xTw xfty xkr (xkz vz) xfn xm_93 := ⟨ck_D_ok hD_93, ck_G_ok gG_4, gP_4 _, ck_N_ok gN_4, ck_Q_ok gQ_4, ck_H_ok gH_4, ck_L_ok gL_4, gS_4 vz⟩
theorem hD_94 : xi_94.flatten.all (ck_D prog_4_method_28_code) = true := by decide +kernel
theorem hM_94 (vz : Value) : am_MOk xcl xTs xTw xfty xkr (xkz vz) xfn xm_94 := ⟨ck_D_ok hD_94, ck_G_ok gG_4, gP_4 _, ck_N_ok gN_4, ck_Q_ok gQ_4, ck_H_ok gH_4, ck_L_ok gL_4, gS_4 vz⟩
theorem hD_95 : xi_95.flatten.all (ck_D prog_4_method_26_code) = true := by decide +kernel
theorem hM_95 (vz : Value) : am_MOk xcl xTs xTw xfty xkr (xkz vz) xfn xm_95 := ⟨ck_D_ok hD_95, ck_G_ok gG_4, gP_4 _, ck_N_ok gN_4, ck_Q_ok gQ_4, ck_H_ok gH_4, ck_L_ok gL_4, gS_4 vz⟩
theorem hD_96 : xi_96.flatten.all (ck_D prog_4_method_29_code) = true := by decide +kernel
theorem hM_96 (vz : Value) : am_MOk xcl xTs xTw xfty xkr (xkz vz) xfn xm_96 := ⟨ck_D_ok hD_96, ck_G_ok gG_4, gP_4 _, ck_N_ok gN_4, ck_Q_ok gQ_4, ck_H_ok gH_4, ck_L_ok gL_4, gS_4 vz⟩
theorem hD_97 : xi_97.flatten.all (ck_D prog_4_method_21_code) = true := by decide +kernel
theorem hM_97 (vz : Value) : am_MOk xcl xTs xTw xfty xkr (xkz vz) xfn xm_97 := ⟨ck_D_ok hD_97, ck_G_ok gG_4, gP_4 _, ck_N_ok gN_4, ck_Q_ok gQ_4, ck_H_ok gH_4, ck_L_ok gL_4, gS_4 vz⟩
theorem hD_98 : xi_98.flatten.all (ck_D prog_4_method_22_code) = true := by decide +kernel
theorem hM_98 (vz : Value) : am_MOk xcl xTs xTw xfty xkr (xkz vz) xfn xm_98 := ⟨ck_D_ok hD_98, ck_G_ok gG_4, gP_4 _, ck_N_ok gN_4, ck_Q_ok gQ_4, ck_H_ok gH_4, ck_L_ok gL_4, gS_4 vz⟩
theorem hD_99 : xi_99.flatten.all (ck_D prog_4_method_23_code) = true := by decide +kernel
theorem hM_99 (vz : Value) : am_MOk xcl xTs xTw xfty xkr (xkz vz) xfn xm_99 := ⟨ck_D_ok hD_99, ck_G_ok gG_4, gP_4 _, ck_N_ok gN_4, ck_Q_ok gQ_4, ck_H_ok gH_4, ck_L_ok gL_4, gS_4 vz⟩
theorem hD_100 : xi_100.flatten.all (ck_D prog_4_method_24_code) = true := by decide +kernel
theorem hM_100 (vz : Value) : am_MOk xcl xTs xTw xfty xkr (xkz vz) xfn xm_100 := ⟨ck_D_ok hD_100, ck_G_ok gG_4, gP_4 _, ck_N_ok gN_4, ck_Q_ok gQ_4, ck_H_ok gH_4, ck_L_ok gL_4, gS_4 vz⟩
