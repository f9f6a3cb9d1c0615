/-! TABLES: code of RelationFinder is right. -/
theorem hD_14 : xi_14.flatten.all (ck_D prog_1_method_1_code) = true := by decide +kernel
theorem hM_14 (vz : Value) : am_MOk xcl xTs xTw xfty xkr (xkz vz) xfn xm_14 := ⟨ck_D_ok hD_14, ck_G_ok gG_1, ck_P_ok gPi_1, ck_N_ok gN_1, ck_Q_ok gQ_1, ck_H_ok gH_1, ck_L_ok gL_1, gS_1 vz⟩
theorem hD_15 : xi_15.flatten.all (ck_D prog_1_method_3_code) = true := by decide +kernel
theorem hM_15 (vz : Value) : am_MOk xcl xTs xTw xfty xkr (xkz vz) xfn xm_15 := ⟨ck_D_ok hD_15, ck_G_ok gG_1, gP_1 _, ck_N_ok gN_1, ck_Q_ok gQ_1, ck_H_ok gH_1, ck_L_ok gL_1, gS_1 vz⟩
theorem hD_16 : xi_16.flatten.all (ck_D prog_1_method_8_code) = true := by decide +kernel
theorem hM_16 (vz : Value) : am_MOk xcl xTs xTw xfty xkr (xkz vz) xfn xm_16 := ⟨ck_D_ok hD_16, ck_G_ok gG_1, gP_1 _, ck_N_ok gN_1, ck_Q_ok gQ_1, ck_H_ok gH_1, ck_L_ok gL_1, gS_1 vz⟩
theorem hD_17 : xi_17.flatten.all (ck_D prog_1_method_22_code) = true := by decide +kernel
theorem hM_17 (vz : Value) : am_MOk xcl xTs xTw xfty xkr (xkz vz) xfn xm_17 := ⟨ck_D_ok hD_17, ck_G_ok gG_1, gP_1 _, ck_N_ok gN_1, ck_Q_ok gQ_1, ck_H_ok gH_1, ck_L_ok gL_1, gS_1 vz⟩
theorem hD_18 : xi_18.flatten.all (ck_D prog_1_method_30_code) = true := by decide +kernel
theorem hM_18 (vz : Value) : am_MOk xcl xTs xTw xfty xkr (xkz vz) xfn xm_18 := ⟨ck_D_ok hD_18, ck_G_ok gG_1, gP_1 _, ck_N_ok gN_1, ck_Q_ok gQ_1, ck_H_ok gH_1, ck_L_ok gL_1, gS_1 vz⟩
theorem hD_19 : xi_19.flatten.all (ck_D prog_1_method_32_code) = true := by decide +kernel
theorem hM_19 (vz : Value) : am_MOk xcl xTs xTw xfty xkr (xkz vz) xfn xm_19 := ⟨ck_D_ok hD_19, ck_G_ok gG_1, gP_1 _, ck_N_ok gN_1, ck_Q_ok gQ_1, ck_H_ok gH_1, ck_L_ok gL_1, gS_1 vz⟩
theorem hD_20 : xi_20.flatten.all (ck_D prog_1_method_31_code) = true := by decide +kernel
theorem hM_20 (vz : Value) : am_MOk xcl xTs xTw xfty xkr (xkz vz) xfn xm_20 := ⟨ck_D_ok hD_20, ck_G_ok gG_1, gP_1 _, ck_N_ok gN_1, ck_Q_ok gQ_1, ck_H_ok gH_1, ck_L_ok gL_1, gS_1 vz⟩
theorem hD_21 : xi_21.flatten.all (ck_D prog_1_method_29_code) = true := by decide +kernel
theorem hM_21 (vz : Value) : am_MOk xcl xTs xTw xfty xkr (xkz vz) xfn xm_21 := ⟨ck_D_ok hD_21, ck_G_ok gG_1, gP_1 _, ck_N_ok gN_1, ck_Q_ok gQ_1, ck_H_ok gH_1, ck_L_ok gL_1, gS_1 vz⟩
theorem hD_22 : xi_22.flatten.all (ck_D prog_1_method_23_code) = true := by decide +kernel
theorem hM_22 (vz : Value) : am_MOk xcl xTs xTw xfty xkr (xkz vz) xfn xm_22 := ⟨ck_D_ok hD_22, ck_G_ok gG_1, gP_1 _, ck_N_ok gN_1, ck_Q_ok gQ_1, ck_H_ok gH_1, ck_L_ok gL_1, gS_1 vz⟩
theorem hD_23 : xi_23.flatten.all (ck_D prog_1_method_9_code) = true := by decide +kernel
theorem hM_23 (vz : Value) : am_MOk xcl xTs xTw xfty xkr (xkz vz) xfn xm_23 := ⟨ck_D_ok hD_23, ck_G_ok gG_1, gP_1 _, ck_N_ok gN_1, ck_Q_ok gQ_1, ck_H_ok gH_1, ck_L_ok gL_1, gS_1 vz⟩
theorem hD_24 : xi_24.flatten.all (ck_D prog_1_method_24_code) = true := by decide +kernel
theorem hM_24 (vz : Value) : am_MOk xcl xTs xTw xfty xkr (xkz vz) xfn xm_24 := ⟨ck_D_ok hD_24, ck_G_ok gG_1, gP_1 _, ck_N_ok gN_1, ck_Q_ok gQ_1, ck_H_ok gH_1, ck_L_ok gL_1, gS_1 vz⟩
theorem hD_25 : xi_25.flatten.all (ck_D prog_1_method_25_code) = true := by decide +kernel
theorem hM_25 (vz : Value) : am_MOk xcl xTs xTw xfty xkr (xkz vz) xfn xm_25 := ⟨ck_D_ok hD_25, ck_G_ok gG_1, gP_1 _, ck_N_ok gN_1, ck_Q_ok gQ_1, ck_H_ok gH_1, ck_L_ok gL_1, gS_1 vz⟩
theorem hD_26 : xi_26.flatten.all (ck_D prog_1_method_26_code) = true := by decide +kernel
theorem hM_26 (vz : Value) : am_MOk xcl xTs xTw xfty xkr (xkz vz) xfn xm_26 := ⟨ck_D_ok hD_26, ck_G_ok gG_1, gP_1 _, ck_N_ok gN_1, ck_Q_ok gQ_1, ck_H_ok gH_1, ck_L_ok gL_1, gS_1 vz⟩
theorem hD_27 : xi_27.flatten.all (ck_D prog_1_method_13_code) = true := by decide +kernel
theorem hM_27 (vz : Value) : am_MOk xcl xTs xTw xfty xkr (xkz vz) xfn xm_27 := ⟨ck_D_ok hD_27, ck_G_ok gG_1, gP_1 _, ck_N_ok gN_1, ck_Q_ok gQ_1, ck_H_ok gH_1, ck_L_ok gL_1, gS_1 vz⟩
theorem hD_28 : xi_28.flatten.all (ck_D prog_1_method_14_code) = true := by decide +kernel
theorem hM_28 (vz : Value) : am_MOk xcl xTs xTw xfty xkr (xkz vz) xfn xm_28 := ⟨ck_D_ok hD_28, ck_G_ok gG_1, gP_1 _, ck_N_ok gN_1, ck_Q_ok gQ_1, ck_H_ok gH_1, ck_L_ok gL_1, gS_1 vz⟩
theorem hD_29 : xi_29.flatten.all (ck_D prog_1_method_15_code) = true := by decide +kernel
theorem hM_29 (vz : Value) : am_MOk xcl xTs xTw xfty xkr (xkz vz) xfn xm_29 := ⟨ck_D_ok hD_29, ck_G_ok gG_1, gP_1 _, ck_N_ok gN_1, ck_Q_ok gQ_1, ck_H_ok gH_1, ck_L_ok gL_1, gS_1 vz⟩
theorem hD_30 : xi_30.flatten.all (ck_D prog_1_method_19_code) = true := by decide +kernel
theorem hM_30 (vz : Value) : am_MOk xcl xTs xTw xfty xkr (xkz vz) xfn xm_30 := ⟨ck_D_ok hD_30, ck_G_ok gG_1, gP_1 _, ck_N_ok gN_1, ck_Q_ok gQ_1, ck_H_ok gH_1, ck_L_ok gL_1, gS_1 vz⟩
theorem hD_31 : xi_31.flatten.all (ck_D prog_1_method_21_code) = true := by decide +kernel
theorem hM_31 (vz : Value) : am_MOk xcl xTs xTw xfty xkr (xkz vz) xfn xm_31 := ⟨ck_D_ok hD_31, ck_G_ok gG_1, gP_1 _, ck_N_ok gN_1, ck_Q_ok gQ_1, ck_H_ok gH_1, ck_L_ok gL_1, gS_1 vz⟩
theorem hD_32 : xi_32.flatten.all (ck_D prog_1_method_2_code) = true := by decide +kernel
theorem hM_32 (vz : Value) : am_MOk xcl xTs xTw xfty xkr (xkz vz) xfn xm_32 := ⟨ck_D_ok hD_32, ck_G_ok gG_1, gP_1 _, ck_N_ok gN_1, ck_Q_ok gQ_1, ck_H_ok gH_1, ck_L_ok gL_1, gS_1 vz⟩
theorem hD_33 : xi_33.flatten.all (ck_D prog_1_method_4_code) = true := by decide +kernel
theorem hM_33 (vz : Value) : am_MOk xcl xTs xTw xfty xkr (xkz vz) xfn xm_33 := ⟨ck_D_ok hD_33, ck_G_ok gG_1, gP_1 _, ck_N_ok gN_1, ck_Q_ok gQ_1, ck_H_ok gH_1, ck_L_ok gL_1, gS_1 vz⟩
theorem hD_34 : xi_34.flatten.all (ck_D prog_1_method_33_code) = true := by decide +kernel
theorem hM_34 (vz : Value) : am_MOk xcl xTs xTw xfty xkr (xkz vz) xfn xm_34 := ⟨ck_D_ok hD_34, ck_G_ok gG_1, gP_1 _, ck_N_ok gN_1, ck_Q_ok gQ_1, ck_H_ok gH_1, ck_L_ok gL_1, gS_1 vz⟩
theorem hD_35 : xi_35.flatten.all (ck_D prog_1_method_5_code) = true := by decide +kernel
theorem hM_35 (vz : Value) : am_MOk xcl xTs xTw xfty xkr (xkz vz) xfn xm_35 := ⟨ck_D_ok hD_35, ck_G_ok gG_1, gP_1 _, ck_N_ok gN_1, ck_Q_ok gQ_1, ck_H_ok gH_1, ck_L_ok gL_1, gS_1 vz⟩
theorem hD_36 : xi_36.flatten.all (ck_D prog_1_method_6_code) = true := by decide +kernel
theorem hM_36 (vz : Value) : am_MOk xcl xTs xTw xfty xkr (xkz vz) xfn xm_36 := ⟨ck_D_ok hD_36, ck_G_ok gG_1, gP_1 _, ck_N_ok gN_1, ck_Q_ok gQ_1, ck_H_ok gH_1, ck_L_ok gL_1, gS_1 vz⟩
theorem hD_37 : xi_37.flatten.all (ck_D prog_1_method_7_code) = true := by decide +kernel
theorem hM_37 (vz : Value) : am_MOk xcl xTs xTw xfty xkr (xkz vz) xfn xm_37 := ⟨ck_D_ok hD_37, ck_G_ok gG_1, gP_1 _, ck_N_ok gN_1, ck_Q_ok gQ_1, ck_H_ok gH_1, ck_L_ok gL_1, gS_1 vz⟩
theorem hD_38 : xi_38.flatten.all (ck_D prog_1_method_10_code) = true := by decide +kernel
theorem hM_38 (vz : Value) : am_MOk xcl xTs xTw xfty xkr (xkz vz) xfn xm_38 := ⟨ck_D_ok hD_38, ck_G_ok gG_1, gP_1 _, ck_N_ok gN_1, ck_Q_ok gQ_1, ck_H_ok gH_1, ck_L_ok gL_1, gS_1 vz⟩
theorem hD_39 : xi_39.flatten.all (ck_D prog_1_method_11_code) = true := by decide +kernel
theorem hM_39 (vz : Value) : am_MOk xcl xTs xTw xfty xkr (xkz vz) xfn xm_39 := ⟨ck_D_ok hD_39, ck_G_ok gG_1, gP_1 _, ck_N_ok gN_1, ck_Q_ok gQ_1, ck_H_ok gH_1, ck_L_ok gL_1, gS_1 vz⟩
theorem hD_40 : xi_40.flatten.all (ck_D prog_1_method_12_code) = true := by decide +kernel
theorem hM_40 (vz : Value) : am_MOk xcl xTs xTw xfty xkr (xkz vz) xfn xm_40 := ⟨ck_D_ok hD_40, ck_G_ok gG_1, gP_1 _, ck_N_ok gN_1, ck_Q_ok gQ_1, ck_H_ok gH_1, ck_L_ok gL_1, gS_1 vz⟩
theorem hD_41 : xi_41.flatten.all (ck_D prog_1_method_16_code) = true := by decide +kernel
theorem hM_41 (vz : Value) : am_MOk xcl xTs xTw xfty xkr (xkz vz) xfn xm_41 := ⟨ck_D_ok hD_41, ck_G_ok gG_1, gP_1 _, ck_N_ok gN_1, ck_Q_ok gQ_1, ck_H_ok gH_1, ck_L_ok gL_1, gS_1 vz⟩
theorem hD_42 : xi_42.flatten.all (ck_D prog_1_method_17_code) = true := by decide +kernel
theorem hM_42 (vz : Value) : am_MOk xcl xTs xTw xfty xkr (xkz vz) xfn xm_42 := ⟨ck_D_ok hD_42, ck_G_ok gG_1, gP_1 _, ck_N_ok gN_1, ck_Q_ok gQ_1, ck_H_ok gH_1, ck_L_ok gL_1, gS_1 vz⟩
theorem hD_43 : xi_43.flatten.all (ck_D prog_1_method_18_code) = true := by decide +kernel
theorem hM_43 (vz : Value) : am_MOk xcl xTs xTw xfty xkr (xkz vz) xfn xm_43 := ⟨ck_D_ok hD_43, ck_G_ok gG_1, gP_1 _, ck_N_ok gN_1, ck_Q_ok gQ_1, ck_H_ok gH_1, ck_L_ok gL_1, gS_1 vz⟩
theorem hD_44 : xi_44.flatten.all (ck_D prog_1_method_27_code) = true := by decide +kernel
theorem hM_44 (vz : Value) : am_MOk xcl xTs xTw xfty xkr (xkz vz) xfn xm_44 := ⟨ck_D_ok hD_44, ck_G_ok gG_1, gP_1 _, ck_N_ok gN_1, ck_Q_ok gQ_1, ck_H_ok gH_1, ck_L_ok gL_1, gS_1 vz⟩
theorem hD_45 : xi_45.flatten.all (ck_D prog_1_method_28_code) = true := by decide +kernel
theorem hM_45 (vz : Value) : am_MOk xcl xTs xTw xfty xkr (xkz vz) xfn xm_45 := ⟨ck_D_ok hD_45, ck_G_ok gG_1, gP_1 _, ck_N_ok gN_1, ck_Q_ok gQ_1, ck_H_ok gH_1, ck_L_ok gL_1, gS_1 vz⟩
theorem hD_46 : xi_46.flatten.all (ck_D prog_1_method_20_code) = true := by decide +kernel
theorem hM_46 (vz : Value) : am_MOk xcl xTs xTw xfty xkr (xkz vz) xfn xm_46 := ⟨ck_D_ok hD_46, ck_G_ok gG_1, gP_1 _, ck_N_ok gN_1, ck_Q_ok gQ_1, ck_H_ok gH_1, ck_L_ok gL_1, gS_1 vz⟩
