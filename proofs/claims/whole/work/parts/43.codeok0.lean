/-! TABLES: code of law and JDK is right. -/
theorem hD_0_0 : ((xi_0.drop 0).take 3).flatten.all (ck_D code) = true := by decide +kernel
theorem hD_0_1 : ((xi_0.drop 3).take 3).flatten.all (ck_D code) = true := by decide +kernel
theorem hD_0_2 : ((xi_0.drop 6).take 3).flatten.all (ck_D code) = true := by decide +kernel
theorem hD_0_3 : ((xi_0.drop 9).take 3).flatten.all (ck_D code) = true := by decide +kernel
theorem hD_0_4 : ((xi_0.drop 12).take 3).flatten.all (ck_D code) = true := by decide +kernel
theorem hD_0_5 : ((xi_0.drop 15).take 3).flatten.all (ck_D code) = true := by decide +kernel
theorem hD_0_6 : ((xi_0.drop 18).take 3).flatten.all (ck_D code) = true := by decide +kernel
theorem hD_0_7 : ((xi_0.drop 21).take 3).flatten.all (ck_D code) = true := by decide +kernel
theorem hD_0_8 : ((xi_0.drop 24).take 3).flatten.all (ck_D code) = true := by decide +kernel
theorem hD_0_9 : ((xi_0.drop 27).take 3).flatten.all (ck_D code) = true := by decide +kernel
theorem hD_0_10 : ((xi_0.drop 30).take 3).flatten.all (ck_D code) = true := by decide +kernel
theorem hD_0_11 : ((xi_0.drop 33).take 3).flatten.all (ck_D code) = true := by decide +kernel
theorem hD_0_12 : ((xi_0.drop 36).take 3).flatten.all (ck_D code) = true := by decide +kernel
theorem hD_0_13 : ((xi_0.drop 39).take 3).flatten.all (ck_D code) = true := by decide +kernel
theorem hD_0_14 : ((xi_0.drop 42).take 3).flatten.all (ck_D code) = true := by decide +kernel
theorem hD_0_15 : ((xi_0.drop 45).take 3).flatten.all (ck_D code) = true := by decide +kernel
theorem hD_0_16 : ((xi_0.drop 48).take 3).flatten.all (ck_D code) = true := by decide +kernel
theorem hD_0_17 : ((xi_0.drop 51).take 3).flatten.all (ck_D code) = true := by decide +kernel
theorem hD_0_18 : ((xi_0.drop 54).take 3).flatten.all (ck_D code) = true := by decide +kernel
theorem hD_0_19 : ((xi_0.drop 57).take 3).flatten.all (ck_D code) = true := by decide +kernel
theorem hD_0_20 : ((xi_0.drop 60).take 3).flatten.all (ck_D code) = true := by decide +kernel
theorem hD_0_21 : ((xi_0.drop 63).take 3).flatten.all (ck_D code) = true := by decide +kernel
theorem hD_0 : xi_0.flatten.all (ck_D code) = true := by
  have e : xi_0 = (xi_0.drop 0).take 3 ++ ((xi_0.drop 3).take 3 ++ ((xi_0.drop 6).take 3 ++ ((xi_0.drop 9).take 3 ++ ((xi_0.drop 12).take 3 ++ ((xi_0.drop 15).take 3 ++ ((xi_0.drop 18).take 3 ++ ((xi_0.drop 21).take 3 ++ ((xi_0.drop 24).take 3 ++ ((xi_0.drop 27).take 3 ++ ((xi_0.drop 30).take 3 ++ ((xi_0.drop 33).take 3 ++ ((xi_0.drop 36).take 3 ++ ((xi_0.drop 39).take 3 ++ ((xi_0.drop 42).take 3 ++ ((xi_0.drop 45).take 3 ++ ((xi_0.drop 48).take 3 ++ ((xi_0.drop 51).take 3 ++ ((xi_0.drop 54).take 3 ++ ((xi_0.drop 57).take 3 ++ ((xi_0.drop 60).take 3 ++ ((xi_0.drop 63).take 3))))))))))))))))))))) := rfl
  rw [e]
  simp only [List.flatten_append, List.all_append, Bool.and_eq_true]
  exact ⟨hD_0_0, hD_0_1, hD_0_2, hD_0_3, hD_0_4, hD_0_5, hD_0_6, hD_0_7, hD_0_8, hD_0_9, hD_0_10, hD_0_11, hD_0_12, hD_0_13, hD_0_14, hD_0_15, hD_0_16, hD_0_17, hD_0_18, hD_0_19, hD_0_20, hD_0_21⟩
theorem hM_0 (vz : Value) : am_MOk xcl xTs xTw xfty xkr (xkz vz) xfn xm_0 := ⟨ck_D_ok hD_0, ck_G_ok gG_0, gP_0 _, ck_N_ok gN_0, ck_Q_ok gQ_0, ck_H_ok gH_0, ck_L_ok gL_0, gS_0 vz⟩
theorem hD_1 : xi_1.flatten.all (ck_D method_2_code) = true := by decide +kernel
theorem hM_1 (vz : Value) : am_MOk xcl xTs xTw xfty xkr (xkz vz) xfn xm_1 := ⟨ck_D_ok hD_1, ck_G_ok gG_0, gP_0 _, ck_N_ok gN_0, ck_Q_ok gQ_0, ck_H_ok gH_0, ck_L_ok gL_0, gS_0 vz⟩
theorem hD_2 : xi_2.flatten.all (ck_D method_3_code) = true := by decide +kernel
theorem hM_2 (vz : Value) : am_MOk xcl xTs xTw xfty xkr (xkz vz) xfn xm_2 := ⟨ck_D_ok hD_2, ck_G_ok gG_0, gP_0 _, ck_N_ok gN_0, ck_Q_ok gQ_0, ck_H_ok gH_0, ck_L_ok gL_0, gS_0 vz⟩
theorem hD_3 : xi_3.flatten.all (ck_D method_4_code) = true := by decide +kernel
theorem hM_3 (vz : Value) : am_MOk xcl xTs xTw xfty xkr (xkz vz) xfn xm_3 := ⟨ck_D_ok hD_3, ck_G_ok gG_0, gP_0 _, ck_N_ok gN_0, ck_Q_ok gQ_0, ck_H_ok gH_0, ck_L_ok gL_0, gS_0 vz⟩
theorem hD_4 : xi_4.flatten.all (ck_D method_5_code) = true := by decide +kernel
theorem hM_4 (vz : Value) : am_MOk xcl xTs xTw xfty xkr (xkz vz) xfn xm_4 := ⟨ck_D_ok hD_4, ck_G_ok gG_0, gP_0 _, ck_N_ok gN_0, ck_Q_ok gQ_0, ck_H_ok gH_0, ck_L_ok gL_0, gS_0 vz⟩
theorem hD_5 : xi_5.flatten.all (ck_D method_6_code) = true := by decide +kernel
theorem hM_5 (vz : Value) : am_MOk xcl xTs xTw xfty xkr (xkz vz) xfn xm_5 := ⟨ck_D_ok hD_5, ck_G_ok gG_0, gP_0 _, ck_N_ok gN_0, ck_Q_ok gQ_0, ck_H_ok gH_0, ck_L_ok gL_0, gS_0 vz⟩
theorem hD_6 : xi_6.flatten.all (ck_D method_7_code) = true := by decide +kernel
theorem hM_6 (vz : Value) : am_MOk xcl xTs xTw xfty xkr (xkz vz) xfn xm_6 := ⟨ck_D_ok hD_6, ck_G_ok gG_0, gP_0 _, ck_N_ok gN_0, ck_Q_ok gQ_0, ck_H_ok gH_0, ck_L_ok gL_0, gS_0 vz⟩
theorem hD_7 : xi_7.flatten.all (ck_D method_8_code) = true := by decide +kernel
theorem hM_7 (vz : Value) : am_MOk xcl xTs xTw xfty xkr (xkz vz) xfn xm_7 := ⟨ck_D_ok hD_7, ck_G_ok gG_0, gP_0 _, ck_N_ok gN_0, ck_Q_ok gQ_0, ck_H_ok gH_0, ck_L_ok gL_0, gS_0 vz⟩
theorem hD_8 : xi_8.flatten.all (ck_D method_9_code) = true := by decide +kernel
theorem hM_8 (vz : Value) : am_MOk xcl xTs xTw xfty xkr (xkz vz) xfn xm_8 := ⟨ck_D_ok hD_8, ck_G_ok gG_0, gP_0 _, ck_N_ok gN_0, ck_Q_ok gQ_0, ck_H_ok gH_0, ck_L_ok gL_0, gS_0 vz⟩
theorem hD_9 : xi_9.flatten.all (ck_D method_10_code) = true := by decide +kernel
theorem hM_9 (vz : Value) : am_MOk xcl xTs xTw xfty xkr (xkz vz) xfn xm_9 := ⟨ck_D_ok hD_9, ck_G_ok gG_0, gP_0 _, ck_N_ok gN_0, ck_Q_ok gQ_0, ck_H_ok gH_0, ck_L_ok gL_0, gS_0 vz⟩
theorem hD_10 : xi_10.flatten.all (ck_D method_11_code) = true := by decide +kernel
theorem hM_10 (vz : Value) : am_MOk xcl xTs xTw xfty xkr (xkz vz) xfn xm_10 := ⟨ck_D_ok hD_10, ck_G_ok gG_0, gP_0 _, ck_N_ok gN_0, ck_Q_ok gQ_0, ck_H_ok gH_0, ck_L_ok gL_0, gS_0 vz⟩
theorem hD_11 : xi_11.flatten.all (ck_D method_12_code) = true := by decide +kernel
theorem hM_11 (vz : Value) : am_MOk xcl xTs xTw xfty xkr (xkz vz) xfn xm_11 := ⟨ck_D_ok hD_11, ck_G_ok gG_0, gP_0 _, ck_N_ok gN_0, ck_Q_ok gQ_0, ck_H_ok gH_0, ck_L_ok gL_0, gS_0 vz⟩
theorem hD_12 : xi_12.flatten.all (ck_D method_13_code) = true := by decide +kernel
theorem hM_12 (vz : Value) : am_MOk xcl xTs xTw xfty xkr (xkz vz) xfn xm_12 := ⟨ck_D_ok hD_12, ck_G_ok gG_0, gP_0 _, ck_N_ok gN_0, ck_Q_ok gQ_0, ck_H_ok gH_0, ck_L_ok gL_0, gS_0 vz⟩
theorem hD_13 : xi_13.flatten.all (ck_D method_14_code) = true := by decide +kernel
theorem hM_13 (vz : Value) : am_MOk xcl xTs xTw xfty xkr (xkz vz) xfn xm_13 := ⟨ck_D_ok hD_13, ck_G_ok gG_0, gP_0 _, ck_N_ok gN_0, ck_Q_ok gQ_0, ck_H_ok gH_0, ck_L_ok gL_0, gS_0 vz⟩
theorem hD_243 : xi_243.flatten.all (ck_D prog_19_method_54_code) = true := by decide +kernel
theorem hM_243 (vz : Value) : am_MOk xcl xTs xTw xfty xkr (xkz vz) xfn (xm_243 vz) := ⟨ck_D_ok hD_243, ck_G_ok gG_9, gP_9 _, ck_N_ok gN_9, ck_Q_ok gQ_9, ck_H_ok gH_9, ck_L_ok gL_9, gS_9 vz⟩
theorem hD_244 : xi_244.flatten.all (ck_D prog_19_method_152_code) = true := by decide +kernel
theorem hM_244 (vz : Value) : am_MOk xcl xTs xTw xfty xkr (xkz vz) xfn (xm_244 vz) := ⟨ck_D_ok hD_244, ck_G_ok gG_9, gP_9 _, ck_N_ok gN_9, ck_Q_ok gQ_9, ck_H_ok gH_9, ck_L_ok gL_9, gS_9 vz⟩
theorem hD_245 : xi_245.flatten.all (ck_D prog_19_method_56_code) = true := by decide +kernel
theorem hM_245 (vz : Value) : am_MOk xcl xTs xTw xfty xkr (xkz vz) xfn (xm_245 vz) := ⟨ck_D_ok hD_245, ck_G_ok gG_9, gP_9 _, ck_N_ok gN_9, ck_Q_ok gQ_9, ck_H_ok gH_9, ck_L_ok gL_9, gS_9 vz⟩
theorem hD_246 : xi_246.flatten.all (ck_D prog_19_method_154_code) = true := by decide +kernel
theorem hM_246 (vz : Value) : am_MOk xcl xTs xTw xfty xkr (xkz vz) xfn (xm_246 vz) := ⟨ck_D_ok hD_246, ck_G_ok gG_9, gP_9 _, ck_N_ok gN_9, ck_Q_ok gQ_9, ck_H_ok gH_9, ck_L_ok gL_9, gS_9 vz⟩
theorem hD_247 : xi_247.flatten.all (ck_D prog_20_method_2_code) = true := by decide +kernel
theorem hM_247 (vz : Value) : am_MOk xcl xTs xTw xfty xkr (xkz vz) xfn xm_247 := ⟨ck_D_ok hD_247, ck_G_ok gG_10, gP_10 _, ck_N_ok gN_10, ck_Q_ok gQ_10, ck_H_ok gH_10, ck_L_ok gL_10, gS_10 vz⟩
theorem hD_248 : xi_248.flatten.all (ck_D prog_19_method_155_code) = true := by decide +kernel
theorem hM_248 (vz : Value) : am_MOk xcl xTs xTw xfty xkr (xkz vz) xfn (xm_248 vz) := ⟨ck_D_ok hD_248, ck_G_ok gG_9, gP_9 _, ck_N_ok gN_9, ck_Q_ok gQ_9, ck_H_ok gH_9, ck_L_ok gL_9, gS_9 vz⟩
theorem hD_249 : xi_249.flatten.all (ck_D prog_26_method_11_code) = true := by decide +kernel
theorem hM_249 (vz : Value) : am_MOk xcl xTs xTw xfty xkr (xkz vz) xfn xm_249 := ⟨ck_D_ok hD_249, ck_G_ok gG_11, gP_11 _, ck_N_ok gN_11, ck_Q_ok gQ_11, ck_H_ok gH_11, ck_L_ok gL_11, gS_11 vz⟩
theorem hD_250 : xi_250.flatten.all (ck_D prog_21_method_83_code) = true := by decide +kernel
theorem hM_250 (vz : Value) : am_MOk xcl xTs xTw xfty xkr (xkz vz) xfn xm_250 := ⟨ck_D_ok hD_250, ck_G_ok gG_12, gP_12 _, ck_N_ok gN_12, ck_Q_ok gQ_12, ck_H_ok gH_12, ck_L_ok gL_12, gS_12 vz⟩
theorem hD_251 : xi_251.flatten.all (ck_D prog_21_method_91_code) = true := by decide +kernel
theorem hM_251 (vz : Value) : am_MOk xcl xTs xTw xfty xkr (xkz vz) xfn xm_251 := ⟨ck_D_ok hD_251, ck_G_ok gG_12, gP_12 _, ck_N_ok gN_12, ck_Q_ok gQ_12, ck_H_ok gH_12, ck_L_ok gL_12, gS_12 vz⟩
theorem hD_252 : xi_252.flatten.all (ck_D prog_21_method_6_code) = true := by decide +kernel
theorem hM_252 (vz : Value) : am_MOk xcl xTs xTw xfty xkr (xkz vz) xfn xm_252 := ⟨ck_D_ok hD_252, ck_G_ok gG_12, gP_12 _, ck_N_ok gN_12, ck_Q_ok gQ_12, ck_H_ok gH_12, ck_L_ok gL_12, gS_12 vz⟩
theorem hD_253 : xi_253.flatten.all (ck_D prog_21_method_5_code) = true := by decide +kernel
theorem hM_253 (vz : Value) : am_MOk xcl xTs xTw xfty xkr (xkz vz) xfn xm_253 := ⟨ck_D_ok hD_253, ck_G_ok gG_12, gP_12 _, ck_N_ok gN_12, ck_Q_ok gQ_12, ck_H_ok gH_12, ck_L_ok gL_12, gS_12 vz⟩
theorem hD_254 : xi_254.flatten.all (ck_D prog_19_method_79_code) = true := by decide +kernel
theorem hM_254 (vz : Value) : am_MOk xcl xTs xTw xfty xkr (xkz vz) xfn (xm_254 vz) := ⟨ck_D_ok hD_254, ck_G_ok gG_9, gP_9 _, ck_N_ok gN_9, ck_Q_ok gQ_9, ck_H_ok gH_9, ck_L_ok gL_9, gS_9 vz⟩
theorem hD_255 : xi_255.flatten.all (ck_D prog_19_method_80_code) = true := by decide +kernel
theorem hM_255 (vz : Value) : am_MOk xcl xTs xTw xfty xkr (xkz vz) xfn (xm_255 vz) := ⟨ck_D_ok hD_255, ck_G_ok gG_9, gP_9 _, ck_N_ok gN_9, ck_Q_ok gQ_9, ck_H_ok gH_9, ck_L_ok gL_9, gS_9 vz⟩
theorem hD_256 : xi_256.flatten.all (ck_D prog_20_method_22_code) = true := by decide +kernel
theorem hM_256 (vz : Value) : am_MOk xcl xTs xTw xfty xkr (xkz vz) xfn xm_256 := ⟨ck_D_ok hD_256, ck_G_ok gG_10, gP_10 _, ck_N_ok gN_10, ck_Q_ok gQ_10, ck_H_ok gH_10, ck_L_ok gL_10, gS_10 vz⟩
theorem hD_257 : xi_257.flatten.all (ck_D prog_20_method_4_code) = true := by decide +kernel
theorem hM_257 (vz : Value) : am_MOk xcl xTs xTw xfty xkr (xkz vz) xfn xm_257 := ⟨ck_D_ok hD_257, ck_G_ok gG_10, gP_10 _, ck_N_ok gN_10, ck_Q_ok gQ_10, ck_H_ok gH_10, ck_L_ok gL_10, gS_10 vz⟩
theorem hD_258 : xi_258.flatten.all (ck_D prog_20_method_23_code) = true := by decide +kernel
theorem hM_258 (vz : Value) : am_MOk xcl xTs xTw xfty xkr (xkz vz) xfn xm_258 := ⟨ck_D_ok hD_258, ck_G_ok gG_10, gP_10 _, ck_N_ok gN_10, ck_Q_ok gQ_10, ck_H_ok gH_10, ck_L_ok gL_10, gS_10 vz⟩
theorem hD_259 : xi_259.flatten.all (ck_D prog_21_method_40_code) = true := by decide +kernel
theorem hM_259 (vz : Value) : am_MOk xcl xTs xTw xfty xkr (xkz vz) xfn xm_259 := ⟨ck_D_ok hD_259, ck_G_ok gG_12, gP_12 _, ck_N_ok gN_12, ck_Q_ok gQ_12, ck_H_ok gH_12, ck_L_ok gL_12, gS_12 vz⟩
theorem hD_260 : xi_260.flatten.all (ck_D prog_21_method_47_code) = true := by decide +kernel
theorem hM_260 (vz : Value) : am_MOk xcl xTs xTw xfty xkr (xkz vz) xfn xm_260 := ⟨ck_D_ok hD_260, ck_G_ok gG_12, gP_12 _, ck_N_ok gN_12, ck_Q_ok gQ_12, ck_H_ok gH_12, ck_L_ok gL_12, gS_12 vz⟩
theorem hD_261 : xi_261.flatten.all (ck_D prog_21_method_93_code) = true := by decide +kernel
theorem hM_261 (vz : Value) : am_MOk xcl xTs xTw xfty xkr (xkz vz) xfn xm_261 := ⟨ck_D_ok hD_261, ck_G_ok gG_12, gP_12 _, ck_N_ok gN_12, ck_Q_ok gQ_12, ck_H_ok gH_12, ck_L_ok gL_12, gS_12 vz⟩
theorem hD_262 : xi_262.flatten.all (ck_D prog_19_method_158_code) = true := by decide +kernel
theorem hM_262 (vz : Value) : am_MOk xcl xTs xTw xfty xkr (xkz vz) xfn (xm_262 vz) := ⟨ck_D_ok hD_262, ck_G_ok gG_9, gP_9 _, ck_N_ok gN_9, ck_Q_ok gQ_9, ck_H_ok gH_9, ck_L_ok gL_9, gS_9 vz⟩
theorem hD_263 : xi_263.flatten.all (ck_D prog_26_method_12_code) = true := by decide +kernel
theorem hM_263 (vz : Value) : am_MOk xcl xTs xTw xfty xkr (xkz vz) xfn xm_263 := ⟨ck_D_ok hD_263, ck_G_ok gG_11, gP_11 _, ck_N_ok gN_11, ck_Q_ok gQ_11, ck_H_ok gH_11, ck_L_ok gL_11, gS_11 vz⟩
theorem hD_264 : xi_264.flatten.all (ck_D prog_21_method_48_code) = true := by decide +kernel
theorem hM_264 (vz : Value) : am_MOk xcl xTs xTw xfty xkr (xkz vz) xfn xm_264 := ⟨ck_D_ok hD_264, ck_G_ok gG_12, gP_12 _, ck_N_ok gN_12, ck_Q_ok gQ_12, ck_H_ok gH_12, ck_L_ok gL_12, gS_12 vz⟩
theorem hD_265 : xi_265.flatten.all (ck_D prog_21_method_49_code) = true := by decide +kernel
theorem hM_265 (vz : Value) : am_MOk xcl xTs xTw xfty xkr (xkz vz) xfn xm_265 := ⟨ck_D_ok hD_265, ck_G_ok gG_12, gP_12 _, ck_N_ok gN_12, ck_Q_ok gQ_12, ck_H_ok gH_12, ck_L_ok gL_12, gS_12 vz⟩
theorem hD_266 : xi_266.flatten.all (ck_D prog_10_method_11_code) = true := by decide +kernel
theorem hM_266 (vz : Value) : am_MOk xcl xTs xTw xfty xkr (xkz vz) xfn xm_266 := ⟨ck_D_ok hD_266, ck_G_ok gG_13, gP_13 _, ck_N_ok gN_13, ck_Q_ok gQ_13, ck_H_ok gH_13, ck_L_ok gL_13, gS_13 vz⟩
theorem hD_267 : xi_267.flatten.all (ck_D prog_10_method_28_code) = true := by decide +kernel
theorem hM_267 (vz : Value) : am_MOk xcl xTs xTw xfty xkr (xkz vz) xfn xm_267 := ⟨ck_D_ok hD_267, ck_G_ok gG_13, gP_13 _, ck_N_ok gN_13, ck_Q_ok gQ_13, ck_H_ok gH_13, ck_L_ok gL_13, gS_13 vz⟩
theorem hD_268 : xi_268.flatten.all (ck_D prog_10_method_29_code) = true := by decide +kernel
theorem hM_268 (vz : Value) : am_MOk xcl xTs xTw xfty xkr (xkz vz) xfn xm_268 := ⟨ck_D_ok hD_268, ck_G_ok gG_13, gP_13 _, ck_N_ok gN_13, ck_Q_ok gQ_13, ck_H_ok gH_13, ck_L_ok gL_13, gS_13 vz⟩
theorem hD_269 : xi_269.flatten.all (ck_D prog_15_method_49_code) = true := by decide +kernel
theorem hM_269 (vz : Value) : am_MOk xcl xTs xTw xfty xkr (xkz vz) xfn xm_269 := ⟨ck_D_ok hD_269, ck_G_ok gG_14, gP_14 _, ck_N_ok gN_14, ck_Q_ok gQ_14, ck_H_ok gH_14, ck_L_ok gL_14, gS_14 vz⟩
theorem hD_270 : xi_270.flatten.all (ck_D prog_25_method_101_code) = true := by decide +kernel
theorem hM_270 (vz : Value) : am_MOk xcl xTs xTw xfty xkr (xkz vz) xfn xm_270 := ⟨ck_D_ok hD_270, ck_G_ok gG_15, gP_15 _, ck_N_ok gN_15, ck_Q_ok gQ_15, ck_H_ok gH_15, ck_L_ok gL_15, gS_15 vz⟩
theorem hD_271 : xi_271.flatten.all (ck_D prog_16_method_50_code) = true := by decide +kernel
theorem hM_271 (vz : Value) : am_MOk xcl xTs xTw xfty xkr (xkz vz) xfn xm_271 := ⟨ck_D_ok hD_271, ck_G_ok gG_16, gP_16 _, ck_N_ok gN_16, ck_Q_ok gQ_16, ck_H_ok gH_16, ck_L_ok gL_16, gS_16 vz⟩
