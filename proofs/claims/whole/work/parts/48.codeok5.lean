/-! TABLES: code of reference is right. -/
theorem hD_141_0 : ((xi_141.drop 0).take 14).flatten.all (ck_D prog_9_method_1_code) = true := by decide +kernel
theorem hD_141_1 : ((xi_141.drop 14).take 14).flatten.all (ck_D prog_9_method_1_code) = true := by decide +kernel
theorem hD_141 : xi_141.flatten.all (ck_D prog_9_method_1_code) = true := by
  have e : xi_141 = (xi_141.drop 0).take 14 ++ ((xi_141.drop 14).take 14) := rfl
  rw [e]
  simp only [List.flatten_append, List.all_append, Bool.and_eq_true]
  exact ⟨hD_141_0, hD_141_1⟩
theorem hM_141 (vz : Value) : am_MOk xcl xTs xTw xfty xkr (xkz vz) xfn xm_141 := ⟨ck_D_ok hD_141, ck_G_ok gG_8, ck_P_ok gPi_8, ck_N_ok gN_8, ck_Q_ok gQ_8, ck_H_ok gH_8, ck_L_ok gL_8, gS_8 vz⟩
theorem hD_142 : xi_142.flatten.all (ck_D prog_9_method_2_code) = true := by decide +kernel
theorem hM_142 (vz : Value) : am_MOk xcl xTs xTw xfty xkr (xkz vz) xfn xm_142 := ⟨ck_D_ok hD_142, ck_G_ok gG_8, gP_8 _, ck_N_ok gN_8, ck_Q_ok gQ_8, ck_H_ok gH_8, ck_L_ok gL_8, gS_8 vz⟩
theorem hD_143 : xi_143.flatten.all (ck_D prog_9_method_4_code) = true := by decide +kernel
theorem hM_143 (vz : Value) : am_MOk xcl xTs xTw xfty xkr (xkz vz) xfn xm_143 := ⟨ck_D_ok hD_143, ck_G_ok gG_8, gP_8 _, ck_N_ok gN_8, ck_Q_ok gQ_8, ck_H_ok gH_8, ck_L_ok gL_8, gS_8 vz⟩
theorem hD_144 : xi_144.flatten.all (ck_D prog_9_method_5_code) = true := by decide +kernel
theorem hM_144 (vz : Value) : am_MOk xcl xTs xTw xfty xkr (xkz vz) xfn xm_144 := ⟨ck_D_ok hD_144, ck_G_ok gG_8, gP_8 _, ck_N_ok gN_8, ck_Q_ok gQ_8, ck_H_ok gH_8, ck_L_ok gL_8, gS_8 vz⟩
theorem hD_145 : xi_145.flatten.all (ck_D prog_9_method_76_code) = true := by decide +kernel
theorem hM_145 (vz : Value) : am_MOk xcl xTs xTw xfty xkr (xkz vz) xfn xm_145 := ⟨ck_D_ok hD_145, ck_G_ok gG_8, gP_8 _, ck_N_ok gN_8, ck_Q_ok gQ_8, ck_H_ok gH_8, ck_L_ok gL_8, gS_8 vz⟩
theorem hD_146 : xi_146.flatten.all (ck_D prog_9_method_75_code) = true := by decide +kernel
theorem hM_146 (vz : Value) : am_MOk xcl xTs xTw xfty xkr (xkz vz) xfn xm_146 := ⟨ck_D_ok hD_146, ck_G_ok gG_8, gP_8 _, ck_N_ok gN_8, ck_Q_ok gQ_8, ck_H_ok gH_8, ck_L_ok gL_8, gS_8 vz⟩
theorem hD_147 : xi_147.flatten.all (ck_D prog_9_method_9_code) = true := by decide +kernel
theorem hM_147 (vz : Value) : am_MOk xcl xTs xTw xfty xkr (xkz vz) xfn xm_147 := ⟨ck_D_ok hD_147, ck_G_ok gG_8, gP_8 _, ck_N_ok gN_8, ck_Q_ok gQ_8, ck_H_ok gH_8, ck_L_ok gL_8, gS_8 vz⟩
theorem hD_148 : xi_148.flatten.all (ck_D prog_9_method_11_code) = true := by decide +kernel
theorem hM_148 (vz : Value) : am_MOk xcl xTs xTw xfty xkr (xkz vz) xfn xm_148 := ⟨ck_D_ok hD_148, ck_G_ok gG_8, gP_8 _, ck_N_ok gN_8, ck_Q_ok gQ_8, ck_H_ok gH_8, ck_L_ok gL_8, gS_8 vz⟩
theorem hD_149 : xi_149.flatten.all (ck_D prog_9_method_10_code) = true := by decide +kernel
theorem hM_149 (vz : Value) : am_MOk xcl xTs xTw xfty xkr (xkz vz) xfn xm_149 := ⟨ck_D_ok hD_149, ck_G_ok gG_8, gP_8 _, ck_N_ok gN_8, ck_Q_ok gQ_8, ck_H_ok gH_8, ck_L_ok gL_8, gS_8 vz⟩
theorem hD_150 : xi_150.flatten.all (ck_D prog_9_method_6_code) = true := by decide +kernel
theorem hM_150 (vz : Value) : am_MOk xcl xTs xTw xfty xkr (xkz vz) xfn xm_150 := ⟨ck_D_ok hD_150, ck_G_ok gG_8, gP_8 _, ck_N_ok gN_8, ck_Q_ok gQ_8, ck_H_ok gH_8, ck_L_ok gL_8, gS_8 vz⟩
theorem hD_151 : xi_151.flatten.all (ck_D prog_9_method_78_code) = true := by decide +kernel
theorem hM_151 (vz : Value) : am_MOk xcl xTs xTw xfty xkr (xkz vz) xfn xm_151 := ⟨ck_D_ok hD_151, ck_G_ok gG_8, gP_8 _, ck_N_ok gN_8, ck_Q_ok gQ_8, ck_H_ok gH_8, ck_L_ok gL_8, gS_8 vz⟩
theorem hD_152 : xi_152.flatten.all (ck_D prog_9_method_77_code) = true := by decide +kernel
theorem hM_152 (vz : Value) : am_MOk xcl xTs xTw xfty xkr (xkz vz) xfn xm_152 := ⟨ck_D_ok hD_152, ck_G_ok gG_8, gP_8 _, ck_N_ok gN_8, ck_Q_ok gQ_8, ck_H_ok gH_8, ck_L_ok gL_8, gS_8 vz⟩
theorem hD_153 : xi_153.flatten.all (ck_D prog_9_method_3_code) = true := by decide +kernel
theorem hM_153 (vz : Value) : am_MOk xcl xTs xTw xfty xkr (xkz vz) xfn xm_153 := ⟨ck_D_ok hD_153, ck_G_ok gG_8, gP_8 _, ck_N_ok gN_8, ck_Q_ok gQ_8, ck_H_ok gH_8, ck_L_ok gL_8, gS_8 vz⟩
theorem hD_154 : xi_154.flatten.all (ck_D prog_9_method_67_code) = true := by decide +kernel
theorem hM_154 (vz : Value) : am_MOk xcl xTs xTw xfty xkr (xkz vz) xfn xm_154 := ⟨ck_D_ok hD_154, ck_G_ok gG_8, gP_8 _, ck_N_ok gN_8, ck_Q_ok gQ_8, ck_H_ok gH_8, ck_L_ok gL_8, gS_8 vz⟩
theorem hD_155 : xi_155.flatten.all (ck_D prog_9_method_79_code) = true := by decide +kernel
theorem hM_155 (vz : Value) : am_MOk xcl xTs xTw xfty xkr (xkz vz) xfn xm_155 := ⟨ck_D_ok hD_155, ck_G_ok gG_8, gP_8 _, ck_N_ok gN_8, ck_Q_ok gQ_8, ck_H_ok gH_8, ck_L_ok gL_8, gS_8 vz⟩
theorem hD_156 : xi_156.flatten.all (ck_D prog_9_method_42_code) = true := by decide +kernel
theorem hM_156 (vz : Value) : am_MOk xcl xTs xTw xfty xkr (xkz vz) xfn xm_156 := ⟨ck_D_ok hD_156, ck_G_ok gG_8, gP_8 _, ck_N_ok gN_8, ck_Q_ok gQ_8, ck_H_ok gH_8, ck_L_ok gL_8, gS_8 vz⟩
theorem hD_157 : xi_157.flatten.all (ck_D prog_9_method_41_code) = true := by decide +kernel
theorem hM_157 (vz : Value) : am_MOk xcl xTs xTw xfty xkr (xkz vz) xfn xm_157 := ⟨ck_D_ok hD_157, ck_G_ok gG_8, gP_8 _, ck_N_ok gN_8, ck_Q_ok gQ_8, ck_H_ok gH_8, ck_L_ok gL_8, gS_8 vz⟩
theorem hD_158 : xi_158.flatten.all (ck_D prog_9_method_18_code) = true := by decide +kernel
theorem hM_158 (vz : Value) : am_MOk xcl xTs xTw xfty xkr (xkz vz) xfn xm_158 := ⟨ck_D_ok hD_158, ck_G_ok gG_8, gP_8 _, ck_N_ok gN_8, ck_Q_ok gQ_8, ck_H_ok gH_8, ck_L_ok gL_8, gS_8 vz⟩
theorem hD_159_0 : ((xi_159.drop 0).take 15).flatten.all (ck_D prog_9_method_15_code) = true := by decide +kernel
theorem hD_159_1 : ((xi_159.drop 15).take 15).flatten.all (ck_D prog_9_method_15_code) = true := by decide +kernel
theorem hD_159 : xi_159.flatten.all (ck_D prog_9_method_15_code) = true := by
  have e : xi_159 = (xi_159.drop 0).take 15 ++ ((xi_159.drop 15).take 15) := rfl
  rw [e]
  simp only [List.flatten_append, List.all_append, Bool.and_eq_true]
  exact ⟨hD_159_0, hD_159_1⟩
theorem hM_159 (vz : Value) : am_MOk xcl xTs xTw xfty xkr (xkz vz) xfn xm_159 := ⟨ck_D_ok hD_159, ck_G_ok gG_8, gP_8 _, ck_N_ok gN_8, ck_Q_ok gQ_8, ck_H_ok gH_8, ck_L_ok gL_8, gS_8 vz⟩
theorem hD_160 : xi_160.flatten.all (ck_D prog_9_method_8_code) = true := by decide +kernel
theorem hM_160 (vz : Value) : am_MOk xcl xTs xTw xfty xkr (xkz vz) xfn xm_160 := ⟨ck_D_ok hD_160, ck_G_ok gG_8, gP_8 _, ck_N_ok gN_8, ck_Q_ok gQ_8, ck_H_ok gH_8, ck_L_ok gL_8, gS_8 vz⟩
theorem hD_161 : xi_161.flatten.all (ck_D prog_9_method_13_code) = true := by decide +kernel
theorem hM_161 (vz : Value) : am_MOk xcl xTs xTw xfty xkr (xkz vz) xfn xm_161 := ⟨ck_D_ok hD_161, ck_G_ok gG_8, gP_8 _, ck_N_ok gN_8, ck_Q_ok gQ_8, ck_H_ok gH_8, ck_L_ok gL_8, gS_8 vz⟩
theorem hD_162 : xi_162.flatten.all (ck_D prog_9_method_7_code) = true := by decide +kernel
theorem hM_162 (vz : Value) : am_MOk xcl xTs xTw xfty xkr (xkz vz) xfn xm_162 := ⟨ck_D_ok hD_162, ck_G_ok gG_8, gP_8 _, ck_N_ok gN_8, ck_Q_ok gQ_8, ck_H_ok gH_8, ck_L_ok gL_8, gS_8 vz⟩
theorem hD_163 : xi_163.flatten.all (ck_D prog_9_method_14_code) = true := by decide +kernel
theorem hM_163 (vz : Value) : am_MOk xcl xTs xTw xfty xkr (xkz vz) xfn xm_163 := ⟨ck_D_ok hD_163, ck_G_ok gG_8, gP_8 _, ck_N_ok gN_8, ck_Q_ok gQ_8, ck_H_ok gH_8, ck_L_ok gL_8, gS_8 vz⟩
theorem hD_164 : xi_164.flatten.all (ck_D prog_9_method_12_code) = true := by decide +kernel
theorem hM_164 (vz : Value) : am_MOk xcl xTs xTw xfty xkr (xkz vz) xfn xm_164 := ⟨ck_D_ok hD_164, ck_G_ok gG_8, gP_8 _, ck_N_ok gN_8, ck_Q_ok gQ_8, ck_H_ok gH_8, ck_L_ok gL_8, gS_8 vz⟩
theorem hD_165_0 : ((xi_165.drop 0).take 8).flatten.all (ck_D prog_9_method_32_code) = true := by decide +kernel
theorem hD_165_1 : ((xi_165.drop 8).take 8).flatten.all (ck_D prog_9_method_32_code) = true := by decide +kernel
theorem hD_165_2 : ((xi_165.drop 16).take 8).flatten.all (ck_D prog_9_method_32_code) = true := by decide +kernel
theorem hD_165_3 : ((xi_165.drop 24).take 8).flatten.all (ck_D prog_9_method_32_code) = true := by decide +kernel
theorem hD_165 : xi_165.flatten.all (ck_D prog_9_method_32_code) = true := by
  have e : xi_165 = (xi_165.drop 0).take 8 ++ ((xi_165.drop 8).take 8 ++ ((xi_165.drop 16).take 8 ++ ((xi_165.drop 24).take 8))) := rfl
  rw [e]
  simp only [List.flatten_append, List.all_append, Bool.and_eq_true]
  exact ⟨hD_165_0, hD_165_1, hD_165_2, hD_165_3⟩
theorem hM_165 (vz : Value) : am_MOk xcl xTs xTw xfty xkr (xkz vz) xfn xm_165 := ⟨ck_D_ok hD_165, ck_G_ok gG_8, gP_8 _, ck_N_ok gN_8, ck_Q_ok gQ_8, ck_H_ok gH_8, ck_L_ok gL_8, gS_8 vz⟩
theorem hD_166 : xi_166.flatten.all (ck_D prog_9_method_20_code) = true := by decide +kernel
theorem hM_166 (vz : Value) : am_MOk xcl xTs xTw xfty xkr (xkz vz) xfn xm_166 := ⟨ck_D_ok hD_166, ck_G_ok gG_8, gP_8 _, ck_N_ok gN_8, ck_Q_ok gQ_8, ck_H_ok gH_8, ck_L_ok gL_8, gS_8 vz⟩
theorem hD_167 : xi_167.flatten.all (ck_D prog_9_method_21_code) = true := by decide +kernel
theorem hM_167 (vz : Value) : am_MOk xcl xTs xTw xfty xkr (xkz vz) xfn xm_167 := ⟨ck_D_ok hD_167, ck_G_ok gG_8, gP_8 _, ck_N_ok gN_8, ck_Q_ok gQ_8, ck_H_ok gH_8, ck_L_ok gL_8, gS_8 vz⟩
theorem hD_168 : xi_168.flatten.all (ck_D prog_9_method_22_code) = true := by decide +kernel
theorem hM_168 (vz : Value) : am_MOk xcl xTs xTw xfty xkr (xkz vz) xfn xm_168 := ⟨ck_D_ok hD_168, ck_G_ok gG_8, gP_8 _, ck_N_ok gN_8, ck_Q_ok gQ_8, ck_H_ok gH_8, ck_L_ok gL_8, gS_8 vz⟩
theorem hD_169 : xi_169.flatten.all (ck_D prog_9_method_33_code) = true := by decide +kernel
theorem hM_169 (vz : Value) : am_MOk xcl xTs xTw xfty xkr (xkz vz) xfn xm_169 := ⟨ck_D_ok hD_169, ck_G_ok gG_8, gP_8 _, ck_N_ok gN_8, ck_Q_ok gQ_8, ck_H_ok gH_8, ck_L_ok gL_8, gS_8 vz⟩
theorem hD_170 : xi_170.flatten.all (ck_D prog_9_method_40_code) = true := by decide +kernel
theorem hM_170 (vz : Value) : am_MOk xcl xTs xTw xfty xkr (xkz vz) xfn xm_170 := ⟨ck_D_ok hD_170, ck_G_ok gG_8, gP_8 _, ck_N_ok gN_8, ck_Q_ok gQ_8, ck_H_ok gH_8, ck_L_ok gL_8, gS_8 vz⟩
theorem hD_171 : xi_171.flatten.all (ck_D prog_9_method_36_code) = true := by decide +kernel
theorem hM_171 (vz : Value) : am_MOk xcl xTs xTw xfty xkr (xkz vz) xfn xm_171 := ⟨ck_D_ok hD_171, ck_G_ok gG_8, gP_8 _, ck_N_ok gN_8, ck_Q_ok gQ_8, ck_H_ok gH_8, ck_L_ok gL_8, gS_8 vz⟩
theorem hD_172 : xi_172.flatten.all (ck_D prog_9_method_17_code) = true := by decide +kernel
theorem hM_172 (vz : Value) : am_MOk xcl xTs xTw xfty xkr (xkz vz) xfn xm_172 := ⟨ck_D_ok hD_172, ck_G_ok gG_8, gP_8 _, ck_N_ok gN_8, ck_Q_ok gQ_8, ck_H_ok gH_8, ck_L_ok gL_8, gS_8 vz⟩
theorem hD_173 : xi_173.flatten.all (ck_D prog_9_method_16_code) = true := by decide +kernel
theorem hM_173 (vz : Value) : am_MOk xcl xTs xTw xfty xkr (xkz vz) xfn xm_173 := ⟨ck_D_ok hD_173, ck_G_ok gG_8, gP_8 _, ck_N_ok gN_8, ck_Q_ok gQ_8, ck_H_ok gH_8, ck_L_ok gL_8, gS_8 vz⟩
theorem hD_174 : xi_174.flatten.all (ck_D prog_9_method_35_code) = true := by decide +kernel
theorem hM_174 (vz : Value) : am_MOk xcl xTs xTw xfty xkr (xkz vz) xfn xm_174 := ⟨ck_D_ok hD_174, ck_G_ok gG_8, gP_8 _, ck_N_ok gN_8, ck_Q_ok gQ_8, ck_H_ok gH_8, ck_L_ok gL_8, gS_8 vz⟩
theorem hD_175 : xi_175.flatten.all (ck_D prog_9_method_34_code) = true := by decide +kernel
theorem hM_175 (vz : Value) : am_MOk xcl xTs xTw xfty xkr (xkz vz) xfn xm_175 := ⟨ck_D_ok hD_175, ck_G_ok gG_8, gP_8 _, ck_N_ok gN_8, ck_Q_ok gQ_8, ck_H_ok gH_8, ck_L_ok gL_8, gS_8 vz⟩
theorem hD_176_0 : ((xi_176.drop 0).take 11).flatten.all (ck_D prog_9_method_37_code) = true := by decide +kernel
theorem hD_176_1 : ((xi_176.drop 11).take 11).flatten.all (ck_D prog_9_method_37_code) = true := by decide +kernel
theorem hD_176 : xi_176.flatten.all (ck_D prog_9_method_37_code) = true := by
  have e : xi_176 = (xi_176.drop 0).take 11 ++ ((xi_176.drop 11).take 11) := rfl
  rw [e]
  simp only [List.flatten_append, List.all_append, Bool.and_eq_true]
  exact ⟨hD_176_0, hD_176_1⟩
theorem hM_176 (vz : Value) : am_MOk xcl xTs xTw xfty xkr (xkz vz) xfn xm_176 := ⟨ck_D_ok hD_176, ck_G_ok gG_8, gP_8 _, ck_N_ok gN_8, ck_Q_ok gQ_8, ck_H_ok gH_8, ck_L_ok gL_8, gS_8 vz⟩
theorem hD_177 : xi_177.flatten.all (ck_D prog_9_method_25_code) = true := by decide +kernel
theorem hM_177 (vz : Value) : am_MOk xcl xTs xTw xfty xkr (xkz vz) xfn xm_177 := ⟨ck_D_ok hD_177, ck_G_ok gG_8, gP_8 _, ck_N_ok gN_8, ck_Q_ok gQ_8, ck_H_ok gH_8, ck_L_ok gL_8, gS_8 vz⟩
theorem hD_178 : xi_178.flatten.all (ck_D prog_9_method_19_code) = true := by decide +kernel
theorem hM_178 (vz : Value) : am_MOk xcl xTs xTw xfty xkr (xkz vz) xfn xm_178 := ⟨ck_D_ok hD_178, ck_G_ok gG_8, gP_8 _, ck_N_ok gN_8, ck_Q_ok gQ_8, ck_H_ok gH_8, ck_L_ok gL_8, gS_8 vz⟩
theorem hD_179_0 : ((xi_179.drop 0).take 12).flatten.all (ck_D prog_9_method_24_code) = true := by decide +kernel
theorem hD_179_1 : ((xi_179.drop 12).take 12).flatten.all (ck_D prog_9_method_24_code) = true := by decide +kernel
theorem hD_179 : xi_179.flatten.all (ck_D prog_9_method_24_code) = true := by
  have e : xi_179 = (xi_179.drop 0).take 12 ++ ((xi_179.drop 12).take 12) := rfl
  rw [e]
  simp only [List.flatten_append, List.all_append, Bool.and_eq_true]
  exact ⟨hD_179_0, hD_179_1⟩
theorem hM_179 (vz : Value) : am_MOk xcl xTs xTw xfty xkr (xkz vz) xfn xm_179 := ⟨ck_D_ok hD_179, ck_G_ok gG_8, gP_8 _, ck_N_ok gN_8, ck_Q_ok gQ_8, ck_H_ok gH_8, ck_L_ok gL_8, gS_8 vz⟩
theorem hD_180 : xi_180.flatten.all (ck_D prog_9_method_23_code) = true := by decide +kernel
theorem hM_180 (vz : Value) : am_MOk xcl xTs xTw xfty xkr (xkz vz) xfn xm_180 := ⟨ck_D_ok hD_180, ck_G_ok gG_8, gP_8 _, ck_N_ok gN_8, ck_Q_ok gQ_8, ck_H_ok gH_8, ck_L_ok gL_8, gS_8 vz⟩
theorem hD_181 : xi_181.flatten.all (ck_D prog_9_method_26_code) = true := by decide +kernel
theorem hM_181 (vz : Value) : am_MOk xcl xTs xTw xfty xkr (xkz vz) xfn xm_181 := ⟨ck_D_ok hD_181, ck_G_ok gG_8, gP_8 _, ck_N_ok gN_8, ck_Q_ok gQ_8, ck_H_ok gH_8, ck_L_ok gL_8, gS_8 vz⟩
theorem hD_182 : xi_182.flatten.all (ck_D prog_9_method_27_code) = true := by decide +kernel
theorem hM_182 (vz : Value) : am_MOk xcl xTs xTw xfty xkr (xkz vz) xfn xm_182 := ⟨ck_D_ok hD_182, ck_G_ok gG_8, gP_8 _, ck_N_ok gN_8, ck_Q_ok gQ_8, ck_H_ok gH_8, ck_L_ok gL_8, gS_8 vz⟩
theorem hD_183 : xi_183.flatten.all (ck_D prog_9_method_38_code) = true := by decide +kernel
theorem hM_183 (vz : Value) : am_MOk xcl xTs xTw xfty xkr (xkz vz) xfn xm_183 := ⟨ck_D_ok hD_183, ck_G_ok gG_8, gP_8 _, ck_N_ok gN_8, ck_Q_ok gQ_8, ck_H_ok gH_8, ck_L_ok gL_8, gS_8 vz⟩
theorem hD_184 : xi_184.flatten.all (ck_D prog_9_method_30_code) = true := by decide +kernel
theorem hM_184 (vz : Value) : am_MOk xcl xTs xTw xfty xkr (xkz vz) xfn xm_184 := ⟨ck_D_ok hD_184, ck_G_ok gG_8, gP_8 _, ck_N_ok gN_8, ck_Q_ok gQ_8, ck_H_ok gH_8, ck_L_ok gL_8, gS_8 vz⟩
theorem hD_185 : xi_185.flatten.all (ck_D prog_9_method_28_code) = true := by decide +kernel
theorem hM_185 (vz : Value) : am_MOk xcl xTs xTw xfty xkr (xkz vz) xfn xm_185 := ⟨ck_D_ok hD_185, ck_G_ok gG_8, gP_8 _, ck_N_ok gN_8, ck_Q_ok gQ_8, ck_H_ok gH_8, ck_L_ok gL_8, gS_8 vz⟩
theorem hD_186 : xi_186.flatten.all (ck_D prog_9_method_31_code) = true := by decide +kernel
theorem hM_186 (vz : Value) : am_MOk xcl xTs xTw xfty xkr (xkz vz) xfn xm_186 := ⟨ck_D_ok hD_186, ck_G_ok gG_8, gP_8 _, ck_N_ok gN_8, ck_Q_ok gQ_8, ck_H_ok gH_8, ck_L_ok gL_8, gS_8 vz⟩
theorem hD_187 : xi_187.flatten.all (ck_D prog_9_method_29_code) = true := by decide +kernel
theorem hM_187 (vz : Value) : am_MOk xcl xTs xTw xfty xkr (xkz vz) xfn xm_187 := ⟨ck_D_ok hD_187, ck_G_ok gG_8, gP_8 _, ck_N_ok gN_8, ck_Q_ok gQ_8, ck_H_ok gH_8, ck_L_ok gL_8, gS_8 vz⟩
theorem hD_188 : xi_188.flatten.all (ck_D prog_9_method_39_code) = true := by decide +kernel
theorem hM_188 (vz : Value) : am_MOk xcl xTs xTw xfty xkr (xkz vz) xfn xm_188 := ⟨ck_D_ok hD_188, ck_G_ok gG_8, gP_8 _, ck_N_ok gN_8, ck_Q_ok gQ_8, ck_H_ok gH_8, ck_L_ok gL_8, gS_8 vz⟩
theorem hD_189 : xi_189.flatten.all (ck_D prog_9_method_43_code) = true := by decide +kernel
theorem hM_189 (vz : Value) : am_MOk xcl xTs xTw xfty xkr (xkz vz) xfn xm_189 := ⟨ck_D_ok hD_189, ck_G_ok gG_8, gP_8 _, ck_N_ok gN_8, ck_Q_ok gQ_8, ck_H_ok gH_8, ck_L_ok gL_8, gS_8 vz⟩
theorem hD_190 : xi_190.flatten.all (ck_D prog_9_method_80_code) = true := by decide +kernel
theorem hM_190 (vz : Value) : am_MOk xcl xTs xTw xfty xkr (xkz vz) xfn xm_190 := ⟨ck_D_ok hD_190, ck_G_ok gG_8, gP_8 _, ck_N_ok gN_8, ck_Q_ok gQ_8, ck_H_ok gH_8, ck_L_ok gL_8, gS_8 vz⟩
theorem hD_191 : xi_191.flatten.all (ck_D prog_9_method_81_code) = true := by decide +kernel
theorem hM_191 (vz : Value) : am_MOk xcl xTs xTw xfty xkr (xkz vz) xfn xm_191 := ⟨ck_D_ok hD_191, ck_G_ok gG_8, gP_8 _, ck_N_ok gN_8, ck_Q_ok gQ_8, ck_H_ok gH_8, ck_L_ok gL_8, gS_8 vz⟩
theorem hD_192 : xi_192.flatten.all (ck_D prog_9_method_82_code) = true := by decide +kernel
theorem hM_192 (vz : Value) : am_MOk xcl xTs xTw xfty xkr (xkz vz) xfn xm_192 := ⟨ck_D_ok hD_192, ck_G_ok gG_8, gP_8 _, ck_N_ok gN_8, ck_Q_ok gQ_8, ck_H_ok gH_8, ck_L_ok gL_8, gS_8 vz⟩
theorem hD_193 : xi_193.flatten.all (ck_D prog_9_method_73_code) = true := by decide +kernel
theorem hM_193 (vz : Value) : am_MOk xcl xTs xTw xfty xkr (xkz vz) xfn xm_193 := ⟨ck_D_ok hD_193, ck_G_ok gG_8, gP_8 _, ck_N_ok gN_8, ck_Q_ok gQ_8, ck_H_ok gH_8, ck_L_ok gL_8, gS_8 vz⟩
theorem hD_194 : xi_194.flatten.all (ck_D prog_9_method_72_code) = true := by decide +kernel
theorem hM_194 (vz : Value) : am_MOk xcl xTs xTw xfty xkr (xkz vz) xfn xm_194 := ⟨ck_D_ok hD_194, ck_G_ok gG_8, gP_8 _, ck_N_ok gN_8, ck_Q_ok gQ_8, ck_H_ok gH_8, ck_L_ok gL_8, gS_8 vz⟩
theorem hD_195 : xi_195.flatten.all (ck_D prog_9_method_70_code) = true := by decide +kernel
theorem hM_195 (vz : Value) : am_MOk xcl xTs xTw xfty xkr (xkz vz) xfn xm_195 := ⟨ck_D_ok hD_195, ck_G_ok gG_8, gP_8 _, ck_N_ok gN_8, ck_Q_ok gQ_8, ck_H_ok gH_8, ck_L_ok gL_8, gS_8 vz⟩
theorem hD_196 : xi_196.flatten.all (ck_D prog_9_method_68_code) = true := by decide +kernel
theorem hM_196 (vz : Value) : am_MOk xcl xTs xTw xfty xkr (xkz vz) xfn xm_196 := ⟨ck_D_ok hD_196, ck_G_ok gG_8, gP_8 _, ck_N_ok gN_8, ck_Q_ok gQ_8, ck_H_ok gH_8, ck_L_ok gL_8, gS_8 vz⟩
theorem hD_197 : xi_197.flatten.all (ck_D prog_9_method_69_code) = true := by decide +kernel
theorem hM_197 (vz : Value) : am_MOk xcl xTs xTw xfty xkr (xkz vz) xfn xm_197 := ⟨ck_D_ok hD_197, ck_G_ok gG_8, gP_8 _, ck_N_ok gN_8, ck_Q_ok gQ_8, ck_H_ok gH_8, ck_L_ok gL_8, gS_8 vz⟩
theorem hD_198 : xi_198.flatten.all (ck_D prog_9_method_71_code) = true := by decide +kernel
theorem hM_198 (vz : Value) : am_MOk xcl xTs xTw xfty xkr (xkz vz) xfn xm_198 := ⟨ck_D_ok hD_198, ck_G_ok gG_8, gP_8 _, ck_N_ok gN_8, ck_Q_ok gQ_8, ck_H_ok gH_8, ck_L_ok gL_8, gS_8 vz⟩
theorem hD_199 : xi_199.flatten.all (ck_D prog_9_method_66_code) = true := by decide +kernel
theorem hM_199 (vz : Value) : am_MOk xcl xTs xTw xfty xkr (xkz vz) xfn xm_199 := ⟨ck_D_ok hD_199, ck_G_ok gG_8, gP_8 _, ck_N_ok gN_8, ck_Q_ok gQ_8, ck_H_ok gH_8, ck_L_ok gL_8, gS_8 vz⟩
theorem hD_200 : xi_200.flatten.all (ck_D prog_9_method_63_code) = true := by decide +kernel
theorem hM_200 (vz : Value) : am_MOk xcl xTs xTw xfty xkr (xkz vz) xfn xm_200 := ⟨ck_D_ok hD_200, ck_G_ok gG_8, gP_8 _, ck_N_ok gN_8, ck_Q_ok gQ_8, ck_H_ok gH_8, ck_L_ok gL_8, gS_8 vz⟩
theorem hD_201 : xi_201.flatten.all (ck_D prog_9_method_60_code) = true := by decide +kernel
theorem hM_201 (vz : Value) : am_MOk xcl xTs xTw xfty xkr (xkz vz) xfn xm_201 := ⟨ck_D_ok hD_201, ck_G_ok gG_8, gP_8 _, ck_N_ok gN_8, ck_Q_ok gQ_8, ck_H_ok gH_8, ck_L_ok gL_8, gS_8 vz⟩
theorem hD_202 : xi_202.flatten.all (ck_D prog_9_method_62_code) = true := by decide +kernel
theorem hM_202 (vz : Value) : am_MOk xcl xTs xTw xfty xkr (xkz vz) xfn xm_202 := ⟨ck_D_ok hD_202, ck_G_ok gG_8, gP_8 _, ck_N_ok gN_8, ck_Q_ok gQ_8, ck_H_ok gH_8, ck_L_ok gL_8, gS_8 vz⟩
theorem hD_203 : xi_203.flatten.all (ck_D prog_9_method_47_code) = true := by decide +kernel
theorem hM_203 (vz : Value) : am_MOk xcl xTs xTw xfty xkr (xkz vz) xfn xm_203 := ⟨ck_D_ok hD_203, ck_G_ok gG_8, gP_8 _, ck_N_ok gN_8, ck_Q_ok gQ_8, ck_H_ok gH_8, ck_L_ok gL_8, gS_8 vz⟩
theorem hD_204 : xi_204.flatten.all (ck_D prog_9_method_61_code) = true := by decide +kernel
theorem hM_204 (vz : Value) : am_MOk xcl xTs xTw xfty xkr (xkz vz) xfn xm_204 := ⟨ck_D_ok hD_204, ck_G_ok gG_8, gP_8 _, ck_N_ok gN_8, ck_Q_ok gQ_8, ck_H_ok gH_8, ck_L_ok gL_8, gS_8 vz⟩
theorem hD_205 : xi_205.flatten.all (ck_D prog_9_method_59_code) = true := by decide +kernel
theorem hM_205 (vz : Value) : am_MOk xcl xTs xTw xfty xkr (xkz vz) xfn xm_205 := ⟨ck_D_ok hD_205, ck_G_ok gG_8, gP_8 _, ck_N_ok gN_8, ck_Q_ok gQ_8, ck_H_ok gH_8, ck_L_ok gL_8, gS_8 vz⟩
theorem hD_206 : xi_206.flatten.all (ck_D prog_9_method_57_code) = true := by decide +kernel
theorem hM_206 (vz : Value) : am_MOk xcl xTs xTw xfty xkr (xkz vz) xfn xm_206 := ⟨ck_D_ok hD_206, ck_G_ok gG_8, gP_8 _, ck_N_ok gN_8, ck_Q_ok gQ_8, ck_H_ok gH_8, ck_L_ok gL_8, gS_8 vz⟩
theorem hD_207 : xi_207.flatten.all (ck_D prog_9_method_64_code) = true := by decide +kernel
theorem hM_207 (vz : Value) : am_MOk xcl xTs xTw xfty xkr (xkz vz) xfn xm_207 := ⟨ck_D_ok hD_207, ck_G_ok gG_8, gP_8 _, ck_N_ok gN_8, ck_Q_ok gQ_8, ck_H_ok gH_8, ck_L_ok gL_8, gS_8 vz⟩
theorem hD_208_0 : ((xi_208.drop 0).take 13).flatten.all (ck_D prog_9_method_54_code) = true := by decide +kernel
theorem hD_208_1 : ((xi_208.drop 13).take 13).flatten.all (ck_D prog_9_method_54_code) = true := by decide +kernel
theorem hD_208 : xi_208.flatten.all (ck_D prog_9_method_54_code) = true := by
  have e : xi_208 = (xi_208.drop 0).take 13 ++ ((xi_208.drop 13).take 13) := rfl
  rw [e]
  simp only [List.flatten_append, List.all_append, Bool.and_eq_true]
  exact ⟨hD_208_0, hD_208_1⟩
theorem hM_208 (vz : Value) : am_MOk xcl xTs xTw xfty xkr (xkz vz) xfn xm_208 := ⟨ck_D_ok hD_208, ck_G_ok gG_8, gP_8 _, ck_N_ok gN_8, ck_Q_ok gQ_8, ck_H_ok gH_8, ck_L_ok gL_8, gS_8 vz⟩
theorem hD_209 : xi_209.flatten.all (ck_D prog_9_method_49_code) = true := by decide +kernel
theorem hM_209 (vz : Value) : am_MOk xcl xTs xTw xfty xkr (xkz vz) xfn xm_209 := ⟨ck_D_ok hD_209, ck_G_ok gG_8, gP_8 _, ck_N_ok gN_8, ck_Q_ok gQ_8, ck_H_ok gH_8, ck_L_ok gL_8, gS_8 vz⟩
theorem hD_210 : xi_210.flatten.all (ck_D prog_9_method_45_code) = true := by decide +kernel
theorem hM_210 (vz : Value) : am_MOk xcl xTs xTw xfty xkr (xkz vz) xfn xm_210 := ⟨ck_D_ok hD_210, ck_G_ok gG_8, gP_8 _, ck_N_ok gN_8, ck_Q_ok gQ_8, ck_H_ok gH_8, ck_L_ok gL_8, gS_8 vz⟩
theorem hD_211 : xi_211.flatten.all (ck_D prog_9_method_44_code) = true := by decide +kernel
theorem hM_211 (vz : Value) : am_MOk xcl xTs xTw xfty xkr (xkz vz) xfn xm_211 := ⟨ck_D_ok hD_211, ck_G_ok gG_8, gP_8 _, ck_N_ok gN_8, ck_Q_ok gQ_8, ck_H_ok gH_8, ck_L_ok gL_8, gS_8 vz⟩
theorem hD_212 : xi_212.flatten.all (ck_D prog_9_method_46_code) = true := by decide +kernel
theorem hM_212 (vz : Value) : am_MOk xcl xTs xTw xfty xkr (xkz vz) xfn xm_212 := ⟨ck_D_ok hD_212, ck_G_ok gG_8, gP_8 _, ck_N_ok gN_8, ck_Q_ok gQ_8, ck_H_ok gH_8, ck_L_ok gL_8, gS_8 vz⟩
theorem hD_213 : xi_213.flatten.all (ck_D prog_9_method_51_code) = true := by decide +kernel
theorem hM_213 (vz : Value) : am_MOk xcl xTs xTw xfty xkr (xkz vz) xfn xm_213 := ⟨ck_D_ok hD_213, ck_G_ok gG_8, gP_8 _, ck_N_ok gN_8, ck_Q_ok gQ_8, ck_H_ok gH_8, ck_L_ok gL_8, gS_8 vz⟩
theorem hD_214 : xi_214.flatten.all (ck_D prog_9_method_52_code) = true := by decide +kernel
theorem hM_214 (vz : Value) : am_MOk xcl xTs xTw xfty xkr (xkz vz) xfn xm_214 := ⟨ck_D_ok hD_214, ck_G_ok gG_8, gP_8 _, ck_N_ok gN_8, ck_Q_ok gQ_8, ck_H_ok gH_8, ck_L_ok gL_8, gS_8 vz⟩
theorem hD_215 : xi_215.flatten.all (ck_D prog_9_method_53_code) = true := by decide +kernel
theorem hM_215 (vz : Value) : am_MOk xcl xTs xTw xfty xkr (xkz vz) xfn xm_215 := ⟨ck_D_ok hD_215, ck_G_ok gG_8, gP_8 _, ck_N_ok gN_8, ck_Q_ok gQ_8, ck_H_ok gH_8, ck_L_ok gL_8, gS_8 vz⟩
theorem hD_216 : xi_216.flatten.all (ck_D prog_9_method_50_code) = true := by decide +kernel
theorem hM_216 (vz : Value) : am_MOk xcl xTs xTw xfty xkr (xkz vz) xfn xm_216 := ⟨ck_D_ok hD_216, ck_G_ok gG_8, gP_8 _, ck_N_ok gN_8, ck_Q_ok gQ_8, ck_H_ok gH_8, ck_L_ok gL_8, gS_8 vz⟩
theorem hD_217 : xi_217.flatten.all (ck_D prog_9_method_55_code) = true := by decide +kernel
theorem hM_217 (vz : Value) : am_MOk xcl xTs xTw xfty xkr (xkz vz) xfn xm_217 := ⟨ck_D_ok hD_217, ck_G_ok gG_8, gP_8 _, ck_N_ok gN_8, ck_Q_ok gQ_8, ck_H_ok gH_8, ck_L_ok gL_8, gS_8 vz⟩
theorem hD_218 : xi_218.flatten.all (ck_D prog_9_method_56_code) = true := by decide +kernel
theorem hM_218 (vz : Value) : am_MOk xcl xTs xTw xfty xkr (xkz vz) xfn xm_218 := ⟨ck_D_ok hD_218, ck_G_ok gG_8, gP_8 _, ck_N_ok gN_8, ck_Q_ok gQ_8, ck_H_ok gH_8, ck_L_ok gL_8, gS_8 vz⟩
theorem hD_219 : xi_219.flatten.all (ck_D prog_9_method_58_code) = true := by decide +kernel
theorem hM_219 (vz : Value) : am_MOk xcl xTs xTw xfty xkr (xkz vz) xfn xm_219 := ⟨ck_D_ok hD_219, ck_G_ok gG_8, gP_8 _, ck_N_ok gN_8, ck_Q_ok gQ_8, ck_H_ok gH_8, ck_L_ok gL_8, gS_8 vz⟩
theorem hD_220_0 : ((xi_220.drop 0).take 6).flatten.all (ck_D prog_9_method_65_code) = true := by decide +kernel
theorem hD_220_1 : ((xi_220.drop 6).take 6).flatten.all (ck_D prog_9_method_65_code) = true := by decide +kernel
theorem hD_220_2 : ((xi_220.drop 12).take 6).flatten.all (ck_D prog_9_method_65_code) = true := by decide +kernel
theorem hD_220_3 : ((xi_220.drop 18).take 6).flatten.all (ck_D prog_9_method_65_code) = true := by decide +kernel
theorem hD_220_4 : ((xi_220.drop 24).take 6).flatten.all (ck_D prog_9_method_65_code) = true := by decide +kernel
theorem hD_220_5 : ((xi_220.drop 30).take 6).flatten.all (ck_D prog_9_method_65_code) = true := by decide +kernel
theorem hD_220_6 : ((xi_220.drop 36).take 6).flatten.all (ck_D prog_9_method_65_code) = true := by decide +kernel
theorem hD_220 : xi_220.flatten.all (ck_D prog_9_method_65_code) = true := by
  have e : xi_220 = (xi_220.drop 0).take 6 ++ ((xi_220.drop 6).take 6 ++ ((xi_220.drop 12).take 6 ++ ((xi_220.drop 18).take 6 ++ ((xi_220.drop 24).take 6 ++ ((xi_220.drop 30).take 6 ++ ((xi_220.drop 36).take 6)))))) := rfl
  rw [e]
  simp only [List.flatten_append, List.all_append, Bool.and_eq_true]
  exact ⟨hD_220_0, hD_220_1, hD_220_2, hD_220_3, hD_220_4, hD_220_5, hD_220_6⟩
theorem hM_220 (vz : Value) : am_MOk xcl xTs xTw xfty xkr (xkz vz) xfn xm_220 := ⟨ck_D_ok hD_220, ck_G_ok gG_8, gP_8 _, ck_N_ok gN_8, ck_Q_ok gQ_8, ck_H_ok gH_8, ck_L_ok gL_8, gS_8 vz⟩
theorem hD_221 : xi_221.flatten.all (ck_D prog_9_method_48_code) = true := by decide +kernel
theorem hM_221 (vz : Value) : am_MOk xcl xTs xTw xfty xkr (xkz vz) xfn xm_221 := ⟨ck_D_ok hD_221, ck_G_ok gG_8, gP_8 _, ck_N_ok gN_8, ck_Q_ok gQ_8, ck_H_ok gH_8, ck_L_ok gL_8, gS_8 vz⟩
theorem hD_222 : xi_222.flatten.all (ck_D prog_9_method_74_code) = true := by decide +kernel
theorem hM_222 (vz : Value) : am_MOk xcl xTs xTw xfty xkr (xkz vz) xfn xm_222 := ⟨ck_D_ok hD_222, ck_G_ok gG_8, gP_8 _, ck_N_ok gN_8, ck_Q_ok gQ_8, ck_H_ok gH_8, ck_L_ok gL_8, gS_8 vz⟩
theorem hD_223 : xi_223.flatten.all (ck_D prog_9_method_83_code) = true := by decide +kernel
theorem hM_223 (vz : Value) : am_MOk xcl xTs xTw xfty xkr (xkz vz) xfn xm_223 := ⟨ck_D_ok hD_223, ck_G_ok gG_8, gP_8 _, ck_N_ok gN_8, ck_Q_ok gQ_8, ck_H_ok gH_8, ck_L_ok gL_8, gS_8 vz⟩
theorem hD_224 : xi_224.flatten.all (ck_D prog_9_method_84_code) = true := by decide +kernel
theorem hM_224 (vz : Value) : am_MOk xcl xTs xTw xfty xkr (xkz vz) xfn xm_224 := ⟨ck_D_ok hD_224, ck_G_ok gG_8, gP_8 _, ck_N_ok gN_8, ck_Q_ok gQ_8, ck_H_ok gH_8, ck_L_ok gL_8, gS_8 vz⟩
theorem hD_225 : xi_225.flatten.all (ck_D prog_9_method_85_code) = true := by decide +kernel
theorem hM_225 (vz : Value) : am_MOk xcl xTs xTw xfty xkr (xkz vz) xfn xm_225 := ⟨ck_D_ok hD_225, ck_G_ok gG_8, gP_8 _, ck_N_ok gN_8, ck_Q_ok gQ_8, ck_H_ok gH_8, ck_L_ok gL_8, gS_8 vz⟩
theorem hD_226 : xi_226.flatten.all (ck_D prog_9_method_86_code) = true := by decide +kernel
theorem hM_226 (vz : Value) : am_MOk xcl xTs xTw xfty xkr (xkz vz) xfn xm_226 := ⟨ck_D_ok hD_226, ck_G_ok gG_8, gP_8 _, ck_N_ok gN_8, ck_Q_ok gQ_8, ck_H_ok gH_8, ck_L_ok gL_8, gS_8 vz⟩
theorem hD_227 : xi_227.flatten.all (ck_D prog_9_method_94_code) = true := by decide +kernel
theorem hM_227 (vz : Value) : am_MOk xcl xTs xTw xfty xkr (xkz vz) xfn xm_227 := ⟨ck_D_ok hD_227, ck_G_ok gG_8, gP_8 _, ck_N_ok gN_8, ck_Q_ok gQ_8, ck_H_ok gH_8, ck_L_ok gL_8, gS_8 vz⟩
theorem hD_228 : xi_228.flatten.all (ck_D prog_9_method_91_code) = true := by decide +kernel
theorem hM_228 (vz : Value) : am_MOk xcl xTs xTw xfty xkr (xkz vz) xfn xm_228 := ⟨ck_D_ok hD_228, ck_G_ok gG_8, gP_8 _, ck_N_ok gN_8, ck_Q_ok gQ_8, ck_H_ok gH_8, ck_L_ok gL_8, gS_8 vz⟩
theorem hD_229 : xi_229.flatten.all (ck_D prog_9_method_92_code) = true := by decide +kernel
theorem hM_229 (vz : Value) : am_MOk xcl xTs xTw xfty xkr (xkz vz) xfn xm_229 := ⟨ck_D_ok hD_229, ck_G_ok gG_8, gP_8 _, ck_N_ok gN_8, ck_Q_ok gQ_8, ck_H_ok gH_8, ck_L_ok gL_8, gS_8 vz⟩
theorem hD_230 : xi_230.flatten.all (ck_D prog_9_method_93_code) = true := by decide +kernel
theorem hM_230 (vz : Value) : am_MOk xcl xTs xTw xfty xkr (xkz vz) xfn xm_230 := ⟨ck_D_ok hD_230, ck_G_ok gG_8, gP_8 _, ck_N_ok gN_8, ck_Q_ok gQ_8, ck_H_ok gH_8, ck_L_ok gL_8, gS_8 vz⟩
theorem hD_231 : xi_231.flatten.all (ck_D prog_9_method_88_code) = true := by decide +kernel
theorem hM_231 (vz : Value) : am_MOk xcl xTs xTw xfty xkr (xkz vz) xfn xm_231 := ⟨ck_D_ok hD_231, ck_G_ok gG_8, gP_8 _, ck_N_ok gN_8, ck_Q_ok gQ_8, ck_H_ok gH_8, ck_L_ok gL_8, gS_8 vz⟩
theorem hD_232 : xi_232.flatten.all (ck_D prog_9_method_87_code) = true := by decide +kernel
theorem hM_232 (vz : Value) : am_MOk xcl xTs xTw xfty xkr (xkz vz) xfn xm_232 := ⟨ck_D_ok hD_232, ck_G_ok gG_8, gP_8 _, ck_N_ok gN_8, ck_Q_ok gQ_8, ck_H_ok gH_8, ck_L_ok gL_8, gS_8 vz⟩
theorem hD_233 : xi_233.flatten.all (ck_D prog_9_method_90_code) = true := by decide +kernel
theorem hM_233 (vz : Value) : am_MOk xcl xTs xTw xfty xkr (xkz vz) xfn xm_233 := ⟨ck_D_ok hD_233, ck_G_ok gG_8, gP_8 _, ck_N_ok gN_8, ck_Q_ok gQ_8, ck_H_ok gH_8, ck_L_ok gL_8, gS_8 vz⟩
theorem hD_234 : xi_234.flatten.all (ck_D prog_9_method_89_code) = true := by decide +kernel
theorem hM_234 (vz : Value) : am_MOk xcl xTs xTw xfty xkr (xkz vz) xfn xm_234 := ⟨ck_D_ok hD_234, ck_G_ok gG_8, gP_8 _, ck_N_ok gN_8, ck_Q_ok gQ_8, ck_H_ok gH_8, ck_L_ok gL_8, gS_8 vz⟩
theorem hD_235 : xi_235.flatten.all (ck_D prog_9_method_95_code) = true := by decide +kernel
theorem hM_235 (vz : Value) : am_MOk xcl xTs xTw xfty xkr (xkz vz) xfn xm_235 := ⟨ck_D_ok hD_235, ck_G_ok gG_8, gP_8 _, ck_N_ok gN_8, ck_Q_ok gQ_8, ck_H_ok gH_8, ck_L_ok gL_8, gS_8 vz⟩
theorem hD_236 : xi_236.flatten.all (ck_D prog_9_method_96_code) = true := by decide +kernel
theorem hM_236 (vz : Value) : am_MOk xcl xTs xTw xfty xkr (xkz vz) xfn xm_236 := ⟨ck_D_ok hD_236, ck_G_ok gG_8, gP_8 _, ck_N_ok gN_8, ck_Q_ok gQ_8, ck_H_ok gH_8, ck_L_ok gL_8, gS_8 vz⟩
theorem hD_237 : xi_237.flatten.all (ck_D prog_9_method_97_code) = true := by decide +kernel
theorem hM_237 (vz : Value) : am_MOk xcl xTs xTw xfty xkr (xkz vz) xfn xm_237 := ⟨ck_D_ok hD_237, ck_G_ok gG_8, gP_8 _, ck_N_ok gN_8, ck_Q_ok gQ_8, ck_H_ok gH_8, ck_L_ok gL_8, gS_8 vz⟩
theorem hD_238 : xi_238.flatten.all (ck_D prog_9_method_99_code) = true := by decide +kernel
theorem hM_238 (vz : Value) : am_MOk xcl xTs xTw xfty xkr (xkz vz) xfn xm_238 := ⟨ck_D_ok hD_238, ck_G_ok gG_8, gP_8 _, ck_N_ok gN_8, ck_Q_ok gQ_8, ck_H_ok gH_8, ck_L_ok gL_8, gS_8 vz⟩
theorem hD_239 : xi_239.flatten.all (ck_D prog_9_method_98_code) = true := by decide +kernel
theorem hM_239 (vz : Value) : am_MOk xcl xTs xTw xfty xkr (xkz vz) xfn xm_239 := ⟨ck_D_ok hD_239, ck_G_ok gG_8, gP_8 _, ck_N_ok gN_8, ck_Q_ok gQ_8, ck_H_ok gH_8, ck_L_ok gL_8, gS_8 vz⟩
theorem hD_240 : xi_240.flatten.all (ck_D prog_9_method_100_code) = true := by decide +kernel
theorem hM_240 (vz : Value) : am_MOk xcl xTs xTw xfty xkr (xkz vz) xfn xm_240 := ⟨ck_D_ok hD_240, ck_G_ok gG_8, gP_8 _, ck_N_ok gN_8, ck_Q_ok gQ_8, ck_H_ok gH_8, ck_L_ok gL_8, gS_8 vz⟩
theorem hD_241 : xi_241.flatten.all (ck_D prog_9_method_101_code) = true := by decide +kernel
theorem hM_241 (vz : Value) : am_MOk xcl xTs xTw xfty xkr (xkz vz) xfn xm_241 := ⟨ck_D_ok hD_241, ck_G_ok gG_8, gP_8 _, ck_N_ok gN_8, ck_Q_ok gQ_8, ck_H_ok gH_8, ck_L_ok gL_8, gS_8 vz⟩
theorem hD_242 : xi_242.flatten.all (ck_D prog_9_method_102_code) = true := by decide +kernel
theorem hM_242 (vz : Value) : am_MOk xcl xTs xTw xfty xkr (xkz vz) xfn xm_242 := ⟨ck_D_ok hD_242, ck_G_ok gG_8, gP_8 _, ck_N_ok gN_8, ck_Q_ok gQ_8, ck_H_ok gH_8, ck_L_ok gL_8, gS_8 vz⟩
