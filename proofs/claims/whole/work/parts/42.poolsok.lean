/-! TABLES: the pools are right. -/
theorem ck_P_any {own mn mn2 : String} {x : Nat × Nat × Nat × Option String × Bool} (h : ck_P own mn x = true) (hf : (x.2.2.2.2 == false) = true) : ck_P own mn2 x = true := by
  obtain ⟨a, b, k, hh, fin⟩ := x
  have hf : fin = false := by simpa using hf
  subst hf
  exact h
theorem gG_0 : xg_0.all (ck_G "RelationFinderLaw") = true := by decide +kernel
theorem gP_0 (mn : String) : am_PtOk xcl xTs xTw "RelationFinderLaw" mn (am_lk xp_0) := ck_P_ok (by
  have h : xp_0.all (ck_P "RelationFinderLaw" "") = true := by decide +kernel
  exact List.all_eq_true.mpr (fun x hx => ck_P_any (List.all_eq_true.mp h x hx) (List.all_eq_true.mp (show xp_0.all (fun x => x.2.2.2.2 == false) = true from by decide +kernel) x hx)))
theorem gPi_0 : xpi_0.all (ck_P "RelationFinderLaw" "<init>") = true := by decide +kernel
theorem gN_0 : xn_0.all (ck_N "RelationFinderLaw") = true := by decide +kernel
theorem gQ_0 : xq_0.all (ck_Q "RelationFinderLaw") = true := by decide +kernel
theorem gH_0 : xh_0.all (ck_H "RelationFinderLaw") = true := by decide +kernel
theorem gL_0 : xl_0.all (ck_L "RelationFinderLaw") = true := by decide +kernel
def xch_0 : List ((Nat × Nat) × (Nat × Nat) × (Nat × Nat) × (Nat × Nat)) := [((4, 156), (0, 0), (0, 0), (0, 0)), ((5, 12), (0, 0), (0, 0), (0, 0)), ((5, 33), (0, 0), (0, 0), (0, 0)), ((5, 75), (0, 0), (0, 0), (0, 0)), ((5, 84), (0, 0), (0, 0), (0, 0)), ((5, 107), (0, 0), (0, 0), (0, 0)), ((5, 115), (0, 0), (0, 0), (0, 0)), ((5, 124), (0, 0), (0, 0), (0, 0)), ((5, 136), (0, 0), (0, 0), (0, 0)), ((5, 145), (0, 0), (0, 0), (0, 0)), ((5, 153), (0, 0), (0, 0), (0, 0)), ((5, 169), (0, 0), (0, 0), (0, 0)), ((4, 148), (0, 0), (0, 0), (0, 0)), ((1, 28), (0, 0), (0, 0), (0, 0)), ((5, 175), (0, 0), (0, 0), (0, 0)), ((4, 151), (0, 0), (0, 0), (0, 0)), ((6, 109), (0, 0), (0, 0), (0, 0)), ((6, 105), (0, 0), (0, 0), (0, 0)), ((2, 110), (0, 0), (0, 0), (0, 0)), ((6, 114), (0, 0), (0, 0), (0, 0)), ((5, 9), (0, 0), (0, 0), (0, 0)), ((6, 118), (0, 0), (0, 0), (0, 0)), ((5, 29), (0, 0), (0, 0), (0, 0)), ((6, 153), (0, 0), (0, 0), (0, 0)), ((5, 72), (0, 0), (0, 0), (0, 0)), ((6, 169), (0, 0), (0, 0), (0, 0)), ((5, 80), (0, 0), (0, 0), (0, 0)), ((7, 63), (0, 0), (0, 0), (0, 0)), ((2, 114), (0, 0), (0, 0), (0, 0)), ((7, 67), (0, 0), (0, 0), (0, 0)), ((3, 178), (0, 0), (0, 0), (0, 0)), ((7, 71), (0, 0), (0, 0), (0, 0)), ((5, 104), (0, 0), (0, 0), (0, 0)), ((7, 192), (0, 0), (0, 0), (0, 0)), ((5, 112), (0, 0), (0, 0), (0, 0)), ((7, 196), (0, 0), (0, 0), (0, 0)), ((5, 121), (0, 0), (0, 0), (0, 0)), ((7, 200), (0, 0), (0, 0), (0, 0)), ((4, 88), (0, 0), (0, 0), (0, 0)), ((7, 204), (0, 0), (0, 0), (0, 0)), ((4, 98), (0, 0), (0, 0), (0, 0)), ((7, 208), (0, 0), (0, 0), (0, 0)), ((4, 136), (0, 0), (0, 0), (0, 0)), ((8, 0), (0, 0), (0, 0), (0, 0)), ((5, 133), (0, 0), (0, 0), (0, 0)), ((8, 4), (0, 0), (0, 0), (0, 0)), ((5, 142), (0, 0), (0, 0), (0, 0)), ((8, 8), (0, 0), (0, 0), (0, 0)), ((5, 150), (0, 0), (0, 0), (0, 0)), ((8, 12), (0, 0), (0, 0), (0, 0)), ((4, 140), (0, 0), (0, 0), (0, 0)), ((8, 20), (0, 0), (0, 0), (0, 0)), ((5, 166), (0, 0), (0, 0), (0, 0)), ((8, 24), (0, 0), (0, 0), (0, 0)), ((4, 144), (0, 0), (0, 0), (0, 0)), ((8, 28), (0, 0), (0, 0), (0, 0))]
theorem gC_0 : (xc_0.zip xch_0).all (ck_C "RelationFinderLaw") = true := by decide +kernel
theorem gS_0 (vz : Value) : am_StOk xTs xTw (xkz vz) "RelationFinderLaw" (am_lk xs_0) := fun ix v h => by cases h
theorem gG_1 : xg_1.all (ck_G "RelationFinder") = true := by decide +kernel
theorem gP_1 (mn : String) : am_PtOk xcl xTs xTw "RelationFinder" mn (am_lk xp_1) := ck_P_ok (by
  have h : xp_1.all (ck_P "RelationFinder" "") = true := by decide +kernel
  exact List.all_eq_true.mpr (fun x hx => ck_P_any (List.all_eq_true.mp h x hx) (List.all_eq_true.mp (show xp_1.all (fun x => x.2.2.2.2 == false) = true from by decide +kernel) x hx)))
theorem gPi_1 : xpi_1.all (ck_P "RelationFinder" "<init>") = true := by decide +kernel
theorem gN_1 : xn_1.all (ck_N "RelationFinder") = true := by decide +kernel
theorem gQ_1 : xq_1.all (ck_Q "RelationFinder") = true := by decide +kernel
theorem gH_1 : xh_1.all (ck_H "RelationFinder") = true := by decide +kernel
theorem gL_1 : xl_1.all (ck_L "RelationFinder") = true := by decide +kernel
def xch_1 : List ((Nat × Nat) × (Nat × Nat) × (Nat × Nat) × (Nat × Nat)) := [((1, 31), (1, 32), (1, 33), (0, 0)), ((1, 36), (1, 37), (1, 3), (1, 38)), ((1, 39), (1, 40), (1, 3), (1, 41)), ((1, 42), (0, 0), (0, 0), (0, 0)), ((1, 92), (0, 0), (0, 0), (0, 0)), ((1, 129), (0, 0), (0, 0), (0, 0)), ((1, 189), (0, 0), (0, 0), (0, 0)), ((1, 225), (0, 0), (0, 0), (0, 0)), ((2, 10), (0, 0), (0, 0), (0, 0)), ((5, 4), (0, 0), (0, 0), (0, 0)), ((5, 16), (0, 0), (0, 0), (0, 0)), ((5, 22), (0, 0), (0, 0), (0, 0)), ((5, 25), (0, 0), (0, 0), (0, 0)), ((5, 37), (0, 0), (0, 0), (0, 0)), ((5, 60), (0, 0), (0, 0), (0, 0)), ((4, 131), (0, 0), (0, 0), (0, 0)), ((3, 169), (0, 0), (0, 0), (0, 0)), ((2, 118), (0, 0), (0, 0), (0, 0)), ((3, 173), (0, 0), (0, 0), (0, 0)), ((3, 182), (0, 0), (0, 0), (0, 0)), ((3, 186), (0, 0), (0, 0), (0, 0)), ((5, 128), (0, 0), (0, 0), (0, 0)), ((3, 190), (0, 0), (0, 0), (0, 0)), ((3, 194), (0, 0), (0, 0), (0, 0)), ((4, 92), (0, 0), (0, 0), (0, 0)), ((4, 102), (0, 0), (0, 0), (0, 0)), ((4, 132), (0, 0), (0, 0), (0, 0)), ((5, 141), (0, 0), (0, 0), (0, 0)), ((5, 157), (0, 0), (0, 0), (0, 0)), ((5, 161), (0, 0), (0, 0), (0, 0)), ((5, 162), (0, 0), (0, 0), (0, 0)), ((2, 122), (0, 0), (0, 0), (0, 0)), ((3, 198), (0, 0), (0, 0), (0, 0)), ((3, 203), (0, 0), (0, 0), (0, 0)), ((5, 20), (0, 0), (0, 0), (0, 0)), ((5, 21), (0, 0), (0, 0), (0, 0))]
theorem gC_1 : (xc_1.zip xch_1).all (ck_C "RelationFinder") = true := by decide +kernel
theorem gS_1 (vz : Value) : am_StOk xTs xTw (xkz vz) "RelationFinder" (am_lk (xs_1)) := by
  intro ix v h
  have hm := am_lk_mem h
  simp only [xs_1, List.mem_cons, Prod.mk.injEq, List.not_mem_nil, or_false] at hm
  obtain ⟨rfl, rfl⟩ := hm
  · exact ⟨"RelationFinder", "KEYWORDS", "[J", by simp [xkz], Or.inl (ck_in_ok (by decide +kernel))⟩
theorem gG_2 : xg_2.all (ck_G "RelationFinder$World") = true := by decide +kernel
theorem gP_2 (mn : String) : am_PtOk xcl xTs xTw "RelationFinder$World" mn (am_lk xp_2) := ck_P_ok (by
  have h : xp_2.all (ck_P "RelationFinder$World" "") = true := by decide +kernel
  exact List.all_eq_true.mpr (fun x hx => ck_P_any (List.all_eq_true.mp h x hx) (List.all_eq_true.mp (show xp_2.all (fun x => x.2.2.2.2 == false) = true from by decide +kernel) x hx)))
theorem gPi_2 : xpi_2.all (ck_P "RelationFinder$World" "<init>") = true := by decide +kernel
theorem gN_2 : xn_2.all (ck_N "RelationFinder$World") = true := by decide +kernel
theorem gQ_2 : xq_2.all (ck_Q "RelationFinder$World") = true := by decide +kernel
theorem gH_2 : xh_2.all (ck_H "RelationFinder$World") = true := by decide +kernel
theorem gL_2 : xl_2.all (ck_L "RelationFinder$World") = true := by decide +kernel
def xch_2 : List ((Nat × Nat) × (Nat × Nat) × (Nat × Nat) × (Nat × Nat)) := [((1, 45), (1, 32), (1, 33), (0, 0)), ((5, 41), (0, 0), (0, 0), (0, 0)), ((5, 64), (0, 0), (0, 0), (0, 0)), ((5, 68), (0, 0), (0, 0), (0, 0)), ((5, 132), (0, 0), (0, 0), (0, 0))]
theorem gC_2 : (xc_2.zip xch_2).all (ck_C "RelationFinder$World") = true := by decide +kernel
theorem gS_2 (vz : Value) : am_StOk xTs xTw (xkz vz) "RelationFinder$World" (am_lk (xs_2)) := by
  intro ix v h
  have hm := am_lk_mem h
  simp only [xs_2, List.mem_cons, Prod.mk.injEq, List.not_mem_nil, or_false] at hm
  obtain ⟨rfl, rfl⟩ := hm
  · exact ⟨"RelationFinder", "STRIPES", "[J", by simp [xkz], Or.inr ⟨"RelationFinder", ck_nk_ok (by decide +kernel)⟩⟩
theorem gG_3 : xg_3.all (ck_G "RelationFinder$Tape") = true := by decide +kernel
theorem gP_3 (mn : String) : am_PtOk xcl xTs xTw "RelationFinder$Tape" mn (am_lk xp_3) := ck_P_ok (by
  have h : xp_3.all (ck_P "RelationFinder$Tape" "") = true := by decide +kernel
  exact List.all_eq_true.mpr (fun x hx => ck_P_any (List.all_eq_true.mp h x hx) (List.all_eq_true.mp (show xp_3.all (fun x => x.2.2.2.2 == false) = true from by decide +kernel) x hx)))
theorem gPi_3 : xpi_3.all (ck_P "RelationFinder$Tape" "<init>") = true := by decide +kernel
theorem gN_3 : xn_3.all (ck_N "RelationFinder$Tape") = true := by decide +kernel
theorem gQ_3 : xq_3.all (ck_Q "RelationFinder$Tape") = true := by decide +kernel
theorem gH_3 : xh_3.all (ck_H "RelationFinder$Tape") = true := by decide +kernel
theorem gL_3 : xl_3.all (ck_L "RelationFinder$Tape") = true := by decide +kernel
def xch_3 : List ((Nat × Nat) × (Nat × Nat) × (Nat × Nat) × (Nat × Nat)) := [((1, 95), (1, 32), (1, 33), (0, 0)), ((2, 138), (0, 0), (0, 0), (0, 0)), ((2, 142), (0, 0), (0, 0), (0, 0)), ((2, 145), (0, 0), (0, 0), (0, 0)), ((2, 162), (0, 0), (0, 0), (0, 0)), ((2, 165), (0, 0), (0, 0), (0, 0)), ((2, 169), (0, 0), (0, 0), (0, 0)), ((2, 149), (0, 0), (0, 0), (0, 0)), ((2, 153), (0, 0), (0, 0), (0, 0)), ((2, 157), (0, 0), (0, 0), (0, 0)), ((2, 174), (0, 0), (0, 0), (0, 0)), ((2, 184), (0, 0), (0, 0), (0, 0)), ((2, 223), (0, 0), (0, 0), (0, 0))]
theorem gC_3 : (xc_3.zip xch_3).all (ck_C "RelationFinder$Tape") = true := by decide +kernel
theorem gS_3 (vz : Value) : am_StOk xTs xTw (xkz vz) "RelationFinder$Tape" (am_lk xs_3) := fun ix v h => by cases h
theorem gG_4 : xg_4.all (ck_G "RelationFinder$Parser") = true := by decide +kernel
theorem gP_4 (mn : String) : am_PtOk xcl xTs xTw "RelationFinder$Parser" mn (am_lk xp_4) := ck_P_ok (by
  have h : xp_4.all (ck_P "RelationFinder$Parser" "") = true := by decide +kernel
  exact List.all_eq_true.mpr (fun x hx => ck_P_any (List.all_eq_true.mp h x hx) (List.all_eq_true.mp (show xp_4.all (fun x => x.2.2.2.2 == false) = true from by decide +kernel) x hx)))
theorem gPi_4 : xpi_4.all (ck_P "RelationFinder$Parser" "<init>") = true := by decide +kernel
theorem gN_4 : xn_4.all (ck_N "RelationFinder$Parser") = true := by decide +kernel
theorem gQ_4 : xq_4.all (ck_Q "RelationFinder$Parser") = true := by decide +kernel
theorem gH_4 : xh_4.all (ck_H "RelationFinder$Parser") = true := by decide +kernel
theorem gL_4 : xl_4.all (ck_L "RelationFinder$Parser") = true := by decide +kernel
def xch_4 : List ((Nat × Nat) × (Nat × Nat) × (Nat × Nat) × (Nat × Nat)) := [((1, 132), (1, 32), (1, 33), (0, 0)), ((2, 126), (0, 0), (0, 0), (0, 0)), ((2, 130), (0, 0), (0, 0), (0, 0)), ((2, 134), (0, 0), (0, 0), (0, 0)), ((3, 38), (0, 0), (0, 0), (0, 0)), ((3, 42), (0, 0), (0, 0), (0, 0)), ((3, 93), (0, 0), (0, 0), (0, 0)), ((3, 97), (0, 0), (0, 0), (0, 0)), ((3, 101), (0, 0), (0, 0), (0, 0)), ((3, 105), (0, 0), (0, 0), (0, 0)), ((3, 46), (0, 0), (0, 0), (0, 0)), ((3, 57), (0, 0), (0, 0), (0, 0)), ((3, 61), (0, 0), (0, 0), (0, 0)), ((3, 65), (0, 0), (0, 0), (0, 0)), ((3, 77), (0, 0), (0, 0), (0, 0)), ((3, 81), (0, 0), (0, 0), (0, 0)), ((3, 89), (0, 0), (0, 0), (0, 0)), ((3, 85), (0, 0), (0, 0), (0, 0)), ((3, 53), (0, 0), (0, 0), (0, 0)), ((3, 69), (0, 0), (0, 0), (0, 0)), ((3, 73), (0, 0), (0, 0), (0, 0)), ((3, 50), (0, 0), (0, 0), (0, 0)), ((3, 109), (0, 0), (0, 0), (0, 0)), ((3, 124), (0, 0), (0, 0), (0, 0)), ((3, 153), (0, 0), (0, 0), (0, 0)), ((3, 113), (0, 0), (0, 0), (0, 0)), ((3, 157), (0, 0), (0, 0), (0, 0)), ((3, 161), (0, 0), (0, 0), (0, 0)), ((3, 165), (0, 0), (0, 0), (0, 0)), ((3, 117), (0, 0), (0, 0), (0, 0)), ((3, 121), (0, 0), (0, 0), (0, 0)), ((3, 128), (0, 0), (0, 0), (0, 0)), ((3, 146), (0, 0), (0, 0), (0, 0)), ((3, 150), (0, 0), (0, 0), (0, 0)), ((3, 132), (0, 0), (0, 0), (0, 0)), ((3, 136), (0, 0), (0, 0), (0, 0))]
theorem gC_4 : (xc_4.zip xch_4).all (ck_C "RelationFinder$Parser") = true := by decide +kernel
theorem gS_4 (vz : Value) : am_StOk xTs xTw (xkz vz) "RelationFinder$Parser" (am_lk xs_4) := fun ix v h => by cases h
theorem gG_5 : xg_5.all (ck_G "RelationFinder$Machine") = true := by decide +kernel
theorem gP_5 (mn : String) : am_PtOk xcl xTs xTw "RelationFinder$Machine" mn (am_lk xp_5) := ck_P_ok (by
  have h : xp_5.all (ck_P "RelationFinder$Machine" "") = true := by decide +kernel
  exact List.all_eq_true.mpr (fun x hx => ck_P_any (List.all_eq_true.mp h x hx) (List.all_eq_true.mp (show xp_5.all (fun x => x.2.2.2.2 == false) = true from by decide +kernel) x hx)))
theorem gPi_5 : xpi_5.all (ck_P "RelationFinder$Machine" "<init>") = true := by decide +kernel
theorem gN_5 : xn_5.all (ck_N "RelationFinder$Machine") = true := by decide +kernel
theorem gQ_5 : xq_5.all (ck_Q "RelationFinder$Machine") = true := by decide +kernel
theorem gH_5 : xh_5.all (ck_H "RelationFinder$Machine") = true := by decide +kernel
theorem gL_5 : xl_5.all (ck_L "RelationFinder$Machine") = true := by decide +kernel
def xch_5 : List ((Nat × Nat) × (Nat × Nat) × (Nat × Nat) × (Nat × Nat)) := [((1, 192), (1, 32), (1, 33), (0, 0)), ((3, 207), (0, 0), (0, 0), (0, 0)), ((3, 213), (0, 0), (0, 0), (0, 0)), ((3, 217), (0, 0), (0, 0), (0, 0)), ((4, 13), (0, 0), (0, 0), (0, 0)), ((4, 14), (0, 0), (0, 0), (0, 0)), ((4, 21), (0, 0), (0, 0), (0, 0)), ((3, 238), (0, 0), (0, 0), (0, 0)), ((4, 18), (0, 0), (0, 0), (0, 0)), ((3, 221), (0, 0), (0, 0), (0, 0)), ((3, 226), (0, 0), (0, 0), (0, 0)), ((3, 234), (0, 0), (0, 0), (0, 0)), ((4, 2), (0, 0), (0, 0), (0, 0)), ((4, 9), (0, 0), (0, 0), (0, 0)), ((3, 230), (0, 0), (0, 0), (0, 0)), ((4, 6), (0, 0), (0, 0), (0, 0)), ((4, 25), (0, 0), (0, 0), (0, 0)), ((4, 33), (0, 0), (0, 0), (0, 0)), ((4, 37), (0, 0), (0, 0), (0, 0)), ((4, 44), (0, 0), (0, 0), (0, 0)), ((4, 48), (0, 0), (0, 0), (0, 0)), ((4, 60), (0, 0), (0, 0), (0, 0)), ((4, 64), (0, 0), (0, 0), (0, 0)), ((4, 71), (0, 0), (0, 0), (0, 0)), ((4, 75), (0, 0), (0, 0), (0, 0)), ((4, 79), (0, 0), (0, 0), (0, 0)), ((4, 29), (0, 0), (0, 0), (0, 0)), ((4, 41), (0, 0), (0, 0), (0, 0)), ((4, 52), (0, 0), (0, 0), (0, 0)), ((4, 56), (0, 0), (0, 0), (0, 0)), ((4, 68), (4, 70), (4, 69), (1, 24)), ((4, 83), (0, 0), (0, 0), (0, 0))]
theorem gC_5 : (xc_5.zip xch_5).all (ck_C "RelationFinder$Machine") = true := by decide +kernel
theorem gS_5 (vz : Value) : am_StOk xTs xTw (xkz vz) "RelationFinder$Machine" (am_lk xs_5) := fun ix v h => by cases h
theorem gG_6 : xg_6.all (ck_G "RelationFinder$Renamings") = true := by decide +kernel
theorem gP_6 (mn : String) : am_PtOk xcl xTs xTw "RelationFinder$Renamings" mn (am_lk xp_6) := ck_P_ok (by
  have h : xp_6.all (ck_P "RelationFinder$Renamings" "") = true := by decide +kernel
  exact List.all_eq_true.mpr (fun x hx => ck_P_any (List.all_eq_true.mp h x hx) (List.all_eq_true.mp (show xp_6.all (fun x => x.2.2.2.2 == false) = true from by decide +kernel) x hx)))
theorem gPi_6 : xpi_6.all (ck_P "RelationFinder$Renamings" "<init>") = true := by decide +kernel
theorem gN_6 : xn_6.all (ck_N "RelationFinder$Renamings") = true := by decide +kernel
theorem gQ_6 : xq_6.all (ck_Q "RelationFinder$Renamings") = true := by decide +kernel
theorem gH_6 : xh_6.all (ck_H "RelationFinder$Renamings") = true := by decide +kernel
theorem gL_6 : xl_6.all (ck_L "RelationFinder$Renamings") = true := by decide +kernel
def xch_6 : List ((Nat × Nat) × (Nat × Nat) × (Nat × Nat) × (Nat × Nat)) := [((1, 228), (1, 32), (1, 33), (0, 0)), ((4, 106), (0, 0), (0, 0), (0, 0)), ((4, 115), (0, 0), (0, 0), (0, 0)), ((4, 123), (0, 0), (0, 0), (0, 0)), ((4, 110), (0, 0), (0, 0), (0, 0)), ((4, 111), (0, 0), (0, 0), (0, 0)), ((4, 119), (0, 0), (0, 0), (0, 0)), ((4, 127), (0, 0), (0, 0), (0, 0))]
theorem gC_6 : (xc_6.zip xch_6).all (ck_C "RelationFinder$Renamings") = true := by decide +kernel
theorem gS_6 (vz : Value) : am_StOk xTs xTw (xkz vz) "RelationFinder$Renamings" (am_lk xs_6) := fun ix v h => by cases h
theorem gG_7 : xg_7.all (ck_G "RelationFinder$Code") = true := by decide +kernel
theorem gP_7 (mn : String) : am_PtOk xcl xTs xTw "RelationFinder$Code" mn (am_lk xp_7) := ck_P_ok (by
  have h : xp_7.all (ck_P "RelationFinder$Code" "") = true := by decide +kernel
  exact List.all_eq_true.mpr (fun x hx => ck_P_any (List.all_eq_true.mp h x hx) (List.all_eq_true.mp (show xp_7.all (fun x => x.2.2.2.2 == false) = true from by decide +kernel) x hx)))
theorem gPi_7 : xpi_7.all (ck_P "RelationFinder$Code" "<init>") = true := by decide +kernel
theorem gN_7 : xn_7.all (ck_N "RelationFinder$Code") = true := by decide +kernel
theorem gQ_7 : xq_7.all (ck_Q "RelationFinder$Code") = true := by decide +kernel
theorem gH_7 : xh_7.all (ck_H "RelationFinder$Code") = true := by decide +kernel
theorem gL_7 : xl_7.all (ck_L "RelationFinder$Code") = true := by decide +kernel
def xch_7 : List ((Nat × Nat) × (Nat × Nat) × (Nat × Nat) × (Nat × Nat)) := [((2, 13), (1, 32), (1, 33), (0, 0)), ((3, 140), (0, 0), (0, 0), (0, 0))]
theorem gC_7 : (xc_7.zip xch_7).all (ck_C "RelationFinder$Code") = true := by decide +kernel
theorem gS_7 (vz : Value) : am_StOk xTs xTw (xkz vz) "RelationFinder$Code" (am_lk xs_7) := fun ix v h => by cases h
theorem gG_8 : xg_8.all (ck_G "RelationFinderModel") = true := by decide +kernel
theorem gP_8 (mn : String) : am_PtOk xcl xTs xTw "RelationFinderModel" mn (am_lk xp_8) := ck_P_ok (by
  have h : xp_8.all (ck_P "RelationFinderModel" "") = true := by decide +kernel
  exact List.all_eq_true.mpr (fun x hx => ck_P_any (List.all_eq_true.mp h x hx) (List.all_eq_true.mp (show xp_8.all (fun x => x.2.2.2.2 == false) = true from by decide +kernel) x hx)))
theorem gPi_8 : xpi_8.all (ck_P "RelationFinderModel" "<init>") = true := by decide +kernel
theorem gN_8 : xn_8.all (ck_N "RelationFinderModel") = true := by decide +kernel
theorem gQ_8 : xq_8.all (ck_Q "RelationFinderModel") = true := by decide +kernel
theorem gH_8 : xh_8.all (ck_H "RelationFinderModel") = true := by decide +kernel
theorem gL_8 : xl_8.all (ck_L "RelationFinderModel") = true := by decide +kernel
def xch_8 : List ((Nat × Nat) × (Nat × Nat) × (Nat × Nat) × (Nat × Nat)) := [((5, 178), (1, 32), (1, 33), (0, 0)), ((6, 189), (0, 0), (0, 0), (0, 0)), ((6, 150), (0, 0), (0, 0), (0, 0)), ((6, 128), (0, 0), (0, 0), (0, 0)), ((6, 197), (0, 0), (0, 0), (0, 0)), ((6, 193), (0, 0), (0, 0), (0, 0)), ((6, 200), (0, 0), (0, 0), (0, 0)), ((6, 204), (0, 0), (0, 0), (0, 0)), ((6, 185), (0, 0), (0, 0), (0, 0)), ((6, 211), (0, 0), (0, 0), (0, 0)), ((6, 231), (0, 0), (0, 0), (0, 0)), ((7, 23), (0, 0), (0, 0), (0, 0)), ((7, 15), (0, 0), (0, 0), (0, 0)), ((7, 19), (0, 0), (0, 0), (0, 0)), ((7, 11), (0, 0), (0, 0), (0, 0)), ((6, 217), (0, 0), (0, 0), (0, 0)), ((7, 43), (0, 0), (0, 0), (0, 0)), ((7, 39), (0, 0), (0, 0), (0, 0)), ((7, 51), (0, 0), (0, 0), (0, 0)), ((6, 214), (0, 0), (0, 0), (0, 0)), ((6, 220), (0, 0), (0, 0), (0, 0)), ((6, 181), (0, 0), (0, 0), (0, 0)), ((7, 3), (0, 0), (0, 0), (0, 0)), ((6, 235), (0, 0), (0, 0), (0, 0)), ((6, 239), (0, 0), (0, 0), (0, 0)), ((7, 27), (0, 0), (0, 0), (0, 0)), ((7, 31), (0, 0), (0, 0), (0, 0)), ((7, 35), (0, 0), (0, 0), (0, 0)), ((7, 47), (0, 0), (0, 0), (0, 0)), ((6, 227), (0, 0), (0, 0), (0, 0)), ((7, 7), (0, 0), (0, 0), (0, 0)), ((7, 55), (0, 0), (0, 0), (0, 0)), ((6, 207), (0, 0), (0, 0), (0, 0)), ((6, 223), (0, 0), (0, 0), (0, 0)), ((6, 177), (0, 0), (0, 0), (0, 0)), ((7, 146), (0, 0), (0, 0), (0, 0)), ((6, 161), (0, 0), (0, 0), (0, 0)), ((7, 143), (0, 0), (0, 0), (0, 0)), ((7, 149), (0, 0), (0, 0), (0, 0)), ((7, 139), (0, 0), (0, 0), (0, 0)), ((7, 153), (0, 0), (0, 0), (0, 0)), ((7, 157), (0, 0), (0, 0), (0, 0)), ((7, 161), (0, 0), (0, 0), (0, 0)), ((7, 165), (0, 0), (0, 0), (0, 0)), ((7, 173), (0, 0), (0, 0), (0, 0)), ((7, 116), (0, 0), (0, 0), (0, 0)), ((7, 126), (0, 0), (0, 0), (0, 0)), ((7, 120), (0, 0), (0, 0), (0, 0)), ((7, 123), (0, 0), (0, 0), (0, 0)), ((7, 108), (0, 0), (0, 0), (0, 0)), ((7, 112), (0, 0), (0, 0), (0, 0)), ((7, 185), (0, 0), (0, 0), (0, 0)), ((7, 104), (0, 0), (0, 0), (0, 0)), ((7, 130), (0, 0), (0, 0), (0, 0)), ((7, 134), (0, 0), (0, 0), (0, 0)), ((7, 169), (0, 0), (0, 0), (0, 0)), ((7, 177), (0, 0), (0, 0), (0, 0)), ((7, 181), (0, 0), (0, 0), (0, 0)), ((7, 88), (0, 0), (0, 0), (0, 0)), ((7, 92), (0, 0), (0, 0), (0, 0)), ((7, 100), (0, 0), (0, 0), (0, 0)), ((7, 84), (0, 0), (0, 0), (0, 0)), ((7, 96), (0, 0), (0, 0), (0, 0)), ((6, 165), (0, 0), (0, 0), (0, 0)), ((7, 80), (0, 0), (0, 0), (0, 0)), ((6, 125), (0, 0), (0, 0), (0, 0)), ((6, 147), (0, 0), (0, 0), (0, 0)), ((6, 122), (0, 0), (0, 0), (0, 0)), ((6, 157), (0, 0), (0, 0), (0, 0)), ((6, 173), (0, 0), (0, 0), (0, 0)), ((7, 59), (0, 0), (0, 0), (0, 0)), ((7, 76), (0, 0), (0, 0), (0, 0)), ((7, 188), (0, 0), (0, 0), (0, 0)), ((7, 228), (0, 0), (0, 0), (0, 0)), ((7, 236), (0, 0), (0, 0), (0, 0)), ((7, 216), (0, 0), (0, 0), (0, 0)), ((7, 220), (0, 0), (0, 0), (0, 0)), ((7, 224), (0, 0), (0, 0), (0, 0)), ((7, 232), (0, 0), (0, 0), (0, 0)), ((7, 212), (0, 0), (0, 0), (0, 0)), ((8, 16), (0, 0), (0, 0), (0, 0))]
theorem gC_8 : (xc_8.zip xch_8).all (ck_C "RelationFinderModel") = true := by decide +kernel
theorem gS_8 (vz : Value) : am_StOk xTs xTw (xkz vz) "RelationFinderModel" (am_lk xs_8) := fun ix v h => by cases h
theorem gG_9 : xg_9.all (ck_G "java/lang/String") = true := by decide +kernel
theorem gP_9 (mn : String) : am_PtOk xcl xTs xTw "java/lang/String" mn (am_lk xp_9) := ck_P_ok (by
  have h : xp_9.all (ck_P "java/lang/String" "") = true := by decide +kernel
  exact List.all_eq_true.mpr (fun x hx => ck_P_any (List.all_eq_true.mp h x hx) (List.all_eq_true.mp (show xp_9.all (fun x => x.2.2.2.2 == false) = true from by decide +kernel) x hx)))
theorem gPi_9 : xpi_9.all (ck_P "java/lang/String" "<init>") = true := by decide +kernel
theorem gN_9 : xn_9.all (ck_N "java/lang/String") = true := by decide +kernel
theorem gQ_9 : xq_9.all (ck_Q "java/lang/String") = true := by decide +kernel
theorem gH_9 : xh_9.all (ck_H "java/lang/String") = true := by decide +kernel
theorem gL_9 : xl_9.all (ck_L "java/lang/String") = true := by decide +kernel
def xch_9 : List ((Nat × Nat) × (Nat × Nat) × (Nat × Nat) × (Nat × Nat)) := [((2, 178), (0, 0), (0, 0), (0, 0)), ((2, 188), (0, 0), (0, 0), (0, 0)), ((2, 192), (0, 0), (0, 0), (0, 0)), ((2, 203), (0, 0), (0, 0), (0, 0)), ((2, 231), (0, 0), (0, 0), (0, 0)), ((2, 227), (0, 0), (0, 0), (0, 0)), ((2, 232), (0, 0), (0, 0), (0, 0)), ((3, 3), (0, 0), (0, 0), (0, 0)), ((2, 200), (0, 0), (0, 0), (0, 0)), ((3, 18), (0, 0), (0, 0), (0, 0))]
theorem gC_9 : (xc_9.zip xch_9).all (ck_C "java/lang/String") = true := by decide +kernel
theorem gS_9 (vz : Value) : am_StOk xTs xTw (xkz vz) "java/lang/String" (am_lk (xs_9 vz)) := by
  intro ix v h
  have hm := am_lk_mem h
  simp only [xs_9, List.mem_cons, Prod.mk.injEq, List.not_mem_nil, or_false] at hm
  rcases hm with ⟨rfl, rfl⟩ | ⟨rfl, rfl⟩
  · exact ⟨"java/lang/String", "COMPACT_STRINGS", "Z", by simp [xkz], Or.inl (ck_in_ok (by decide +kernel))⟩
  · exact ⟨"jdk/internal/util/Preconditions", "SIOOBE_FORMATTER", "Ljava/util/function/BiFunction;", by simp [xkz], Or.inl (ck_in_ok (by decide +kernel))⟩
theorem gG_10 : xg_10.all (ck_G "java/lang/StringLatin1") = true := by decide +kernel
theorem gP_10 (mn : String) : am_PtOk xcl xTs xTw "java/lang/StringLatin1" mn (am_lk xp_10) := ck_P_ok (by
  have h : xp_10.all (ck_P "java/lang/StringLatin1" "") = true := by decide +kernel
  exact List.all_eq_true.mpr (fun x hx => ck_P_any (List.all_eq_true.mp h x hx) (List.all_eq_true.mp (show xp_10.all (fun x => x.2.2.2.2 == false) = true from by decide +kernel) x hx)))
theorem gPi_10 : xpi_10.all (ck_P "java/lang/StringLatin1" "<init>") = true := by decide +kernel
theorem gN_10 : xn_10.all (ck_N "java/lang/StringLatin1") = true := by decide +kernel
theorem gQ_10 : xq_10.all (ck_Q "java/lang/StringLatin1") = true := by decide +kernel
theorem gH_10 : xh_10.all (ck_H "java/lang/StringLatin1") = true := by decide +kernel
theorem gL_10 : xl_10.all (ck_L "java/lang/StringLatin1") = true := by decide +kernel
def xch_10 : List ((Nat × Nat) × (Nat × Nat) × (Nat × Nat) × (Nat × Nat)) := [((2, 195), (0, 0), (0, 0), (0, 0)), ((2, 239), (1, 37), (1, 3), (1, 38)), ((2, 235), (0, 0), (0, 0), (0, 0)), ((2, 238), (1, 40), (1, 3), (1, 41)), ((3, 0), (0, 0), (0, 0), (0, 0))]
theorem gC_10 : (xc_10.zip xch_10).all (ck_C "java/lang/StringLatin1") = true := by decide +kernel
theorem gS_10 (vz : Value) : am_StOk xTs xTw (xkz vz) "java/lang/StringLatin1" (am_lk xs_10) := fun ix v h => by cases h
theorem gG_11 : xg_11.all (ck_G "jdk/internal/util/Preconditions") = true := by decide +kernel
theorem gP_11 (mn : String) : am_PtOk xcl xTs xTw "jdk/internal/util/Preconditions" mn (am_lk xp_11) := ck_P_ok (by
  have h : xp_11.all (ck_P "jdk/internal/util/Preconditions" "") = true := by decide +kernel
  exact List.all_eq_true.mpr (fun x hx => ck_P_any (List.all_eq_true.mp h x hx) (List.all_eq_true.mp (show xp_11.all (fun x => x.2.2.2.2 == false) = true from by decide +kernel) x hx)))
theorem gPi_11 : xpi_11.all (ck_P "jdk/internal/util/Preconditions" "<init>") = true := by decide +kernel
theorem gN_11 : xn_11.all (ck_N "jdk/internal/util/Preconditions") = true := by decide +kernel
theorem gQ_11 : xq_11.all (ck_Q "jdk/internal/util/Preconditions") = true := by decide +kernel
theorem gH_11 : xh_11.all (ck_H "jdk/internal/util/Preconditions") = true := by decide +kernel
theorem gL_11 : xl_11.all (ck_L "jdk/internal/util/Preconditions") = true := by decide +kernel
def xch_11 : List ((Nat × Nat) × (Nat × Nat) × (Nat × Nat) × (Nat × Nat)) := []
theorem gC_11 : (xc_11.zip xch_11).all (ck_C "jdk/internal/util/Preconditions") = true := by decide +kernel
theorem gS_11 (vz : Value) : am_StOk xTs xTw (xkz vz) "jdk/internal/util/Preconditions" (am_lk xs_11) := fun ix v h => by cases h
theorem gG_12 : xg_12.all (ck_G "java/lang/StringUTF16") = true := by decide +kernel
theorem gP_12 (mn : String) : am_PtOk xcl xTs xTw "java/lang/StringUTF16" mn (am_lk xp_12) := ck_P_ok (by
  have h : xp_12.all (ck_P "java/lang/StringUTF16" "") = true := by decide +kernel
  exact List.all_eq_true.mpr (fun x hx => ck_P_any (List.all_eq_true.mp h x hx) (List.all_eq_true.mp (show xp_12.all (fun x => x.2.2.2.2 == false) = true from by decide +kernel) x hx)))
theorem gPi_12 : xpi_12.all (ck_P "java/lang/StringUTF16" "<init>") = true := by decide +kernel
theorem gN_12 : xn_12.all (ck_N "java/lang/StringUTF16") = true := by decide +kernel
theorem gQ_12 : xq_12.all (ck_Q "java/lang/StringUTF16") = true := by decide +kernel
theorem gH_12 : xh_12.all (ck_H "java/lang/StringUTF16") = true := by decide +kernel
theorem gL_12 : xl_12.all (ck_L "java/lang/StringUTF16") = true := by decide +kernel
def xch_12 : List ((Nat × Nat) × (Nat × Nat) × (Nat × Nat) × (Nat × Nat)) := [((2, 209), (0, 0), (0, 0), (0, 0)), ((2, 206), (0, 0), (0, 0), (0, 0)), ((2, 213), (0, 0), (0, 0), (0, 0)), ((3, 12), (0, 0), (0, 0), (0, 0)), ((3, 30), (0, 0), (0, 0), (0, 0)), ((3, 34), (0, 0), (0, 0), (0, 0)), ((3, 27), (0, 0), (0, 0), (0, 0)), ((3, 7), (1, 37), (1, 3), (1, 38)), ((3, 6), (1, 40), (1, 3), (1, 41)), ((3, 9), (0, 0), (0, 0), (0, 0)), ((3, 24), (0, 0), (0, 0), (0, 0)), ((3, 15), (0, 0), (0, 0), (0, 0)), ((3, 21), (0, 0), (0, 0), (0, 0)), ((2, 212), (0, 0), (0, 0), (0, 0))]
theorem gC_12 : (xc_12.zip xch_12).all (ck_C "java/lang/StringUTF16") = true := by decide +kernel
theorem gS_12 (vz : Value) : am_StOk xTs xTw (xkz vz) "java/lang/StringUTF16" (am_lk xs_12) := fun ix v h => by cases h
theorem gG_13 : xg_13.all (ck_G "java/lang/Character") = true := by decide +kernel
theorem gP_13 (mn : String) : am_PtOk xcl xTs xTw "java/lang/Character" mn (am_lk xp_13) := ck_P_ok (by
  have h : xp_13.all (ck_P "java/lang/Character" "") = true := by decide +kernel
  exact List.all_eq_true.mpr (fun x hx => ck_P_any (List.all_eq_true.mp h x hx) (List.all_eq_true.mp (show xp_13.all (fun x => x.2.2.2.2 == false) = true from by decide +kernel) x hx)))
theorem gPi_13 : xpi_13.all (ck_P "java/lang/Character" "<init>") = true := by decide +kernel
theorem gN_13 : xn_13.all (ck_N "java/lang/Character") = true := by decide +kernel
theorem gQ_13 : xq_13.all (ck_Q "java/lang/Character") = true := by decide +kernel
theorem gH_13 : xh_13.all (ck_H "java/lang/Character") = true := by decide +kernel
theorem gL_13 : xl_13.all (ck_L "java/lang/Character") = true := by decide +kernel
def xch_13 : List ((Nat × Nat) × (Nat × Nat) × (Nat × Nat) × (Nat × Nat)) := []
theorem gC_13 : (xc_13.zip xch_13).all (ck_C "java/lang/Character") = true := by decide +kernel
theorem gS_13 (vz : Value) : am_StOk xTs xTw (xkz vz) "java/lang/Character" (am_lk xs_13) := fun ix v h => by cases h
theorem gG_14 : xg_14.all (ck_G "java/lang/Integer") = true := by decide +kernel
theorem gP_14 (mn : String) : am_PtOk xcl xTs xTw "java/lang/Integer" mn (am_lk xp_14) := ck_P_ok (by
  have h : xp_14.all (ck_P "java/lang/Integer" "") = true := by decide +kernel
  exact List.all_eq_true.mpr (fun x hx => ck_P_any (List.all_eq_true.mp h x hx) (List.all_eq_true.mp (show xp_14.all (fun x => x.2.2.2.2 == false) = true from by decide +kernel) x hx)))
theorem gPi_14 : xpi_14.all (ck_P "java/lang/Integer" "<init>") = true := by decide +kernel
theorem gN_14 : xn_14.all (ck_N "java/lang/Integer") = true := by decide +kernel
theorem gQ_14 : xq_14.all (ck_Q "java/lang/Integer") = true := by decide +kernel
theorem gH_14 : xh_14.all (ck_H "java/lang/Integer") = true := by decide +kernel
theorem gL_14 : xl_14.all (ck_L "java/lang/Integer") = true := by decide +kernel
def xch_14 : List ((Nat × Nat) × (Nat × Nat) × (Nat × Nat) × (Nat × Nat)) := []
theorem gC_14 : (xc_14.zip xch_14).all (ck_C "java/lang/Integer") = true := by decide +kernel
theorem gS_14 (vz : Value) : am_StOk xTs xTw (xkz vz) "java/lang/Integer" (am_lk xs_14) := fun ix v h => by cases h
theorem gG_15 : xg_15.all (ck_G "java/util/Arrays") = true := by decide +kernel
theorem gP_15 (mn : String) : am_PtOk xcl xTs xTw "java/util/Arrays" mn (am_lk xp_15) := ck_P_ok (by
  have h : xp_15.all (ck_P "java/util/Arrays" "") = true := by decide +kernel
  exact List.all_eq_true.mpr (fun x hx => ck_P_any (List.all_eq_true.mp h x hx) (List.all_eq_true.mp (show xp_15.all (fun x => x.2.2.2.2 == false) = true from by decide +kernel) x hx)))
theorem gPi_15 : xpi_15.all (ck_P "java/util/Arrays" "<init>") = true := by decide +kernel
theorem gN_15 : xn_15.all (ck_N "java/util/Arrays") = true := by decide +kernel
theorem gQ_15 : xq_15.all (ck_Q "java/util/Arrays") = true := by decide +kernel
theorem gH_15 : xh_15.all (ck_H "java/util/Arrays") = true := by decide +kernel
theorem gL_15 : xl_15.all (ck_L "java/util/Arrays") = true := by decide +kernel
def xch_15 : List ((Nat × Nat) × (Nat × Nat) × (Nat × Nat) × (Nat × Nat)) := []
theorem gC_15 : (xc_15.zip xch_15).all (ck_C "java/util/Arrays") = true := by decide +kernel
theorem gS_15 (vz : Value) : am_StOk xTs xTw (xkz vz) "java/util/Arrays" (am_lk xs_15) := fun ix v h => by cases h
theorem gG_16 : xg_16.all (ck_G "java/lang/Long") = true := by decide +kernel
theorem gP_16 (mn : String) : am_PtOk xcl xTs xTw "java/lang/Long" mn (am_lk xp_16) := ck_P_ok (by
  have h : xp_16.all (ck_P "java/lang/Long" "") = true := by decide +kernel
  exact List.all_eq_true.mpr (fun x hx => ck_P_any (List.all_eq_true.mp h x hx) (List.all_eq_true.mp (show xp_16.all (fun x => x.2.2.2.2 == false) = true from by decide +kernel) x hx)))
theorem gPi_16 : xpi_16.all (ck_P "java/lang/Long" "<init>") = true := by decide +kernel
theorem gN_16 : xn_16.all (ck_N "java/lang/Long") = true := by decide +kernel
theorem gQ_16 : xq_16.all (ck_Q "java/lang/Long") = true := by decide +kernel
theorem gH_16 : xh_16.all (ck_H "java/lang/Long") = true := by decide +kernel
theorem gL_16 : xl_16.all (ck_L "java/lang/Long") = true := by decide +kernel
def xch_16 : List ((Nat × Nat) × (Nat × Nat) × (Nat × Nat) × (Nat × Nat)) := []
theorem gC_16 : (xc_16.zip xch_16).all (ck_C "java/lang/Long") = true := by decide +kernel
theorem gS_16 (vz : Value) : am_StOk xTs xTw (xkz vz) "java/lang/Long" (am_lk xs_16) := fun ix v h => by cases h
