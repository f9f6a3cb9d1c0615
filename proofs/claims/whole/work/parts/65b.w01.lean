/-! THE PURE LAYER: methods as functions, and runs that do what they say (1). By program. -/
/-- RelationFinderModel.isJoint(I)Z -/
def f_167 (v0 : Int) : Option Int := zo (f_166 v0) (fun r2 => zg (zR r2) (if 10 < r2 then (zo (f_166 v0) (fun r6 => zg (zR r6) (if r6 < 16 then (some 1) else (some 0)))) else (some 0)))
theorem w_167 {k : zK} {d : Nat} {x : am_H} {v0 : Int} {s : zS} {q : Int} (hd : 1 ≤ d) (h : f_167 v0 = some q) : zgo k d 167 (0, [(0, .int (Int32.ofInt v0))], []) (hp s ++ x) (.inl (some (.int (Int32.ofInt q))), hp s ++ x) := by
  unfold f_167 at h
  have hM := xM_167 k.1
  refine g_iload_n 1 hM rfl rfl rfl ?_
  obtain ⟨r2, h1, h⟩ := zo_some h
  refine g_call 4 _ [.int (Int32.ofInt r2)] hM rfl rfl rfl rfl rfl (xM_166 _) rfl rfl rfl rfl (by omega) (w_166 (by omega) h1) rfl ?_
  refine g_bipush 6 hM rfl rfl rfl ?_
  obtain ⟨hg3, h⟩ := zg_some h
  by_cases hc4 : 10 < r2
  · rw [if_pos hc4] at h
    refine g_ic_le_f 9 22 hM rfl rfl rfl hg3 (zR_lit rfl) hc4 ?_
    refine g_iload_n 10 hM rfl rfl rfl ?_
    obtain ⟨r6, h5, h⟩ := zo_some h
    refine g_call 13 _ [.int (Int32.ofInt r6)] hM rfl rfl rfl rfl rfl (xM_166 _) rfl rfl rfl rfl (by omega) (w_166 (by omega) h5) rfl ?_
    refine g_bipush 15 hM rfl rfl rfl ?_
    obtain ⟨hg7, h⟩ := zg_some h
    by_cases hc8 : r6 < 16
    · rw [if_pos hc8] at h
      refine g_ic_ge_f 18 22 hM rfl rfl rfl hg7 (zR_lit rfl) hc8 ?_
      refine g_iconst 19 hM rfl rfl ?_
      refine g_goto 23 hM rfl rfl ?_
      cases h
      exact g_ret hM rfl rfl
    · rw [if_neg hc8] at h
      refine g_ic_ge_t 22 hM rfl rfl hg7 (zR_lit rfl) hc8 ?_
      refine g_iconst 23 hM rfl rfl ?_
      cases h
      exact g_ret hM rfl rfl
  · rw [if_neg hc4] at h
    refine g_ic_le_t 22 hM rfl rfl hg3 (zR_lit rfl) hc4 ?_
    refine g_iconst 23 hM rfl rfl ?_
    cases h
    exact g_ret hM rfl rfl
def G_177_0 (k : zK) (d : Nat) (x : am_H) (r : am_A × am_H) (v1 : Int) (e : (zS)) : Prop := zgo k d 177 (0, [(0, .ref 177), (1, .int (Int32.ofInt v1))], []) (hp e ++ x) r
def K_177_0 (k : zK) (d : Nat) (x : am_H) (r : am_A × am_H) (v1 : Int) (t : ((zS) ⊕ (Int × zS))) : Prop := Sum.elim (fun e => zgo k d 177 (37, [], []) (hp e ++ x) r) (fun q => r = (.inl (some (.int (Int32.ofInt q.1))), hp q.2 ++ x)) t
/-- RelationFinderModel.last()I -/
def f_178 (s : zS) : Option Int := zg (0 ≤ ((gI s 177 38) - 1) ∧ ((gI s 177 38) - 1) < 64) (some (gI s 189 ((gI s 177 38) - 1)))
theorem w_178 {k : zK} {d : Nat} {x : am_H} {s : zS} {q : Int} (hd : 0 ≤ d) (h : f_178 s = some q) : zgo k d 178 (0, [(0, .ref 177)], []) (hp s ++ x) (.inl (some (.int (Int32.ofInt q))), hp s ++ x) := by
  unfold f_178 at h
  have hM := xM_178 k.1
  refine g_aload_n 1 hM rfl rfl rfl ?_
  refine g_getF 4 hM rfl rfl rfl rfl rfl ?_
  refine g_aload_n 5 hM rfl rfl rfl ?_
  refine g_getI 8 38 (gI s 177 38) hM rfl rfl rfl rfl rfl rfl rfl ?_
  refine g_iconst 9 hM rfl rfl ?_
  refine g_isub 10 hM rfl rfl ?_
  obtain ⟨hg1, h⟩ := zg_some h
  refine g_iaload 11 (gI s 189 ((gI s 177 38) - 1)) hM rfl rfl rfl rfl hg1 rfl ?_
  cases h
  exact g_ret hM rfl rfl
/-- RelationFinderModel.failAt(I)I -/
def f_180 (v1 : Int) (s : zS) : Option (Int × zS) := some (5, (sI s 177 5 v1))
theorem w_180 {k : zK} {d : Nat} {x : am_H} {v1 : Int} {s : zS} {q : (Int × zS)} (hd : 0 ≤ d) (h : f_180 v1 s = some q) : zgo k d 180 (0, [(0, .ref 177), (1, .int (Int32.ofInt v1))], []) (hp s ++ x) (.inl (some (.int (Int32.ofInt q.1))), hp q.2 ++ x) := by
  unfold f_180 at h
  have hM := xM_180 k.1
  refine g_aload_n 1 hM rfl rfl rfl ?_
  refine g_iload_n 2 hM rfl rfl rfl ?_
  refine g_putI 5 5 hM rfl rfl rfl rfl rfl rfl rfl ?_
  refine g_iconst 6 hM rfl rfl ?_
  cases h
  exact g_ret hM rfl rfl
def j_179_246 (v1 : Int) (v2 : Int) (v3 : Int) (v4 : Int) (v5 : Int) (s : zS) : Option (Int × zS) := zg (0 ≤ ((gI s 177 40) - 1) ∧ ((gI s 177 40) - 1) < 64) (zb (f_172 v1 v3 v2 (sI s 195 ((gI s 177 40) - 1) v4)) (fun r3 s4 => zg (zR v5) (if v5 = 0 then (zg (0 ≤ (gI s4 177 38) ∧ (gI s4 177 38) < 64) (zb (f_180 (gI s4 190 (gI s4 177 38)) s4) (fun r9 s10 => some (r9, s10)))) else (some (0, s4)))))
theorem wj_179_246 {k : zK} {d : Nat} {x : am_H} {v1 : Int} {v2 : Int} {v3 : Int} {v4 : Int} {v5 : Int} {s : zS} {q : (Int × zS)} (hd : 1 ≤ d) (h : j_179_246 v1 v2 v3 v4 v5 s = some q) : zgo k d 179 (246, [(0, .ref 177), (1, .int (Int32.ofInt v1)), (2, .int (Int32.ofInt v2)), (3, .int (Int32.ofInt v3)), (4, .int (Int32.ofInt v4)), (5, .int (Int32.ofInt v5))], []) (hp s ++ x) (.inl (some (.int (Int32.ofInt q.1))), hp q.2 ++ x) := by
  unfold j_179_246 at h
  have hM := xM_179 k.1
  refine g_aload_n 247 hM rfl rfl rfl ?_
  refine g_getF 250 hM rfl rfl rfl rfl rfl ?_
  refine g_aload_n 251 hM rfl rfl rfl ?_
  refine g_getI 254 40 (gI s 177 40) hM rfl rfl rfl rfl rfl rfl rfl ?_
  refine g_iconst 255 hM rfl rfl ?_
  refine g_isub 256 hM rfl rfl ?_
  refine g_iload 258 hM rfl rfl rfl ?_
  obtain ⟨hg1, h⟩ := zg_some h
  refine g_iastore 259 hM rfl rfl rfl rfl hg1 ?_
  refine g_aload_n 260 hM rfl rfl rfl ?_
  refine g_iload_n 261 hM rfl rfl rfl ?_
  refine g_iload_n 262 hM rfl rfl rfl ?_
  refine g_iload_n 263 hM rfl rfl rfl ?_
  obtain ⟨r3, s4, h2, h⟩ := zb_some h
  refine g_call 266 _ [] hM rfl rfl rfl rfl rfl (xM_172 _) rfl (z_rcv2 rfl) rfl rfl (by omega) (w_172 (by omega) h2) rfl ?_
  refine g_iload 268 hM rfl rfl rfl ?_
  obtain ⟨hg5, h⟩ := zg_some h
  by_cases hc6 : v5 = 0
  · rw [if_pos hc6] at h
    refine g_if_eq_t 275 hM rfl rfl hg5 hc6 ?_
    refine g_aload_n 276 hM rfl rfl rfl ?_
    refine g_aload_n 277 hM rfl rfl rfl ?_
    refine g_getF 280 hM rfl rfl rfl rfl rfl ?_
    refine g_aload_n 281 hM rfl rfl rfl ?_
    refine g_getI 284 38 (gI s4 177 38) hM rfl rfl rfl rfl rfl rfl rfl ?_
    obtain ⟨hg7, h⟩ := zg_some h
    refine g_iaload 285 (gI s4 190 (gI s4 177 38)) hM rfl rfl rfl rfl hg7 rfl ?_
    obtain ⟨r9, s10, h8, h⟩ := zb_some h
    refine g_call 288 _ [.int (Int32.ofInt r9)] hM rfl rfl rfl rfl rfl (xM_180 _) rfl (z_rcv2 rfl) rfl rfl (by omega) (w_180 (by omega) h8) rfl ?_
    cases h
    exact g_ret hM rfl rfl
  · rw [if_neg hc6] at h
    refine g_if_eq_f 271 275 hM rfl rfl rfl hg5 hc6 ?_
    refine g_iconst 272 hM rfl rfl ?_
    refine g_goto 288 hM rfl rfl ?_
    cases h
    exact g_ret hM rfl rfl
def j_179_153 (v1 : Int) (v2 : Int) (v3 : Int) (v4 : Int) (t0 : Int) (s : zS) : Option (Int × zS) := j_179_246 v1 v2 v3 v4 t0 s
theorem wj_179_153 {k : zK} {d : Nat} {x : am_H} {v1 : Int} {v2 : Int} {v3 : Int} {v4 : Int} {t0 : Int} {s : zS} {q : (Int × zS)} (hd : 1 ≤ d) (h : j_179_153 v1 v2 v3 v4 t0 s = some q) : zgo k d 179 (153, [(0, .ref 177), (1, .int (Int32.ofInt v1)), (2, .int (Int32.ofInt v2)), (3, .int (Int32.ofInt v3)), (4, .int (Int32.ofInt v4))], [.int (Int32.ofInt t0)]) (hp s ++ x) (.inl (some (.int (Int32.ofInt q.1))), hp q.2 ++ x) := by
  unfold j_179_153 at h
  have hM := xM_179 k.1
  refine g_istore 155 hM rfl rfl rfl ?_
  refine g_goto 246 hM rfl rfl ?_
  refine g_lv [(0, .ref 177), (1, .int (Int32.ofInt v1)), (2, .int (Int32.ofInt v2)), (3, .int (Int32.ofInt v3)), (4, .int (Int32.ofInt v4)), (5, .int (Int32.ofInt t0))] rfl ⟨rfl, rfl, rfl, rfl, rfl, rfl, trivial⟩ ?_
  exact wj_179_246 (by omega) h
def j_179_152 (v1 : Int) (v2 : Int) (v3 : Int) (v4 : Int) (s : zS) : Option (Int × zS) := j_179_153 v1 v2 v3 v4 0 s
theorem wj_179_152 {k : zK} {d : Nat} {x : am_H} {v1 : Int} {v2 : Int} {v3 : Int} {v4 : Int} {s : zS} {q : (Int × zS)} (hd : 1 ≤ d) (h : j_179_152 v1 v2 v3 v4 s = some q) : zgo k d 179 (152, [(0, .ref 177), (1, .int (Int32.ofInt v1)), (2, .int (Int32.ofInt v2)), (3, .int (Int32.ofInt v3)), (4, .int (Int32.ofInt v4))], []) (hp s ++ x) (.inl (some (.int (Int32.ofInt q.1))), hp q.2 ++ x) := by
  unfold j_179_152 at h
  have hM := xM_179 k.1
  refine g_iconst 153 hM rfl rfl ?_
  refine g_lv [(0, .ref 177), (1, .int (Int32.ofInt v1)), (2, .int (Int32.ofInt v2)), (3, .int (Int32.ofInt v3)), (4, .int (Int32.ofInt v4))] rfl ⟨rfl, rfl, rfl, rfl, rfl, trivial⟩ ?_
  exact wj_179_153 (by omega) h
def j_179_174 (v1 : Int) (v2 : Int) (v3 : Int) (v4 : Int) (t0 : Int) (s : zS) : Option (Int × zS) := j_179_246 v1 v2 v3 v4 t0 s
theorem wj_179_174 {k : zK} {d : Nat} {x : am_H} {v1 : Int} {v2 : Int} {v3 : Int} {v4 : Int} {t0 : Int} {s : zS} {q : (Int × zS)} (hd : 1 ≤ d) (h : j_179_174 v1 v2 v3 v4 t0 s = some q) : zgo k d 179 (174, [(0, .ref 177), (1, .int (Int32.ofInt v1)), (2, .int (Int32.ofInt v2)), (3, .int (Int32.ofInt v3)), (4, .int (Int32.ofInt v4))], [.int (Int32.ofInt t0)]) (hp s ++ x) (.inl (some (.int (Int32.ofInt q.1))), hp q.2 ++ x) := by
  unfold j_179_174 at h
  have hM := xM_179 k.1
  refine g_istore 176 hM rfl rfl rfl ?_
  refine g_goto 246 hM rfl rfl ?_
  refine g_lv [(0, .ref 177), (1, .int (Int32.ofInt v1)), (2, .int (Int32.ofInt v2)), (3, .int (Int32.ofInt v3)), (4, .int (Int32.ofInt v4)), (5, .int (Int32.ofInt t0))] rfl ⟨rfl, rfl, rfl, rfl, rfl, rfl, trivial⟩ ?_
  exact wj_179_246 (by omega) h
def j_179_195 (v1 : Int) (v2 : Int) (v3 : Int) (v4 : Int) (t0 : Int) (s : zS) : Option (Int × zS) := j_179_246 v1 v2 v3 v4 t0 s
theorem wj_179_195 {k : zK} {d : Nat} {x : am_H} {v1 : Int} {v2 : Int} {v3 : Int} {v4 : Int} {t0 : Int} {s : zS} {q : (Int × zS)} (hd : 1 ≤ d) (h : j_179_195 v1 v2 v3 v4 t0 s = some q) : zgo k d 179 (195, [(0, .ref 177), (1, .int (Int32.ofInt v1)), (2, .int (Int32.ofInt v2)), (3, .int (Int32.ofInt v3)), (4, .int (Int32.ofInt v4))], [.int (Int32.ofInt t0)]) (hp s ++ x) (.inl (some (.int (Int32.ofInt q.1))), hp q.2 ++ x) := by
  unfold j_179_195 at h
  have hM := xM_179 k.1
  refine g_istore 197 hM rfl rfl rfl ?_
  refine g_goto 246 hM rfl rfl ?_
  refine g_lv [(0, .ref 177), (1, .int (Int32.ofInt v1)), (2, .int (Int32.ofInt v2)), (3, .int (Int32.ofInt v3)), (4, .int (Int32.ofInt v4)), (5, .int (Int32.ofInt t0))] rfl ⟨rfl, rfl, rfl, rfl, rfl, rfl, trivial⟩ ?_
  exact wj_179_246 (by omega) h
def j_179_229 (v1 : Int) (v2 : Int) (v3 : Int) (v4 : Int) (t0 : Int) (s : zS) : Option (Int × zS) := j_179_246 v1 v2 v3 v4 t0 s
theorem wj_179_229 {k : zK} {d : Nat} {x : am_H} {v1 : Int} {v2 : Int} {v3 : Int} {v4 : Int} {t0 : Int} {s : zS} {q : (Int × zS)} (hd : 1 ≤ d) (h : j_179_229 v1 v2 v3 v4 t0 s = some q) : zgo k d 179 (229, [(0, .ref 177), (1, .int (Int32.ofInt v1)), (2, .int (Int32.ofInt v2)), (3, .int (Int32.ofInt v3)), (4, .int (Int32.ofInt v4))], [.int (Int32.ofInt t0)]) (hp s ++ x) (.inl (some (.int (Int32.ofInt q.1))), hp q.2 ++ x) := by
  unfold j_179_229 at h
  have hM := xM_179 k.1
  refine g_istore 231 hM rfl rfl rfl ?_
  refine g_goto 246 hM rfl rfl ?_
  refine g_lv [(0, .ref 177), (1, .int (Int32.ofInt v1)), (2, .int (Int32.ofInt v2)), (3, .int (Int32.ofInt v3)), (4, .int (Int32.ofInt v4)), (5, .int (Int32.ofInt t0))] rfl ⟨rfl, rfl, rfl, rfl, rfl, rfl, trivial⟩ ?_
  exact wj_179_246 (by omega) h
def j_179_228 (v1 : Int) (v2 : Int) (v3 : Int) (v4 : Int) (s : zS) : Option (Int × zS) := j_179_229 v1 v2 v3 v4 0 s
theorem wj_179_228 {k : zK} {d : Nat} {x : am_H} {v1 : Int} {v2 : Int} {v3 : Int} {v4 : Int} {s : zS} {q : (Int × zS)} (hd : 1 ≤ d) (h : j_179_228 v1 v2 v3 v4 s = some q) : zgo k d 179 (228, [(0, .ref 177), (1, .int (Int32.ofInt v1)), (2, .int (Int32.ofInt v2)), (3, .int (Int32.ofInt v3)), (4, .int (Int32.ofInt v4))], []) (hp s ++ x) (.inl (some (.int (Int32.ofInt q.1))), hp q.2 ++ x) := by
  unfold j_179_228 at h
  have hM := xM_179 k.1
  refine g_iconst 229 hM rfl rfl ?_
  refine g_lv [(0, .ref 177), (1, .int (Int32.ofInt v1)), (2, .int (Int32.ofInt v2)), (3, .int (Int32.ofInt v3)), (4, .int (Int32.ofInt v4))] rfl ⟨rfl, rfl, rfl, rfl, rfl, trivial⟩ ?_
  exact wj_179_229 (by omega) h
def j_179_212 (v1 : Int) (v2 : Int) (v3 : Int) (v4 : Int) (s : zS) : Option (Int × zS) := zg (zR v4) (if v4 < 1 then (j_179_228 v1 v2 v3 v4 s) else (if 3 < v4 then (j_179_228 v1 v2 v3 v4 s) else (j_179_229 v1 v2 v3 v4 1 s)))
theorem wj_179_212 {k : zK} {d : Nat} {x : am_H} {v1 : Int} {v2 : Int} {v3 : Int} {v4 : Int} {s : zS} {q : (Int × zS)} (hd : 1 ≤ d) (h : j_179_212 v1 v2 v3 v4 s = some q) : zgo k d 179 (212, [(0, .ref 177), (1, .int (Int32.ofInt v1)), (2, .int (Int32.ofInt v2)), (3, .int (Int32.ofInt v3)), (4, .int (Int32.ofInt v4))], []) (hp s ++ x) (.inl (some (.int (Int32.ofInt q.1))), hp q.2 ++ x) := by
  unfold j_179_212 at h
  have hM := xM_179 k.1
  refine g_iload 214 hM rfl rfl rfl ?_
  refine g_iconst 215 hM rfl rfl ?_
  obtain ⟨hg1, h⟩ := zg_some h
  by_cases hc2 : v4 < 1
  · rw [if_pos hc2] at h
    refine g_ic_lt_t 228 hM rfl rfl hg1 (zR_lit rfl) hc2 ?_
    refine g_lv [(0, .ref 177), (1, .int (Int32.ofInt v1)), (2, .int (Int32.ofInt v2)), (3, .int (Int32.ofInt v3)), (4, .int (Int32.ofInt v4))] rfl ⟨rfl, rfl, rfl, rfl, rfl, trivial⟩ ?_
    exact wj_179_228 (by omega) h
  · rw [if_neg hc2] at h
    refine g_ic_lt_f 218 228 hM rfl rfl rfl hg1 (zR_lit rfl) hc2 ?_
    refine g_iload 220 hM rfl rfl rfl ?_
    refine g_iconst 221 hM rfl rfl ?_
    by_cases hc3 : 3 < v4
    · rw [if_pos hc3] at h
      refine g_ic_gt_t 228 hM rfl rfl hg1 (zR_lit rfl) hc3 ?_
      refine g_lv [(0, .ref 177), (1, .int (Int32.ofInt v1)), (2, .int (Int32.ofInt v2)), (3, .int (Int32.ofInt v3)), (4, .int (Int32.ofInt v4))] rfl ⟨rfl, rfl, rfl, rfl, rfl, trivial⟩ ?_
      exact wj_179_228 (by omega) h
    · rw [if_neg hc3] at h
      refine g_ic_gt_f 224 228 hM rfl rfl rfl hg1 (zR_lit rfl) hc3 ?_
      refine g_iconst 225 hM rfl rfl ?_
      refine g_goto 229 hM rfl rfl ?_
      refine g_lv [(0, .ref 177), (1, .int (Int32.ofInt v1)), (2, .int (Int32.ofInt v2)), (3, .int (Int32.ofInt v3)), (4, .int (Int32.ofInt v4))] rfl ⟨rfl, rfl, rfl, rfl, rfl, trivial⟩ ?_
      exact wj_179_229 (by omega) h
def j_179_244 (v1 : Int) (v2 : Int) (v3 : Int) (v4 : Int) (t0 : Int) (s : zS) : Option (Int × zS) := j_179_246 v1 v2 v3 v4 t0 s
theorem wj_179_244 {k : zK} {d : Nat} {x : am_H} {v1 : Int} {v2 : Int} {v3 : Int} {v4 : Int} {t0 : Int} {s : zS} {q : (Int × zS)} (hd : 1 ≤ d) (h : j_179_244 v1 v2 v3 v4 t0 s = some q) : zgo k d 179 (244, [(0, .ref 177), (1, .int (Int32.ofInt v1)), (2, .int (Int32.ofInt v2)), (3, .int (Int32.ofInt v3)), (4, .int (Int32.ofInt v4))], [.int (Int32.ofInt t0)]) (hp s ++ x) (.inl (some (.int (Int32.ofInt q.1))), hp q.2 ++ x) := by
  unfold j_179_244 at h
  have hM := xM_179 k.1
  refine g_istore 246 hM rfl rfl rfl ?_
  refine g_lv [(0, .ref 177), (1, .int (Int32.ofInt v1)), (2, .int (Int32.ofInt v2)), (3, .int (Int32.ofInt v3)), (4, .int (Int32.ofInt v4)), (5, .int (Int32.ofInt t0))] rfl ⟨rfl, rfl, rfl, rfl, rfl, rfl, trivial⟩ ?_
  exact wj_179_246 (by omega) h
def j_179_130 (v1 : Int) (v2 : Int) (v3 : Int) (t0 : Int) (s : zS) : Option (Int × zS) := zg (zR v1) (if v1 = 31 then (zg (zR v3) (if v3 = 2 then (zg (zR v2) (if v2 = 2 then (j_179_153 v1 v2 v3 t0 1 s) else (j_179_152 v1 v2 v3 t0 s))) else (j_179_152 v1 v2 v3 t0 s))) else (if v1 = 32 then (zg (zR v3) (if v3 = 1 then (j_179_174 v1 v2 v3 t0 1 s) else (j_179_174 v1 v2 v3 t0 0 s))) else (if v1 = 33 then (zg (zR v2) (if v2 = 1 then (j_179_195 v1 v2 v3 t0 1 s) else (j_179_195 v1 v2 v3 t0 0 s))) else (if v1 = 30 then (j_179_212 v1 v2 v3 t0 s) else (if v1 = 37 then (j_179_212 v1 v2 v3 t0 s) else (zg (zR v3) (zg (zR v2) (if v3 = v2 then (j_179_244 v1 v2 v3 t0 1 s) else (j_179_244 v1 v2 v3 t0 0 s)))))))))
theorem wj_179_130 {k : zK} {d : Nat} {x : am_H} {v1 : Int} {v2 : Int} {v3 : Int} {t0 : Int} {s : zS} {q : (Int × zS)} (hd : 1 ≤ d) (h : j_179_130 v1 v2 v3 t0 s = some q) : zgo k d 179 (130, [(0, .ref 177), (1, .int (Int32.ofInt v1)), (2, .int (Int32.ofInt v2)), (3, .int (Int32.ofInt v3))], [.int (Int32.ofInt t0)]) (hp s ++ x) (.inl (some (.int (Int32.ofInt q.1))), hp q.2 ++ x) := by
  unfold j_179_130 at h
  have hM := xM_179 k.1
  refine g_istore 132 hM rfl rfl rfl ?_
  refine g_iload_n 133 hM rfl rfl rfl ?_
  refine g_bipush 135 hM rfl rfl rfl ?_
  obtain ⟨hg1, h⟩ := zg_some h
  by_cases hc2 : v1 = 31
  · rw [if_pos hc2] at h
    refine g_ic_ne_f 138 158 hM rfl rfl rfl hg1 (zR_lit rfl) hc2 ?_
    refine g_iload_n 139 hM rfl rfl rfl ?_
    refine g_iconst 140 hM rfl rfl ?_
    obtain ⟨hg3, h⟩ := zg_some h
    by_cases hc4 : v3 = 2
    · rw [if_pos hc4] at h
      refine g_ic_ne_f 143 152 hM rfl rfl rfl hg3 (zR_lit rfl) hc4 ?_
      refine g_iload_n 144 hM rfl rfl rfl ?_
      refine g_iconst 145 hM rfl rfl ?_
      obtain ⟨hg5, h⟩ := zg_some h
      by_cases hc6 : v2 = 2
      · rw [if_pos hc6] at h
        refine g_ic_ne_f 148 152 hM rfl rfl rfl hg5 (zR_lit rfl) hc6 ?_
        refine g_iconst 149 hM rfl rfl ?_
        refine g_goto 153 hM rfl rfl ?_
        refine g_lv [(0, .ref 177), (1, .int (Int32.ofInt v1)), (2, .int (Int32.ofInt v2)), (3, .int (Int32.ofInt v3)), (4, .int (Int32.ofInt t0))] rfl ⟨rfl, rfl, rfl, rfl, rfl, trivial⟩ ?_
        exact wj_179_153 (by omega) h
      · rw [if_neg hc6] at h
        refine g_ic_ne_t 152 hM rfl rfl hg5 (zR_lit rfl) hc6 ?_
        refine g_lv [(0, .ref 177), (1, .int (Int32.ofInt v1)), (2, .int (Int32.ofInt v2)), (3, .int (Int32.ofInt v3)), (4, .int (Int32.ofInt t0))] rfl ⟨rfl, rfl, rfl, rfl, rfl, trivial⟩ ?_
        exact wj_179_152 (by omega) h
    · rw [if_neg hc4] at h
      refine g_ic_ne_t 152 hM rfl rfl hg3 (zR_lit rfl) hc4 ?_
      refine g_lv [(0, .ref 177), (1, .int (Int32.ofInt v1)), (2, .int (Int32.ofInt v2)), (3, .int (Int32.ofInt v3)), (4, .int (Int32.ofInt t0))] rfl ⟨rfl, rfl, rfl, rfl, rfl, trivial⟩ ?_
      exact wj_179_152 (by omega) h
  · rw [if_neg hc2] at h
    refine g_ic_ne_t 158 hM rfl rfl hg1 (zR_lit rfl) hc2 ?_
    refine g_iload_n 159 hM rfl rfl rfl ?_
    refine g_bipush 161 hM rfl rfl rfl ?_
    by_cases hc7 : v1 = 32
    · rw [if_pos hc7] at h
      refine g_ic_ne_f 164 179 hM rfl rfl rfl hg1 (zR_lit rfl) hc7 ?_
      refine g_iload_n 165 hM rfl rfl rfl ?_
      refine g_iconst 166 hM rfl rfl ?_
      obtain ⟨hg8, h⟩ := zg_some h
      by_cases hc9 : v3 = 1
      · rw [if_pos hc9] at h
        refine g_ic_ne_f 169 173 hM rfl rfl rfl hg8 (zR_lit rfl) hc9 ?_
        refine g_iconst 170 hM rfl rfl ?_
        refine g_goto 174 hM rfl rfl ?_
        refine g_lv [(0, .ref 177), (1, .int (Int32.ofInt v1)), (2, .int (Int32.ofInt v2)), (3, .int (Int32.ofInt v3)), (4, .int (Int32.ofInt t0))] rfl ⟨rfl, rfl, rfl, rfl, rfl, trivial⟩ ?_
        exact wj_179_174 (by omega) h
      · rw [if_neg hc9] at h
        refine g_ic_ne_t 173 hM rfl rfl hg8 (zR_lit rfl) hc9 ?_
        refine g_iconst 174 hM rfl rfl ?_
        refine g_lv [(0, .ref 177), (1, .int (Int32.ofInt v1)), (2, .int (Int32.ofInt v2)), (3, .int (Int32.ofInt v3)), (4, .int (Int32.ofInt t0))] rfl ⟨rfl, rfl, rfl, rfl, rfl, trivial⟩ ?_
        exact wj_179_174 (by omega) h
    · rw [if_neg hc7] at h
      refine g_ic_ne_t 179 hM rfl rfl hg1 (zR_lit rfl) hc7 ?_
      refine g_iload_n 180 hM rfl rfl rfl ?_
      refine g_bipush 182 hM rfl rfl rfl ?_
      by_cases hc10 : v1 = 33
      · rw [if_pos hc10] at h
        refine g_ic_ne_f 185 200 hM rfl rfl rfl hg1 (zR_lit rfl) hc10 ?_
        refine g_iload_n 186 hM rfl rfl rfl ?_
        refine g_iconst 187 hM rfl rfl ?_
        obtain ⟨hg11, h⟩ := zg_some h
        by_cases hc12 : v2 = 1
        · rw [if_pos hc12] at h
          refine g_ic_ne_f 190 194 hM rfl rfl rfl hg11 (zR_lit rfl) hc12 ?_
          refine g_iconst 191 hM rfl rfl ?_
          refine g_goto 195 hM rfl rfl ?_
          refine g_lv [(0, .ref 177), (1, .int (Int32.ofInt v1)), (2, .int (Int32.ofInt v2)), (3, .int (Int32.ofInt v3)), (4, .int (Int32.ofInt t0))] rfl ⟨rfl, rfl, rfl, rfl, rfl, trivial⟩ ?_
          exact wj_179_195 (by omega) h
        · rw [if_neg hc12] at h
          refine g_ic_ne_t 194 hM rfl rfl hg11 (zR_lit rfl) hc12 ?_
          refine g_iconst 195 hM rfl rfl ?_
          refine g_lv [(0, .ref 177), (1, .int (Int32.ofInt v1)), (2, .int (Int32.ofInt v2)), (3, .int (Int32.ofInt v3)), (4, .int (Int32.ofInt t0))] rfl ⟨rfl, rfl, rfl, rfl, rfl, trivial⟩ ?_
          exact wj_179_195 (by omega) h
      · rw [if_neg hc10] at h
        refine g_ic_ne_t 200 hM rfl rfl hg1 (zR_lit rfl) hc10 ?_
        refine g_iload_n 201 hM rfl rfl rfl ?_
        refine g_bipush 203 hM rfl rfl rfl ?_
        by_cases hc13 : v1 = 30
        · rw [if_pos hc13] at h
          refine g_ic_eq_t 212 hM rfl rfl hg1 (zR_lit rfl) hc13 ?_
          refine g_lv [(0, .ref 177), (1, .int (Int32.ofInt v1)), (2, .int (Int32.ofInt v2)), (3, .int (Int32.ofInt v3)), (4, .int (Int32.ofInt t0))] rfl ⟨rfl, rfl, rfl, rfl, rfl, trivial⟩ ?_
          exact wj_179_212 (by omega) h
        · rw [if_neg hc13] at h
          refine g_ic_eq_f 206 212 hM rfl rfl rfl hg1 (zR_lit rfl) hc13 ?_
          refine g_iload_n 207 hM rfl rfl rfl ?_
          refine g_bipush 209 hM rfl rfl rfl ?_
          by_cases hc14 : v1 = 37
          · rw [if_pos hc14] at h
            refine g_ic_ne_f 212 234 hM rfl rfl rfl hg1 (zR_lit rfl) hc14 ?_
            refine g_lv [(0, .ref 177), (1, .int (Int32.ofInt v1)), (2, .int (Int32.ofInt v2)), (3, .int (Int32.ofInt v3)), (4, .int (Int32.ofInt t0))] rfl ⟨rfl, rfl, rfl, rfl, rfl, trivial⟩ ?_
            exact wj_179_212 (by omega) h
          · rw [if_neg hc14] at h
            refine g_ic_ne_t 234 hM rfl rfl hg1 (zR_lit rfl) hc14 ?_
            refine g_iload_n 235 hM rfl rfl rfl ?_
            refine g_iload_n 236 hM rfl rfl rfl ?_
            obtain ⟨hg15, h⟩ := zg_some h
            obtain ⟨hg16, h⟩ := zg_some h
            by_cases hc17 : v3 = v2
            · rw [if_pos hc17] at h
              refine g_ic_ne_f 239 243 hM rfl rfl rfl hg15 hg16 hc17 ?_
              refine g_iconst 240 hM rfl rfl ?_
              refine g_goto 244 hM rfl rfl ?_
              refine g_lv [(0, .ref 177), (1, .int (Int32.ofInt v1)), (2, .int (Int32.ofInt v2)), (3, .int (Int32.ofInt v3)), (4, .int (Int32.ofInt t0))] rfl ⟨rfl, rfl, rfl, rfl, rfl, trivial⟩ ?_
              exact wj_179_244 (by omega) h
            · rw [if_neg hc17] at h
              refine g_ic_ne_t 243 hM rfl rfl hg15 hg16 hc17 ?_
              refine g_iconst 244 hM rfl rfl ?_
              refine g_lv [(0, .ref 177), (1, .int (Int32.ofInt v1)), (2, .int (Int32.ofInt v2)), (3, .int (Int32.ofInt v3)), (4, .int (Int32.ofInt t0))] rfl ⟨rfl, rfl, rfl, rfl, rfl, trivial⟩ ?_
              exact wj_179_244 (by omega) h
/-- RelationFinderModel.endJoint()I -/
def f_179 (s : zS) : Option (Int × zS) := zg (0 ≤ (gI (sI s 177 38 ((gI s 177 38) - 1)) 177 38) ∧ (gI (sI s 177 38 ((gI s 177 38) - 1)) 177 38) < 64) (zg (0 ≤ ((gI s 177 40) - 1) ∧ ((gI s 177 40) - 1) < 64) (zo (f_166 (gI s 189 (gI (sI s 177 38 ((gI s 177 38) - 1)) 177 38))) (fun r4 => zg (zR r4) (if r4 = 16 then (zb (f_172 (gI s 189 (gI (sI s 177 38 ((gI s 177 38) - 1)) 177 38)) 0 0 (sI s 177 38 ((gI s 177 38) - 1))) (fun r8 s9 => if (gI s 195 ((gI s 177 40) - 1)) = 2 then (some (0, s9)) else (zg (0 ≤ (gI s9 177 38) ∧ (gI s9 177 38) < 64) (zb (f_180 (gI s9 190 (gI s9 177 38)) s9) (fun r13 s14 => some (r13, s14)))))) else (zg (0 ≤ ((gI (sI (sI s 177 38 ((gI s 177 38) - 1)) 177 40 ((gI s 177 40) - 1)) 177 40) - 1) ∧ ((gI (sI (sI s 177 38 ((gI s 177 38) - 1)) 177 40 ((gI s 177 40) - 1)) 177 40) - 1) < 64) (if (gI s 189 (gI (sI s 177 38 ((gI s 177 38) - 1)) 177 38)) = 30 then (j_179_130 (gI s 189 (gI (sI s 177 38 ((gI s 177 38) - 1)) 177 38)) (gI s 195 ((gI s 177 40) - 1)) (gI s 195 ((gI (sI (sI s 177 38 ((gI s 177 38) - 1)) 177 40 ((gI s 177 40) - 1)) 177 40) - 1)) ((gI s 195 ((gI (sI (sI s 177 38 ((gI s 177 38) - 1)) 177 40 ((gI s 177 40) - 1)) 177 40) - 1)) + (gI s 195 ((gI s 177 40) - 1))) (sI (sI s 177 38 ((gI s 177 38) - 1)) 177 40 ((gI s 177 40) - 1))) else (if (gI s 189 (gI (sI s 177 38 ((gI s 177 38) - 1)) 177 38)) = 37 then (j_179_130 (gI s 189 (gI (sI s 177 38 ((gI s 177 38) - 1)) 177 38)) (gI s 195 ((gI s 177 40) - 1)) (gI s 195 ((gI (sI (sI s 177 38 ((gI s 177 38) - 1)) 177 40 ((gI s 177 40) - 1)) 177 40) - 1)) (((gI s 195 ((gI (sI (sI s 177 38 ((gI s 177 38) - 1)) 177 40 ((gI s 177 40) - 1)) 177 40) - 1)) + (gI s 195 ((gI s 177 40) - 1))) - 2) (sI (sI s 177 38 ((gI s 177 38) - 1)) 177 40 ((gI s 177 40) - 1))) else (if (gI s 189 (gI (sI s 177 38 ((gI s 177 38) - 1)) 177 38)) = 32 then (j_179_130 (gI s 189 (gI (sI s 177 38 ((gI s 177 38) - 1)) 177 38)) (gI s 195 ((gI s 177 40) - 1)) (gI s 195 ((gI (sI (sI s 177 38 ((gI s 177 38) - 1)) 177 40 ((gI s 177 40) - 1)) 177 40) - 1)) (gI s 195 ((gI s 177 40) - 1)) (sI (sI s 177 38 ((gI s 177 38) - 1)) 177 40 ((gI s 177 40) - 1))) else (j_179_130 (gI s 189 (gI (sI s 177 38 ((gI s 177 38) - 1)) 177 38)) (gI s 195 ((gI s 177 40) - 1)) (gI s 195 ((gI (sI (sI s 177 38 ((gI s 177 38) - 1)) 177 40 ((gI s 177 40) - 1)) 177 40) - 1)) (gI s 195 ((gI (sI (sI s 177 38 ((gI s 177 38) - 1)) 177 40 ((gI s 177 40) - 1)) 177 40) - 1)) (sI (sI s 177 38 ((gI s 177 38) - 1)) 177 40 ((gI s 177 40) - 1)))))))))))
theorem w_179 {k : zK} {d : Nat} {x : am_H} {s : zS} {q : (Int × zS)} (hd : 1 ≤ d) (h : f_179 s = some q) : zgo k d 179 (0, [(0, .ref 177)], []) (hp s ++ x) (.inl (some (.int (Int32.ofInt q.1))), hp q.2 ++ x) := by
  unfold f_179 at h
  have hM := xM_179 k.1
  refine g_aload_n 1 hM rfl rfl rfl ?_
  refine g_dup 2 hM rfl rfl rfl ?_
  refine g_getI 5 38 (gI s 177 38) hM rfl rfl rfl rfl rfl rfl rfl ?_
  refine g_iconst 6 hM rfl rfl ?_
  refine g_isub 7 hM rfl rfl ?_
  refine g_putI 10 38 hM rfl rfl rfl rfl rfl rfl rfl ?_
  refine g_aload_n 11 hM rfl rfl rfl ?_
  refine g_getF 14 hM rfl rfl rfl rfl rfl ?_
  refine g_aload_n 15 hM rfl rfl rfl ?_
  refine g_getI 18 38 (gI (sI s 177 38 ((gI s 177 38) - 1)) 177 38) hM rfl rfl rfl rfl rfl rfl rfl ?_
  obtain ⟨hg1, h⟩ := zg_some h
  refine g_iaload 19 (gI s 189 (gI (sI s 177 38 ((gI s 177 38) - 1)) 177 38)) hM rfl rfl rfl rfl hg1 rfl ?_
  refine g_istore_n 20 hM rfl rfl rfl ?_
  refine g_aload_n 21 hM rfl rfl rfl ?_
  refine g_getF 24 hM rfl rfl rfl rfl rfl ?_
  refine g_aload_n 25 hM rfl rfl rfl ?_
  refine g_getI 28 40 (gI s 177 40) hM rfl rfl rfl rfl rfl rfl rfl ?_
  refine g_iconst 29 hM rfl rfl ?_
  refine g_isub 30 hM rfl rfl ?_
  obtain ⟨hg2, h⟩ := zg_some h
  refine g_iaload 31 (gI s 195 ((gI s 177 40) - 1)) hM rfl rfl rfl rfl hg2 rfl ?_
  refine g_istore_n 32 hM rfl rfl rfl ?_
  refine g_iload_n 33 hM rfl rfl rfl ?_
  obtain ⟨r4, h3, h⟩ := zo_some h
  refine g_call 36 _ [.int (Int32.ofInt r4)] hM rfl rfl rfl rfl rfl (xM_166 _) rfl rfl rfl rfl (by omega) (w_166 (by omega) h3) rfl ?_
  refine g_bipush 38 hM rfl rfl rfl ?_
  obtain ⟨hg5, h⟩ := zg_some h
  by_cases hc6 : r4 = 16
  · rw [if_pos hc6] at h
    refine g_ic_ne_f 41 71 hM rfl rfl rfl hg5 (zR_lit rfl) hc6 ?_
    refine g_aload_n 42 hM rfl rfl rfl ?_
    refine g_iload_n 43 hM rfl rfl rfl ?_
    refine g_iconst 44 hM rfl rfl ?_
    refine g_iconst 45 hM rfl rfl ?_
    obtain ⟨r8, s9, h7, h⟩ := zb_some h
    refine g_call 48 _ [] hM rfl rfl rfl rfl rfl (xM_172 _) rfl (z_rcv2 rfl) rfl rfl (by omega) (w_172 (by omega) h7) rfl ?_
    refine g_iload_n 49 hM rfl rfl rfl ?_
    refine g_iconst 50 hM rfl rfl ?_
    by_cases hc10 : (gI s 195 ((gI s 177 40) - 1)) = 2
    · rw [if_pos hc10] at h
      refine g_ic_ne_f 53 57 hM rfl rfl rfl (zR_gI _ _ _) (zR_lit rfl) hc10 ?_
      refine g_iconst 54 hM rfl rfl ?_
      refine g_goto 70 hM rfl rfl ?_
      cases h
      exact g_ret hM rfl rfl
    · rw [if_neg hc10] at h
      refine g_ic_ne_t 57 hM rfl rfl (zR_gI _ _ _) (zR_lit rfl) hc10 ?_
      refine g_aload_n 58 hM rfl rfl rfl ?_
      refine g_aload_n 59 hM rfl rfl rfl ?_
      refine g_getF 62 hM rfl rfl rfl rfl rfl ?_
      refine g_aload_n 63 hM rfl rfl rfl ?_
      refine g_getI 66 38 (gI s9 177 38) hM rfl rfl rfl rfl rfl rfl rfl ?_
      obtain ⟨hg11, h⟩ := zg_some h
      refine g_iaload 67 (gI s9 190 (gI s9 177 38)) hM rfl rfl rfl rfl hg11 rfl ?_
      obtain ⟨r13, s14, h12, h⟩ := zb_some h
      refine g_call 70 _ [.int (Int32.ofInt r13)] hM rfl rfl rfl rfl rfl (xM_180 _) rfl (z_rcv2 rfl) rfl rfl (by omega) (w_180 (by omega) h12) rfl ?_
      cases h
      exact g_ret hM rfl rfl
  · rw [if_neg hc6] at h
    refine g_ic_ne_t 71 hM rfl rfl hg5 (zR_lit rfl) hc6 ?_
    refine g_aload_n 72 hM rfl rfl rfl ?_
    refine g_dup 73 hM rfl rfl rfl ?_
    refine g_getI 76 40 (gI s 177 40) hM rfl rfl rfl rfl rfl rfl rfl ?_
    refine g_iconst 77 hM rfl rfl ?_
    refine g_isub 78 hM rfl rfl ?_
    refine g_putI 81 40 hM rfl rfl rfl rfl rfl rfl rfl ?_
    refine g_aload_n 82 hM rfl rfl rfl ?_
    refine g_getF 85 hM rfl rfl rfl rfl rfl ?_
    refine g_aload_n 86 hM rfl rfl rfl ?_
    refine g_getI 89 40 (gI (sI (sI s 177 38 ((gI s 177 38) - 1)) 177 40 ((gI s 177 40) - 1)) 177 40) hM rfl rfl rfl rfl rfl rfl rfl ?_
    refine g_iconst 90 hM rfl rfl ?_
    refine g_isub 91 hM rfl rfl ?_
    obtain ⟨hg15, h⟩ := zg_some h
    refine g_iaload 92 (gI s 195 ((gI (sI (sI s 177 38 ((gI s 177 38) - 1)) 177 40 ((gI s 177 40) - 1)) 177 40) - 1)) hM rfl rfl rfl rfl hg15 rfl ?_
    refine g_istore_n 93 hM rfl rfl rfl ?_
    refine g_iload_n 94 hM rfl rfl rfl ?_
    refine g_bipush 96 hM rfl rfl rfl ?_
    by_cases hc16 : (gI s 189 (gI (sI s 177 38 ((gI s 177 38) - 1)) 177 38)) = 30
    · rw [if_pos hc16] at h
      refine g_ic_ne_f 99 105 hM rfl rfl rfl (zR_gI _ _ _) (zR_lit rfl) hc16 ?_
      refine g_iload_n 100 hM rfl rfl rfl ?_
      refine g_iload_n 101 hM rfl rfl rfl ?_
      refine g_iadd 102 hM rfl rfl ?_
      refine g_goto 130 hM rfl rfl ?_
      refine g_lv [(0, .ref 177), (1, .int (Int32.ofInt (gI s 189 (gI (sI s 177 38 ((gI s 177 38) - 1)) 177 38)))), (2, .int (Int32.ofInt (gI s 195 ((gI s 177 40) - 1)))), (3, .int (Int32.ofInt (gI s 195 ((gI (sI (sI s 177 38 ((gI s 177 38) - 1)) 177 40 ((gI s 177 40) - 1)) 177 40) - 1))))] rfl ⟨rfl, rfl, rfl, rfl, trivial⟩ ?_
      exact wj_179_130 (by omega) h
    · rw [if_neg hc16] at h
      refine g_ic_ne_t 105 hM rfl rfl (zR_gI _ _ _) (zR_lit rfl) hc16 ?_
      refine g_iload_n 106 hM rfl rfl rfl ?_
      refine g_bipush 108 hM rfl rfl rfl ?_
      by_cases hc17 : (gI s 189 (gI (sI s 177 38 ((gI s 177 38) - 1)) 177 38)) = 37
      · rw [if_pos hc17] at h
        refine g_ic_ne_f 111 119 hM rfl rfl rfl (zR_gI _ _ _) (zR_lit rfl) hc17 ?_
        refine g_iload_n 112 hM rfl rfl rfl ?_
        refine g_iload_n 113 hM rfl rfl rfl ?_
        refine g_iadd 114 hM rfl rfl ?_
        refine g_iconst 115 hM rfl rfl ?_
        refine g_isub 116 hM rfl rfl ?_
        refine g_goto 130 hM rfl rfl ?_
        refine g_lv [(0, .ref 177), (1, .int (Int32.ofInt (gI s 189 (gI (sI s 177 38 ((gI s 177 38) - 1)) 177 38)))), (2, .int (Int32.ofInt (gI s 195 ((gI s 177 40) - 1)))), (3, .int (Int32.ofInt (gI s 195 ((gI (sI (sI s 177 38 ((gI s 177 38) - 1)) 177 40 ((gI s 177 40) - 1)) 177 40) - 1))))] rfl ⟨rfl, rfl, rfl, rfl, trivial⟩ ?_
        exact wj_179_130 (by omega) h
      · rw [if_neg hc17] at h
        refine g_ic_ne_t 119 hM rfl rfl (zR_gI _ _ _) (zR_lit rfl) hc17 ?_
        refine g_iload_n 120 hM rfl rfl rfl ?_
        refine g_bipush 122 hM rfl rfl rfl ?_
        by_cases hc18 : (gI s 189 (gI (sI s 177 38 ((gI s 177 38) - 1)) 177 38)) = 32
        · rw [if_pos hc18] at h
          refine g_ic_ne_f 125 129 hM rfl rfl rfl (zR_gI _ _ _) (zR_lit rfl) hc18 ?_
          refine g_iload_n 126 hM rfl rfl rfl ?_
          refine g_goto 130 hM rfl rfl ?_
          refine g_lv [(0, .ref 177), (1, .int (Int32.ofInt (gI s 189 (gI (sI s 177 38 ((gI s 177 38) - 1)) 177 38)))), (2, .int (Int32.ofInt (gI s 195 ((gI s 177 40) - 1)))), (3, .int (Int32.ofInt (gI s 195 ((gI (sI (sI s 177 38 ((gI s 177 38) - 1)) 177 40 ((gI s 177 40) - 1)) 177 40) - 1))))] rfl ⟨rfl, rfl, rfl, rfl, trivial⟩ ?_
          exact wj_179_130 (by omega) h
        · rw [if_neg hc18] at h
          refine g_ic_ne_t 129 hM rfl rfl (zR_gI _ _ _) (zR_lit rfl) hc18 ?_
          refine g_iload_n 130 hM rfl rfl rfl ?_
          refine g_lv [(0, .ref 177), (1, .int (Int32.ofInt (gI s 189 (gI (sI s 177 38 ((gI s 177 38) - 1)) 177 38)))), (2, .int (Int32.ofInt (gI s 195 ((gI s 177 40) - 1)))), (3, .int (Int32.ofInt (gI s 195 ((gI (sI (sI s 177 38 ((gI s 177 38) - 1)) 177 40 ((gI s 177 40) - 1)) 177 40) - 1))))] rfl ⟨rfl, rfl, rfl, rfl, trivial⟩ ?_
          exact wj_179_130 (by omega) h
def b_177_0 (v1 : Int) (s : zS) : Option ((zS) ⊕ ((zS) ⊕ (Int × zS))) := zo (f_178 s) (fun r2 => zo (f_166 r2) (fun r4 => zg (zR r4) (zg (zR v1) (if r4 < v1 then (some (.inr (.inl s))) else (zo (f_178 s) (fun r9 => zo (f_166 r9) (fun r11 => zg (zR r11) (if 10 < r11 then (zb (f_179 s) (fun r15 s16 => zg (zR r15) (if 0 < r15 then (some (.inr (.inr (r15, s16)))) else (some (.inl s16))))) else (some (.inr (.inl s)))))))))))
theorem wb_177_0 {k : zK} {d : Nat} {x : am_H} {r : am_A × am_H} {v1 : Int} {s : zS} {q : (zS) ⊕ ((zS) ⊕ (Int × zS))} (hd : 2 ≤ d) (h : b_177_0 v1 s = some q) (hK : Sum.elim (G_177_0 k d x r v1) (K_177_0 k d x r v1) q) : G_177_0 k d x r v1 s := by
  unfold b_177_0 at h
  have hM := xM_177 k.1
  show zgo k d 177 (0, [(0, .ref 177), (1, .int (Int32.ofInt v1))], []) (hp s ++ x) r
  refine g_aload_n 1 hM rfl rfl rfl ?_
  obtain ⟨r2, h1, h⟩ := zo_some h
  refine g_call 4 _ [.int (Int32.ofInt r2)] hM rfl rfl rfl rfl rfl (xM_178 _) rfl (z_rcv2 rfl) rfl rfl (by omega) (w_178 (by omega) h1) rfl ?_
  obtain ⟨r4, h3, h⟩ := zo_some h
  refine g_call 7 _ [.int (Int32.ofInt r4)] hM rfl rfl rfl rfl rfl (xM_166 _) rfl rfl rfl rfl (by omega) (w_166 (by omega) h3) rfl ?_
  refine g_iload_n 8 hM rfl rfl rfl ?_
  obtain ⟨hg5, h⟩ := zg_some h
  obtain ⟨hg6, h⟩ := zg_some h
  by_cases hc7 : r4 < v1
  · rw [if_pos hc7] at h
    refine g_ic_lt_t 37 hM rfl rfl hg5 hg6 hc7 ?_
    cases h
    exact g_lv [] rfl trivial hK
  · rw [if_neg hc7] at h
    refine g_ic_lt_f 11 37 hM rfl rfl rfl hg5 hg6 hc7 ?_
    refine g_aload_n 12 hM rfl rfl rfl ?_
    obtain ⟨r9, h8, h⟩ := zo_some h
    refine g_call 15 _ [.int (Int32.ofInt r9)] hM rfl rfl rfl rfl rfl (xM_178 _) rfl (z_rcv2 rfl) rfl rfl (by omega) (w_178 (by omega) h8) rfl ?_
    obtain ⟨r11, h10, h⟩ := zo_some h
    refine g_call 18 _ [.int (Int32.ofInt r11)] hM rfl rfl rfl rfl rfl (xM_166 _) rfl rfl rfl rfl (by omega) (w_166 (by omega) h10) rfl ?_
    refine g_bipush 20 hM rfl rfl rfl ?_
    obtain ⟨hg12, h⟩ := zg_some h
    by_cases hc13 : 10 < r11
    · rw [if_pos hc13] at h
      refine g_ic_le_f 23 37 hM rfl rfl rfl hg12 (zR_lit rfl) hc13 ?_
      refine g_aload_n 24 hM rfl rfl rfl ?_
      obtain ⟨r15, s16, h14, h⟩ := zb_some h
      refine g_call 27 _ [.int (Int32.ofInt r15)] hM rfl rfl rfl rfl rfl (xM_179 _) rfl (z_rcv2 rfl) rfl rfl (by omega) (w_179 (by omega) h14) rfl ?_
      refine g_istore_n 28 hM rfl rfl rfl ?_
      refine g_iload_n 29 hM rfl rfl rfl ?_
      obtain ⟨hg17, h⟩ := zg_some h
      by_cases hc18 : 0 < r15
      · rw [if_pos hc18] at h
        refine g_if_le_f 32 34 hM rfl rfl rfl hg17 hc18 ?_
        refine g_iload_n 33 hM rfl rfl rfl ?_
        cases h
        rw [show r = _ from hK]
        exact g_ret hM rfl rfl
      · rw [if_neg hc18] at h
        refine g_if_le_t 34 hM rfl rfl hg17 hc18 ?_
        refine g_goto 0 hM rfl rfl ?_
        cases h
        exact g_lv [(0, .ref 177), (1, .int (Int32.ofInt v1))] rfl ⟨rfl, rfl, trivial⟩ hK
    · rw [if_neg hc13] at h
      refine g_ic_le_t 37 hM rfl rfl hg12 (zR_lit rfl) hc13 ?_
      cases h
      exact g_lv [] rfl trivial hK
theorem wl_177_0 {k : zK} {d : Nat} {x : am_H} {r : am_A × am_H} {v1 : Int} {n : Nat} {e : (zS)} {t : ((zS) ⊕ (Int × zS))} (hd : 2 ≤ d) (h : zlp (fun (q : zS) => b_177_0 v1 q) n e = some t) (hK : K_177_0 k d x r v1 t) : G_177_0 k d x r v1 e := zlp_go (G := fun e => G_177_0 k d x r v1 e) (K := K_177_0 k d x r v1) (fun e e1 h1 hg => wb_177_0 (q := .inl e1) hd h1 hg) (fun e t1 h1 hk => wb_177_0 (q := .inr t1) hd h1 hk) n e t h hK
/-- RelationFinderModel.endJoints(I)I -/
def f_177 (v1 : Int) (s : zS) : Option (Int × zS) := zo (zlp (fun (q : zS) => b_177_0 v1 q) zF s) (fun e1 => Sum.elim (fun e3 => some (0, e3)) (fun q4 => some q4) e1)
theorem w_177 {k : zK} {d : Nat} {x : am_H} {v1 : Int} {s : zS} {q : (Int × zS)} (hd : 2 ≤ d) (h : f_177 v1 s = some q) : zgo k d 177 (0, [(0, .ref 177), (1, .int (Int32.ofInt v1))], []) (hp s ++ x) (.inl (some (.int (Int32.ofInt q.1))), hp q.2 ++ x) := by
  unfold f_177 at h
  have hM := xM_177 k.1
  obtain ⟨e1, h2, h⟩ := zo_some h
  refine g_lv [(0, .ref 177), (1, .int (Int32.ofInt v1))] rfl ⟨rfl, rfl, trivial⟩ ?_
  refine wl_177_0 (by omega) h2 ?_
  rcases e1 with e3 | q4
  · simp only [ze_l] at h
    show zgo k d 177 (37, [], []) (hp e3 ++ x) (.inl (some (.int (Int32.ofInt q.1))), hp q.2 ++ x)
    refine g_iconst 38 hM rfl rfl ?_
    cases h
    exact g_ret hM rfl rfl
  · cases h
    rfl
def j_181_86 (s : zS) : Option (Int × zS) := zg (0 ≤ ((gI s 177 40) - 1) ∧ ((gI s 177 40) - 1) < 64) (if (gI s 195 ((gI s 177 40) - 1)) = 1 then (some (0, s)) else (zg (0 ≤ ((gI s 177 38) - 1) ∧ ((gI s 177 38) - 1) < 64) (zb (f_180 (gI s 190 ((gI s 177 38) - 1)) s) (fun r5 s6 => some (r5, s6)))))
theorem wj_181_86 {k : zK} {d : Nat} {x : am_H} {s : zS} {q : (Int × zS)} (hd : 3 ≤ d) (h : j_181_86 s = some q) : zgo k d 181 (86, [(0, .ref 177)], []) (hp s ++ x) (.inl (some (.int (Int32.ofInt q.1))), hp q.2 ++ x) := by
  unfold j_181_86 at h
  have hM := xM_181 k.1
  refine g_aload_n 87 hM rfl rfl rfl ?_
  refine g_getF 90 hM rfl rfl rfl rfl rfl ?_
  refine g_aload_n 91 hM rfl rfl rfl ?_
  refine g_getI 94 40 (gI s 177 40) hM rfl rfl rfl rfl rfl rfl rfl ?_
  refine g_iconst 95 hM rfl rfl ?_
  refine g_isub 96 hM rfl rfl ?_
  obtain ⟨hg1, h⟩ := zg_some h
  refine g_iaload 97 (gI s 195 ((gI s 177 40) - 1)) hM rfl rfl rfl rfl hg1 rfl ?_
  refine g_iconst 98 hM rfl rfl ?_
  by_cases hc2 : (gI s 195 ((gI s 177 40) - 1)) = 1
  · rw [if_pos hc2] at h
    refine g_ic_eq_t 117 hM rfl rfl (zR_gI _ _ _) (zR_lit rfl) hc2 ?_
    refine g_iconst 118 hM rfl rfl ?_
    cases h
    exact g_ret hM rfl rfl
  · rw [if_neg hc2] at h
    refine g_ic_eq_f 101 117 hM rfl rfl rfl (zR_gI _ _ _) (zR_lit rfl) hc2 ?_
    refine g_aload_n 102 hM rfl rfl rfl ?_
    refine g_aload_n 103 hM rfl rfl rfl ?_
    refine g_getF 106 hM rfl rfl rfl rfl rfl ?_
    refine g_aload_n 107 hM rfl rfl rfl ?_
    refine g_getI 110 38 (gI s 177 38) hM rfl rfl rfl rfl rfl rfl rfl ?_
    refine g_iconst 111 hM rfl rfl ?_
    refine g_isub 112 hM rfl rfl ?_
    obtain ⟨hg3, h⟩ := zg_some h
    refine g_iaload 113 (gI s 190 ((gI s 177 38) - 1)) hM rfl rfl rfl rfl hg3 rfl ?_
    obtain ⟨r5, s6, h4, h⟩ := zb_some h
    refine g_call 116 _ [.int (Int32.ofInt r5)] hM rfl rfl rfl rfl rfl (xM_180 _) rfl (z_rcv2 rfl) rfl rfl (by omega) (w_180 (by omega) h4) rfl ?_
    cases h
    exact g_ret hM rfl rfl
/-- RelationFinderModel.endExpression()I -/
def f_181 (s : zS) : Option (Int × zS) := zb (f_177 11 s) (fun r2 s3 => zg (zR r2) (if 0 < r2 then (some (r2, s3)) else (zo (f_178 s3) (fun r7 => zg (zR r7) (if r7 = 68 then (zg (0 ≤ ((gI s3 177 40) - 1) ∧ ((gI s3 177 40) - 1) < 64) (zg (0 ≤ ((gI s3 177 38) - 1) ∧ ((gI s3 177 38) - 1) < 64) (if (gI s3 191 ((gI s3 177 38) - 1)) = (gI s3 195 ((gI s3 177 40) - 1)) then (some (0, s3)) else (zb (f_180 (gI s3 190 ((gI s3 177 38) - 1)) s3) (fun r14 s15 => some (r14, s15)))))) else (zo (f_178 s3) (fun r17 => zg (zR r17) (if r17 = 62 then (j_181_86 s3) else (zo (f_178 s3) (fun r21 => zg (zR r21) (if r21 = 64 then (j_181_86 s3) else (some (0, s3)))))))))))))
theorem w_181 {k : zK} {d : Nat} {x : am_H} {s : zS} {q : (Int × zS)} (hd : 3 ≤ d) (h : f_181 s = some q) : zgo k d 181 (0, [(0, .ref 177)], []) (hp s ++ x) (.inl (some (.int (Int32.ofInt q.1))), hp q.2 ++ x) := by
  unfold f_181 at h
  have hM := xM_181 k.1
  refine g_aload_n 1 hM rfl rfl rfl ?_
  refine g_bipush 3 hM rfl rfl rfl ?_
  obtain ⟨r2, s3, h1, h⟩ := zb_some h
  refine g_call 6 _ [.int (Int32.ofInt r2)] hM rfl rfl rfl rfl rfl (xM_177 _) rfl (z_rcv2 rfl) rfl rfl (by omega) (w_177 (by omega) h1) rfl ?_
  refine g_istore_n 7 hM rfl rfl rfl ?_
  refine g_iload_n 8 hM rfl rfl rfl ?_
  obtain ⟨hg4, h⟩ := zg_some h
  by_cases hc5 : 0 < r2
  · rw [if_pos hc5] at h
    refine g_if_le_f 11 13 hM rfl rfl rfl hg4 hc5 ?_
    refine g_iload_n 12 hM rfl rfl rfl ?_
    cases h
    exact g_ret hM rfl rfl
  · rw [if_neg hc5] at h
    refine g_if_le_t 13 hM rfl rfl hg4 hc5 ?_
    refine g_aload_n 14 hM rfl rfl rfl ?_
    obtain ⟨r7, h6, h⟩ := zo_some h
    refine g_call 17 _ [.int (Int32.ofInt r7)] hM rfl rfl rfl rfl rfl (xM_178 _) rfl (z_rcv2 rfl) rfl rfl (by omega) (w_178 (by omega) h6) rfl ?_
    refine g_bipush 19 hM rfl rfl rfl ?_
    obtain ⟨hg8, h⟩ := zg_some h
    by_cases hc9 : r7 = 68
    · rw [if_pos hc9] at h
      refine g_ic_ne_f 22 68 hM rfl rfl rfl hg8 (zR_lit rfl) hc9 ?_
      refine g_aload_n 23 hM rfl rfl rfl ?_
      refine g_getF 26 hM rfl rfl rfl rfl rfl ?_
      refine g_aload_n 27 hM rfl rfl rfl ?_
      refine g_getI 30 40 (gI s3 177 40) hM rfl rfl rfl rfl rfl rfl rfl ?_
      refine g_iconst 31 hM rfl rfl ?_
      refine g_isub 32 hM rfl rfl ?_
      obtain ⟨hg10, h⟩ := zg_some h
      refine g_iaload 33 (gI s3 195 ((gI s3 177 40) - 1)) hM rfl rfl rfl rfl hg10 rfl ?_
      refine g_istore_n 34 hM rfl rfl rfl ?_
      refine g_aload_n 35 hM rfl rfl rfl ?_
      refine g_getF 38 hM rfl rfl rfl rfl rfl ?_
      refine g_aload_n 39 hM rfl rfl rfl ?_
      refine g_getI 42 38 (gI s3 177 38) hM rfl rfl rfl rfl rfl rfl rfl ?_
      refine g_iconst 43 hM rfl rfl ?_
      refine g_isub 44 hM rfl rfl ?_
      obtain ⟨hg11, h⟩ := zg_some h
      refine g_iaload 45 (gI s3 191 ((gI s3 177 38) - 1)) hM rfl rfl rfl rfl hg11 rfl ?_
      refine g_iload_n 46 hM rfl rfl rfl ?_
      by_cases hc12 : (gI s3 191 ((gI s3 177 38) - 1)) = (gI s3 195 ((gI s3 177 40) - 1))
      · rw [if_pos hc12] at h
        refine g_ic_eq_t 65 hM rfl rfl (zR_gI _ _ _) (zR_gI _ _ _) hc12 ?_
        refine g_goto 117 hM rfl rfl ?_
        refine g_iconst 118 hM rfl rfl ?_
        cases h
        exact g_ret hM rfl rfl
      · rw [if_neg hc12] at h
        refine g_ic_eq_f 49 65 hM rfl rfl rfl (zR_gI _ _ _) (zR_gI _ _ _) hc12 ?_
        refine g_aload_n 50 hM rfl rfl rfl ?_
        refine g_aload_n 51 hM rfl rfl rfl ?_
        refine g_getF 54 hM rfl rfl rfl rfl rfl ?_
        refine g_aload_n 55 hM rfl rfl rfl ?_
        refine g_getI 58 38 (gI s3 177 38) hM rfl rfl rfl rfl rfl rfl rfl ?_
        refine g_iconst 59 hM rfl rfl ?_
        refine g_isub 60 hM rfl rfl ?_
        refine g_iaload 61 (gI s3 190 ((gI s3 177 38) - 1)) hM rfl rfl rfl rfl hg11 rfl ?_
        obtain ⟨r14, s15, h13, h⟩ := zb_some h
        refine g_call 64 _ [.int (Int32.ofInt r14)] hM rfl rfl rfl rfl rfl (xM_180 _) rfl (z_rcv2 rfl) rfl rfl (by omega) (w_180 (by omega) h13) rfl ?_
        cases h
        exact g_ret hM rfl rfl
    · rw [if_neg hc9] at h
      refine g_ic_ne_t 68 hM rfl rfl hg8 (zR_lit rfl) hc9 ?_
      refine g_aload_n 69 hM rfl rfl rfl ?_
      obtain ⟨r17, h16, h⟩ := zo_some h
      refine g_call 72 _ [.int (Int32.ofInt r17)] hM rfl rfl rfl rfl rfl (xM_178 _) rfl (z_rcv2 rfl) rfl rfl (by omega) (w_178 (by omega) h16) rfl ?_
      refine g_bipush 74 hM rfl rfl rfl ?_
      obtain ⟨hg18, h⟩ := zg_some h
      by_cases hc19 : r17 = 62
      · rw [if_pos hc19] at h
        refine g_ic_eq_t 86 hM rfl rfl hg18 (zR_lit rfl) hc19 ?_
        refine g_lv [(0, .ref 177)] rfl ⟨rfl, trivial⟩ ?_
        exact wj_181_86 (by omega) h
      · rw [if_neg hc19] at h
        refine g_ic_eq_f 77 86 hM rfl rfl rfl hg18 (zR_lit rfl) hc19 ?_
        refine g_aload_n 78 hM rfl rfl rfl ?_
        obtain ⟨r21, h20, h⟩ := zo_some h
        refine g_call 81 _ [.int (Int32.ofInt r21)] hM rfl rfl rfl rfl rfl (xM_178 _) rfl (z_rcv2 rfl) rfl rfl (by omega) (w_178 (by omega) h20) rfl ?_
        refine g_bipush 83 hM rfl rfl rfl ?_
        obtain ⟨hg22, h⟩ := zg_some h
        by_cases hc23 : r21 = 64
        · rw [if_pos hc23] at h
          refine g_ic_ne_f 86 117 hM rfl rfl rfl hg22 (zR_lit rfl) hc23 ?_
          refine g_lv [(0, .ref 177)] rfl ⟨rfl, trivial⟩ ?_
          exact wj_181_86 (by omega) h
        · rw [if_neg hc23] at h
          refine g_ic_ne_t 117 hM rfl rfl hg22 (zR_lit rfl) hc23 ?_
          refine g_iconst 118 hM rfl rfl ?_
          cases h
          exact g_ret hM rfl rfl
def j_176_132 (t1 : Int) (t2 : Int) (s : zS) : Option (Int × zS) := zg (0 ≤ t1 ∧ t1 < 64) (zg (0 ≤ ((gI s 177 38) - 1) ∧ ((gI s 177 38) - 1) < 64) (zb (f_172 3 0 0 (sI (sI (sI s 189 t1 t2) 192 ((gI s 177 38) - 1) (gI s 177 41)) 177 40 ((gI s 177 40) - 1))) (fun r4 s5 => some (0, s5))))
theorem wj_176_132 {k : zK} {d : Nat} {x : am_H} {t1 : Int} {t2 : Int} {s : zS} {q : (Int × zS)} (hd : 5 ≤ d) (h : j_176_132 t1 t2 s = some q) : zgo k d 176 (132, [(0, .ref 177)], [.int (Int32.ofInt t2), .int (Int32.ofInt t1), .ref 189]) (hp s ++ x) (.inl (some (.int (Int32.ofInt q.1))), hp q.2 ++ x) := by
  unfold j_176_132 at h
  have hM := xM_176 k.1
  obtain ⟨hg1, h⟩ := zg_some h
  refine g_iastore 133 hM rfl rfl rfl rfl hg1 ?_
  refine g_aload_n 134 hM rfl rfl rfl ?_
  refine g_getF 137 hM rfl rfl rfl rfl rfl ?_
  refine g_aload_n 138 hM rfl rfl rfl ?_
  refine g_getI 141 38 (gI s 177 38) hM rfl rfl rfl rfl rfl rfl rfl ?_
  refine g_iconst 142 hM rfl rfl ?_
  refine g_isub 143 hM rfl rfl ?_
  refine g_aload_n 144 hM rfl rfl rfl ?_
  refine g_getI 147 41 (gI s 177 41) hM rfl rfl rfl rfl rfl rfl rfl ?_
  obtain ⟨hg2, h⟩ := zg_some h
  refine g_iastore 148 hM rfl rfl rfl rfl hg2 ?_
  refine g_aload_n 149 hM rfl rfl rfl ?_
  refine g_dup 150 hM rfl rfl rfl ?_
  refine g_getI 153 40 (gI s 177 40) hM rfl rfl rfl rfl rfl rfl rfl ?_
  refine g_iconst 154 hM rfl rfl ?_
  refine g_isub 155 hM rfl rfl ?_
  refine g_putI 158 40 hM rfl rfl rfl rfl rfl rfl rfl ?_
  refine g_aload_n 159 hM rfl rfl rfl ?_
  refine g_iconst 160 hM rfl rfl ?_
  refine g_iconst 161 hM rfl rfl ?_
  refine g_iconst 162 hM rfl rfl ?_
  obtain ⟨r4, s5, h3, h⟩ := zb_some h
  refine g_call 165 _ [] hM rfl rfl rfl rfl rfl (xM_172 _) rfl (z_rcv2 rfl) rfl rfl (by omega) (w_172 (by omega) h3) rfl ?_
  refine g_iconst 166 hM rfl rfl ?_
  cases h
  exact g_ret hM rfl rfl
def j_176_109 (v2 : Int) (s : zS) : Option (Int × zS) := zg (zR v2) (if v2 = 62 then (j_176_132 ((gI s 177 38) - 1) 63 s) else (j_176_132 ((gI s 177 38) - 1) 65 s))
theorem wj_176_109 {k : zK} {d : Nat} {x : am_H} {v2 : Int} {s : zS} {q : (Int × zS)} (hd : 5 ≤ d) (h : j_176_109 v2 s = some q) : zgo k d 176 (109, [(0, .ref 177), (2, .int (Int32.ofInt v2))], []) (hp s ++ x) (.inl (some (.int (Int32.ofInt q.1))), hp q.2 ++ x) := by
  unfold j_176_109 at h
  have hM := xM_176 k.1
  refine g_aload_n 110 hM rfl rfl rfl ?_
  refine g_getF 113 hM rfl rfl rfl rfl rfl ?_
  refine g_aload_n 114 hM rfl rfl rfl ?_
  refine g_getI 117 38 (gI s 177 38) hM rfl rfl rfl rfl rfl rfl rfl ?_
  refine g_iconst 118 hM rfl rfl ?_
  refine g_isub 119 hM rfl rfl ?_
  refine g_iload_n 120 hM rfl rfl rfl ?_
  refine g_bipush 122 hM rfl rfl rfl ?_
  obtain ⟨hg1, h⟩ := zg_some h
  by_cases hc2 : v2 = 62
  · rw [if_pos hc2] at h
    refine g_ic_ne_f 125 130 hM rfl rfl rfl hg1 (zR_lit rfl) hc2 ?_
    refine g_bipush 127 hM rfl rfl rfl ?_
    refine g_goto 132 hM rfl rfl ?_
    refine g_lv [(0, .ref 177)] rfl ⟨rfl, trivial⟩ ?_
    exact wj_176_132 (by omega) h
  · rw [if_neg hc2] at h
    refine g_ic_ne_t 130 hM rfl rfl hg1 (zR_lit rfl) hc2 ?_
    refine g_bipush 132 hM rfl rfl rfl ?_
    refine g_lv [(0, .ref 177)] rfl ⟨rfl, trivial⟩ ?_
    exact wj_176_132 (by omega) h
def j_176_200 (s : zS) : Option (Int × zS) := zb (f_158 67 (gI s 177 27) (sI (sI s 177 38 ((gI s 177 38) - 1)) 177 40 ((gI s 177 40) - 1))) (fun r2 s3 => some (6, s3))
theorem wj_176_200 {k : zK} {d : Nat} {x : am_H} {s : zS} {q : (Int × zS)} (hd : 5 ≤ d) (h : j_176_200 s = some q) : zgo k d 176 (200, [(0, .ref 177)], []) (hp s ++ x) (.inl (some (.int (Int32.ofInt q.1))), hp q.2 ++ x) := by
  unfold j_176_200 at h
  have hM := xM_176 k.1
  refine g_aload_n 201 hM rfl rfl rfl ?_
  refine g_dup 202 hM rfl rfl rfl ?_
  refine g_getI 205 38 (gI s 177 38) hM rfl rfl rfl rfl rfl rfl rfl ?_
  refine g_iconst 206 hM rfl rfl ?_
  refine g_isub 207 hM rfl rfl ?_
  refine g_putI 210 38 hM rfl rfl rfl rfl rfl rfl rfl ?_
  refine g_aload_n 211 hM rfl rfl rfl ?_
  refine g_dup 212 hM rfl rfl rfl ?_
  refine g_getI 215 40 (gI s 177 40) hM rfl rfl rfl rfl rfl rfl rfl ?_
  refine g_iconst 216 hM rfl rfl ?_
  refine g_isub 217 hM rfl rfl ?_
  refine g_putI 220 40 hM rfl rfl rfl rfl rfl rfl rfl ?_
  refine g_aload_n 221 hM rfl rfl rfl ?_
  refine g_bipush 223 hM rfl rfl rfl ?_
  refine g_aload_n 224 hM rfl rfl rfl ?_
  refine g_getI 227 27 (gI s 177 27) hM rfl rfl rfl rfl rfl rfl rfl ?_
  obtain ⟨r2, s3, h1, h⟩ := zb_some h
  refine g_call 230 _ [] hM rfl rfl rfl rfl rfl (xM_158 _) rfl (z_rcv2 rfl) rfl rfl (by omega) (w_158 (by omega) h1) rfl ?_
  refine g_bipush 232 hM rfl rfl rfl ?_
  cases h
  exact g_ret hM rfl rfl
/-- RelationFinderModel.isLink(I)Z -/
def f_168 (v0 : Int) : Option Int := zo (f_166 v0) (fun r2 => zg (zR r2) (if 0 < r2 then (zo (f_166 v0) (fun r6 => zg (zR r6) (if r6 < 5 then (some 1) else (some 0)))) else (some 0)))
theorem w_168 {k : zK} {d : Nat} {x : am_H} {v0 : Int} {s : zS} {q : Int} (hd : 1 ≤ d) (h : f_168 v0 = some q) : zgo k d 168 (0, [(0, .int (Int32.ofInt v0))], []) (hp s ++ x) (.inl (some (.int (Int32.ofInt q))), hp s ++ x) := by
  unfold f_168 at h
  have hM := xM_168 k.1
  refine g_iload_n 1 hM rfl rfl rfl ?_
  obtain ⟨r2, h1, h⟩ := zo_some h
  refine g_call 4 _ [.int (Int32.ofInt r2)] hM rfl rfl rfl rfl rfl (xM_166 _) rfl rfl rfl rfl (by omega) (w_166 (by omega) h1) rfl ?_
  obtain ⟨hg3, h⟩ := zg_some h
  by_cases hc4 : 0 < r2
  · rw [if_pos hc4] at h
    refine g_if_le_f 7 19 hM rfl rfl rfl hg3 hc4 ?_
    refine g_iload_n 8 hM rfl rfl rfl ?_
    obtain ⟨r6, h5, h⟩ := zo_some h
    refine g_call 11 _ [.int (Int32.ofInt r6)] hM rfl rfl rfl rfl rfl (xM_166 _) rfl rfl rfl rfl (by omega) (w_166 (by omega) h5) rfl ?_
    refine g_iconst 12 hM rfl rfl ?_
    obtain ⟨hg7, h⟩ := zg_some h
    by_cases hc8 : r6 < 5
    · rw [if_pos hc8] at h
      refine g_ic_ge_f 15 19 hM rfl rfl rfl hg7 (zR_lit rfl) hc8 ?_
      refine g_iconst 16 hM rfl rfl ?_
      refine g_goto 20 hM rfl rfl ?_
      cases h
      exact g_ret hM rfl rfl
    · rw [if_neg hc8] at h
      refine g_ic_ge_t 19 hM rfl rfl hg7 (zR_lit rfl) hc8 ?_
      refine g_iconst 20 hM rfl rfl ?_
      cases h
      exact g_ret hM rfl rfl
  · rw [if_neg hc4] at h
    refine g_if_le_t 19 hM rfl rfl hg3 hc4 ?_
    refine g_iconst 20 hM rfl rfl ?_
    cases h
    exact g_ret hM rfl rfl
/-- RelationFinderModel.isFormulaPlace(I)Z -/
def f_169 (v0 : Int) : Option Int := zg (zR v0) (if v0 = 60 then (some 1) else (if v0 = 47 then (some 1) else (if v0 = 63 then (some 1) else (if v0 = 65 then (some 1) else (if v0 = 15 then (some 1) else (zo (f_168 v0) (fun r8 => zg (zR r8) (if r8 = 0 then (some 0) else (some 1)))))))))
theorem w_169 {k : zK} {d : Nat} {x : am_H} {v0 : Int} {s : zS} {q : Int} (hd : 2 ≤ d) (h : f_169 v0 = some q) : zgo k d 169 (0, [(0, .int (Int32.ofInt v0))], []) (hp s ++ x) (.inl (some (.int (Int32.ofInt q))), hp s ++ x) := by
  unfold f_169 at h
  have hM := xM_169 k.1
  refine g_iload_n 1 hM rfl rfl rfl ?_
  refine g_bipush 3 hM rfl rfl rfl ?_
  obtain ⟨hg1, h⟩ := zg_some h
  by_cases hc2 : v0 = 60
  · rw [if_pos hc2] at h
    refine g_ic_eq_t 37 hM rfl rfl hg1 (zR_lit rfl) hc2 ?_
    refine g_iconst 38 hM rfl rfl ?_
    refine g_goto 42 hM rfl rfl ?_
    cases h
    exact g_ret hM rfl rfl
  · rw [if_neg hc2] at h
    refine g_ic_eq_f 6 37 hM rfl rfl rfl hg1 (zR_lit rfl) hc2 ?_
    refine g_iload_n 7 hM rfl rfl rfl ?_
    refine g_bipush 9 hM rfl rfl rfl ?_
    by_cases hc3 : v0 = 47
    · rw [if_pos hc3] at h
      refine g_ic_eq_t 37 hM rfl rfl hg1 (zR_lit rfl) hc3 ?_
      refine g_iconst 38 hM rfl rfl ?_
      refine g_goto 42 hM rfl rfl ?_
      cases h
      exact g_ret hM rfl rfl
    · rw [if_neg hc3] at h
      refine g_ic_eq_f 12 37 hM rfl rfl rfl hg1 (zR_lit rfl) hc3 ?_
      refine g_iload_n 13 hM rfl rfl rfl ?_
      refine g_bipush 15 hM rfl rfl rfl ?_
      by_cases hc4 : v0 = 63
      · rw [if_pos hc4] at h
        refine g_ic_eq_t 37 hM rfl rfl hg1 (zR_lit rfl) hc4 ?_
        refine g_iconst 38 hM rfl rfl ?_
        refine g_goto 42 hM rfl rfl ?_
        cases h
        exact g_ret hM rfl rfl
      · rw [if_neg hc4] at h
        refine g_ic_eq_f 18 37 hM rfl rfl rfl hg1 (zR_lit rfl) hc4 ?_
        refine g_iload_n 19 hM rfl rfl rfl ?_
        refine g_bipush 21 hM rfl rfl rfl ?_
        by_cases hc5 : v0 = 65
        · rw [if_pos hc5] at h
          refine g_ic_eq_t 37 hM rfl rfl hg1 (zR_lit rfl) hc5 ?_
          refine g_iconst 38 hM rfl rfl ?_
          refine g_goto 42 hM rfl rfl ?_
          cases h
          exact g_ret hM rfl rfl
        · rw [if_neg hc5] at h
          refine g_ic_eq_f 24 37 hM rfl rfl rfl hg1 (zR_lit rfl) hc5 ?_
          refine g_iload_n 25 hM rfl rfl rfl ?_
          refine g_bipush 27 hM rfl rfl rfl ?_
          by_cases hc6 : v0 = 15
          · rw [if_pos hc6] at h
            refine g_ic_eq_t 37 hM rfl rfl hg1 (zR_lit rfl) hc6 ?_
            refine g_iconst 38 hM rfl rfl ?_
            refine g_goto 42 hM rfl rfl ?_
            cases h
            exact g_ret hM rfl rfl
          · rw [if_neg hc6] at h
            refine g_ic_eq_f 30 37 hM rfl rfl rfl hg1 (zR_lit rfl) hc6 ?_
            refine g_iload_n 31 hM rfl rfl rfl ?_
            obtain ⟨r8, h7, h⟩ := zo_some h
            refine g_call 34 _ [.int (Int32.ofInt r8)] hM rfl rfl rfl rfl rfl (xM_168 _) rfl rfl rfl rfl (by omega) (w_168 (by omega) h7) rfl ?_
            obtain ⟨hg9, h⟩ := zg_some h
            by_cases hc10 : r8 = 0
            · rw [if_pos hc10] at h
              refine g_if_eq_t 41 hM rfl rfl hg9 hc10 ?_
              refine g_iconst 42 hM rfl rfl ?_
              cases h
              exact g_ret hM rfl rfl
            · rw [if_neg hc10] at h
              refine g_if_eq_f 37 41 hM rfl rfl rfl hg9 hc10 ?_
              refine g_iconst 38 hM rfl rfl ?_
              refine g_goto 42 hM rfl rfl ?_
              cases h
              exact g_ret hM rfl rfl
def j_182_33 (t1 : Int) (s : zS) : Option (Int × zS) := zb (f_172 t1 0 0 s) (fun r2 s3 => some (1, (sI (sI s3 177 40 ((gI s3 177 40) - 1)) 177 38 ((gI s3 177 38) - 1))))
theorem wj_182_33 {k : zK} {d : Nat} {x : am_H} {t1 : Int} {s : zS} {q : (Int × zS)} (hd : 1 ≤ d) (h : j_182_33 t1 s = some q) : zgo k d 182 (33, [(0, .ref 177)], [.int (Int32.ofInt t1), .ref 177]) (hp s ++ x) (.inl (some (.int (Int32.ofInt q.1))), hp q.2 ++ x) := by
  unfold j_182_33 at h
  have hM := xM_182 k.1
  refine g_iconst 34 hM rfl rfl ?_
  refine g_iconst 35 hM rfl rfl ?_
  obtain ⟨r2, s3, h1, h⟩ := zb_some h
  refine g_call 38 _ [] hM rfl rfl rfl rfl rfl (xM_172 _) rfl (z_rcv2 rfl) rfl rfl (by omega) (w_172 (by omega) h1) rfl ?_
  refine g_aload_n 39 hM rfl rfl rfl ?_
  refine g_dup 40 hM rfl rfl rfl ?_
  refine g_getI 43 40 (gI s3 177 40) hM rfl rfl rfl rfl rfl rfl rfl ?_
  refine g_iconst 44 hM rfl rfl ?_
  refine g_isub 45 hM rfl rfl ?_
  refine g_putI 48 40 hM rfl rfl rfl rfl rfl rfl rfl ?_
  refine g_aload_n 49 hM rfl rfl rfl ?_
  refine g_dup 50 hM rfl rfl rfl ?_
  refine g_getI 53 38 (gI s3 177 38) hM rfl rfl rfl rfl rfl rfl rfl ?_
  refine g_iconst 54 hM rfl rfl ?_
  refine g_isub 55 hM rfl rfl ?_
  refine g_putI 58 38 hM rfl rfl rfl rfl rfl rfl rfl ?_
  refine g_iconst 59 hM rfl rfl ?_
  cases h
  exact g_ret hM rfl rfl
/-- RelationFinderModel.endLine()Z -/
def f_182 (s : zS) : Option (Int × zS) := zo (f_178 s) (fun r2 => zg (zR r2) (if r2 = 68 then (zg (0 ≤ ((gI s 177 38) - 1) ∧ ((gI s 177 38) - 1) < 64) (if (gI s 193 ((gI s 177 38) - 1)) = 20 then (j_182_33 20 s) else (j_182_33 42 s))) else (zo (f_178 s) (fun r8 => zg (zR r8) (if r8 = 106 then (zg (0 ≤ ((gI s 177 38) - 1) ∧ ((gI s 177 38) - 1) < 64) (zb (f_172 6 (gI s 193 ((gI s 177 38) - 1)) 0 s) (fun r13 s14 => some (1, (sI (sI s14 177 40 ((gI s14 177 40) - 1)) 177 38 ((gI s14 177 38) - 1)))))) else (some (0, s)))))))
theorem w_182 {k : zK} {d : Nat} {x : am_H} {s : zS} {q : (Int × zS)} (hd : 1 ≤ d) (h : f_182 s = some q) : zgo k d 182 (0, [(0, .ref 177)], []) (hp s ++ x) (.inl (some (.int (Int32.ofInt q.1))), hp q.2 ++ x) := by
  unfold f_182 at h
  have hM := xM_182 k.1
  refine g_aload_n 1 hM rfl rfl rfl ?_
  obtain ⟨r2, h1, h⟩ := zo_some h
  refine g_call 4 _ [.int (Int32.ofInt r2)] hM rfl rfl rfl rfl rfl (xM_178 _) rfl (z_rcv2 rfl) rfl rfl (by omega) (w_178 (by omega) h1) rfl ?_
  refine g_bipush 6 hM rfl rfl rfl ?_
  obtain ⟨hg3, h⟩ := zg_some h
  by_cases hc4 : r2 = 68
  · rw [if_pos hc4] at h
    refine g_ic_ne_f 9 60 hM rfl rfl rfl hg3 (zR_lit rfl) hc4 ?_
    refine g_aload_n 10 hM rfl rfl rfl ?_
    refine g_aload_n 11 hM rfl rfl rfl ?_
    refine g_getF 14 hM rfl rfl rfl rfl rfl ?_
    refine g_aload_n 15 hM rfl rfl rfl ?_
    refine g_getI 18 38 (gI s 177 38) hM rfl rfl rfl rfl rfl rfl rfl ?_
    refine g_iconst 19 hM rfl rfl ?_
    refine g_isub 20 hM rfl rfl ?_
    obtain ⟨hg5, h⟩ := zg_some h
    refine g_iaload 21 (gI s 193 ((gI s 177 38) - 1)) hM rfl rfl rfl rfl hg5 rfl ?_
    refine g_bipush 23 hM rfl rfl rfl ?_
    by_cases hc6 : (gI s 193 ((gI s 177 38) - 1)) = 20
    · rw [if_pos hc6] at h
      refine g_ic_ne_f 26 31 hM rfl rfl rfl (zR_gI _ _ _) (zR_lit rfl) hc6 ?_
      refine g_bipush 28 hM rfl rfl rfl ?_
      refine g_goto 33 hM rfl rfl ?_
      refine g_lv [(0, .ref 177)] rfl ⟨rfl, trivial⟩ ?_
      exact wj_182_33 (by omega) h
    · rw [if_neg hc6] at h
      refine g_ic_ne_t 31 hM rfl rfl (zR_gI _ _ _) (zR_lit rfl) hc6 ?_
      refine g_bipush 33 hM rfl rfl rfl ?_
      refine g_lv [(0, .ref 177)] rfl ⟨rfl, trivial⟩ ?_
      exact wj_182_33 (by omega) h
  · rw [if_neg hc4] at h
    refine g_ic_ne_t 60 hM rfl rfl hg3 (zR_lit rfl) hc4 ?_
    refine g_aload_n 61 hM rfl rfl rfl ?_
    obtain ⟨r8, h7, h⟩ := zo_some h
    refine g_call 64 _ [.int (Int32.ofInt r8)] hM rfl rfl rfl rfl rfl (xM_178 _) rfl (z_rcv2 rfl) rfl rfl (by omega) (w_178 (by omega) h7) rfl ?_
    refine g_bipush 66 hM rfl rfl rfl ?_
    obtain ⟨hg9, h⟩ := zg_some h
    by_cases hc10 : r8 = 106
    · rw [if_pos hc10] at h
      refine g_ic_ne_f 69 109 hM rfl rfl rfl hg9 (zR_lit rfl) hc10 ?_
      refine g_aload_n 70 hM rfl rfl rfl ?_
      refine g_bipush 72 hM rfl rfl rfl ?_
      refine g_aload_n 73 hM rfl rfl rfl ?_
      refine g_getF 76 hM rfl rfl rfl rfl rfl ?_
      refine g_aload_n 77 hM rfl rfl rfl ?_
      refine g_getI 80 38 (gI s 177 38) hM rfl rfl rfl rfl rfl rfl rfl ?_
      refine g_iconst 81 hM rfl rfl ?_
      refine g_isub 82 hM rfl rfl ?_
      obtain ⟨hg11, h⟩ := zg_some h
      refine g_iaload 83 (gI s 193 ((gI s 177 38) - 1)) hM rfl rfl rfl rfl hg11 rfl ?_
      refine g_iconst 84 hM rfl rfl ?_
      obtain ⟨r13, s14, h12, h⟩ := zb_some h
      refine g_call 87 _ [] hM rfl rfl rfl rfl rfl (xM_172 _) rfl (z_rcv2 rfl) rfl rfl (by omega) (w_172 (by omega) h12) rfl ?_
      refine g_aload_n 88 hM rfl rfl rfl ?_
      refine g_dup 89 hM rfl rfl rfl ?_
      refine g_getI 92 40 (gI s14 177 40) hM rfl rfl rfl rfl rfl rfl rfl ?_
      refine g_iconst 93 hM rfl rfl ?_
      refine g_isub 94 hM rfl rfl ?_
      refine g_putI 97 40 hM rfl rfl rfl rfl rfl rfl rfl ?_
      refine g_aload_n 98 hM rfl rfl rfl ?_
      refine g_dup 99 hM rfl rfl rfl ?_
      refine g_getI 102 38 (gI s14 177 38) hM rfl rfl rfl rfl rfl rfl rfl ?_
      refine g_iconst 103 hM rfl rfl ?_
      refine g_isub 104 hM rfl rfl ?_
      refine g_putI 107 38 hM rfl rfl rfl rfl rfl rfl rfl ?_
      refine g_iconst 108 hM rfl rfl ?_
      cases h
      exact g_ret hM rfl rfl
    · rw [if_neg hc10] at h
      refine g_ic_ne_t 109 hM rfl rfl hg9 (zR_lit rfl) hc10 ?_
      refine g_iconst 110 hM rfl rfl ?_
      cases h
      exact g_ret hM rfl rfl
def G_186_2 (k : zK) (d : Nat) (x : am_H) (r : am_A × am_H) (e : (Int × zS)) : Prop := zgo k d 186 (2, [(0, .ref 177), (1, .int (Int32.ofInt e.1))], []) (hp e.2 ++ x) r
def K_186_2 (k : zK) (d : Nat) (x : am_H) (r : am_A × am_H) (t : (zS)) : Prop := zgo k d 186 (37, [], []) (hp t ++ x) r
def G_184_0 (k : zK) (d : Nat) (x : am_H) (r : am_A × am_H) (v1 : Int) (e : (zS)) : Prop := zgo k d 184 (0, [(0, .ref 177), (1, .int (Int32.ofInt v1))], []) (hp e ++ x) r
def K_184_0 (k : zK) (d : Nat) (x : am_H) (r : am_A × am_H) (v1 : Int) (t : (zS)) : Prop := zgo k d 184 (37, [], []) (hp t ++ x) r
/-- RelationFinderModel.endLink()V -/
def f_185 (s : zS) : Option (Unit × zS) := zg (0 ≤ (gI (sI s 177 38 ((gI s 177 38) - 1)) 177 38) ∧ (gI (sI s 177 38 ((gI s 177 38) - 1)) 177 38) < 64) (zb (f_172 (gI s 189 (gI (sI s 177 38 ((gI s 177 38) - 1)) 177 38)) 0 0 (sI s 177 38 ((gI s 177 38) - 1))) (fun r3 s4 => some ((), s4)))
theorem w_185 {k : zK} {d : Nat} {x : am_H} {s : zS} {q : (Unit × zS)} (hd : 1 ≤ d) (h : f_185 s = some q) : zgo k d 185 (0, [(0, .ref 177)], []) (hp s ++ x) (.inl (none), hp q.2 ++ x) := by
  unfold f_185 at h
  have hM := xM_185 k.1
  refine g_aload_n 1 hM rfl rfl rfl ?_
  refine g_dup 2 hM rfl rfl rfl ?_
  refine g_getI 5 38 (gI s 177 38) hM rfl rfl rfl rfl rfl rfl rfl ?_
  refine g_iconst 6 hM rfl rfl ?_
  refine g_isub 7 hM rfl rfl ?_
  refine g_putI 10 38 hM rfl rfl rfl rfl rfl rfl rfl ?_
  refine g_aload_n 11 hM rfl rfl rfl ?_
  refine g_aload_n 12 hM rfl rfl rfl ?_
  refine g_getF 15 hM rfl rfl rfl rfl rfl ?_
  refine g_aload_n 16 hM rfl rfl rfl ?_
  refine g_getI 19 38 (gI (sI s 177 38 ((gI s 177 38) - 1)) 177 38) hM rfl rfl rfl rfl rfl rfl rfl ?_
  obtain ⟨hg1, h⟩ := zg_some h
  refine g_iaload 20 (gI s 189 (gI (sI s 177 38 ((gI s 177 38) - 1)) 177 38)) hM rfl rfl rfl rfl hg1 rfl ?_
  refine g_iconst 21 hM rfl rfl ?_
  refine g_iconst 22 hM rfl rfl ?_
  obtain ⟨r3, s4, h2, h⟩ := zb_some h
  refine g_call 25 _ [] hM rfl rfl rfl rfl rfl (xM_172 _) rfl (z_rcv2 rfl) rfl rfl (by omega) (w_172 (by omega) h2) rfl ?_
  cases h
  exact g_ret hM rfl rfl
def b_184_0 (v1 : Int) (s : zS) : Option ((zS) ⊕ (zS)) := zo (f_178 s) (fun r2 => zg (zR r2) (if r2 = 15 then (zb (f_185 s) (fun r6 s7 => some (.inl s7))) else (zo (f_178 s) (fun r9 => zo (f_168 r9) (fun r11 => zg (zR r11) (if r11 = 0 then (some (.inr s)) else (zo (f_178 s) (fun r15 => zo (f_166 r15) (fun r17 => zg (zR r17) (zg (zR v1) (if r17 < v1 then (some (.inr s)) else (zb (f_185 s) (fun r22 s23 => some (.inl s23))))))))))))))
theorem wb_184_0 {k : zK} {d : Nat} {x : am_H} {r : am_A × am_H} {v1 : Int} {s : zS} {q : (zS) ⊕ (zS)} (hd : 2 ≤ d) (h : b_184_0 v1 s = some q) (hK : Sum.elim (G_184_0 k d x r v1) (K_184_0 k d x r v1) q) : G_184_0 k d x r v1 s := by
  unfold b_184_0 at h
  have hM := xM_184 k.1
  show zgo k d 184 (0, [(0, .ref 177), (1, .int (Int32.ofInt v1))], []) (hp s ++ x) r
  refine g_aload_n 1 hM rfl rfl rfl ?_
  obtain ⟨r2, h1, h⟩ := zo_some h
  refine g_call 4 _ [.int (Int32.ofInt r2)] hM rfl rfl rfl rfl rfl (xM_178 _) rfl (z_rcv2 rfl) rfl rfl (by omega) (w_178 (by omega) h1) rfl ?_
  refine g_bipush 6 hM rfl rfl rfl ?_
  obtain ⟨hg3, h⟩ := zg_some h
  by_cases hc4 : r2 = 15
  · rw [if_pos hc4] at h
    refine g_ic_eq_t 30 hM rfl rfl hg3 (zR_lit rfl) hc4 ?_
    refine g_aload_n 31 hM rfl rfl rfl ?_
    obtain ⟨r6, s7, h5, h⟩ := zb_some h
    refine g_call 34 _ [] hM rfl rfl rfl rfl rfl (xM_185 _) rfl (z_rcv2 rfl) rfl rfl (by omega) (w_185 (by omega) h5) rfl ?_
    refine g_goto 0 hM rfl rfl ?_
    cases h
    exact g_lv [(0, .ref 177), (1, .int (Int32.ofInt v1))] rfl ⟨rfl, rfl, trivial⟩ hK
  · rw [if_neg hc4] at h
    refine g_ic_eq_f 9 30 hM rfl rfl rfl hg3 (zR_lit rfl) hc4 ?_
    refine g_aload_n 10 hM rfl rfl rfl ?_
    obtain ⟨r9, h8, h⟩ := zo_some h
    refine g_call 13 _ [.int (Int32.ofInt r9)] hM rfl rfl rfl rfl rfl (xM_178 _) rfl (z_rcv2 rfl) rfl rfl (by omega) (w_178 (by omega) h8) rfl ?_
    obtain ⟨r11, h10, h⟩ := zo_some h
    refine g_call 16 _ [.int (Int32.ofInt r11)] hM rfl rfl rfl rfl rfl (xM_168 _) rfl rfl rfl rfl (by omega) (w_168 (by omega) h10) rfl ?_
    obtain ⟨hg12, h⟩ := zg_some h
    by_cases hc13 : r11 = 0
    · rw [if_pos hc13] at h
      refine g_if_eq_t 37 hM rfl rfl hg12 hc13 ?_
      cases h
      exact g_lv [] rfl trivial hK
    · rw [if_neg hc13] at h
      refine g_if_eq_f 19 37 hM rfl rfl rfl hg12 hc13 ?_
      refine g_aload_n 20 hM rfl rfl rfl ?_
      obtain ⟨r15, h14, h⟩ := zo_some h
      refine g_call 23 _ [.int (Int32.ofInt r15)] hM rfl rfl rfl rfl rfl (xM_178 _) rfl (z_rcv2 rfl) rfl rfl (by omega) (w_178 (by omega) h14) rfl ?_
      obtain ⟨r17, h16, h⟩ := zo_some h
      refine g_call 26 _ [.int (Int32.ofInt r17)] hM rfl rfl rfl rfl rfl (xM_166 _) rfl rfl rfl rfl (by omega) (w_166 (by omega) h16) rfl ?_
      refine g_iload_n 27 hM rfl rfl rfl ?_
      obtain ⟨hg18, h⟩ := zg_some h
      obtain ⟨hg19, h⟩ := zg_some h
      by_cases hc20 : r17 < v1
      · rw [if_pos hc20] at h
        refine g_ic_lt_t 37 hM rfl rfl hg18 hg19 hc20 ?_
        cases h
        exact g_lv [] rfl trivial hK
      · rw [if_neg hc20] at h
        refine g_ic_lt_f 30 37 hM rfl rfl rfl hg18 hg19 hc20 ?_
        refine g_aload_n 31 hM rfl rfl rfl ?_
        obtain ⟨r22, s23, h21, h⟩ := zb_some h
        refine g_call 34 _ [] hM rfl rfl rfl rfl rfl (xM_185 _) rfl (z_rcv2 rfl) rfl rfl (by omega) (w_185 (by omega) h21) rfl ?_
        refine g_goto 0 hM rfl rfl ?_
        cases h
        exact g_lv [(0, .ref 177), (1, .int (Int32.ofInt v1))] rfl ⟨rfl, rfl, trivial⟩ hK
theorem wl_184_0 {k : zK} {d : Nat} {x : am_H} {r : am_A × am_H} {v1 : Int} {n : Nat} {e : (zS)} {t : (zS)} (hd : 2 ≤ d) (h : zlp (fun (q : zS) => b_184_0 v1 q) n e = some t) (hK : K_184_0 k d x r v1 t) : G_184_0 k d x r v1 e := zlp_go (G := fun e => G_184_0 k d x r v1 e) (K := K_184_0 k d x r v1) (fun e e1 h1 hg => wb_184_0 (q := .inl e1) hd h1 hg) (fun e t1 h1 hk => wb_184_0 (q := .inr t1) hd h1 hk) n e t h hK
/-- RelationFinderModel.endLinks(I)V -/
def f_184 (v1 : Int) (s : zS) : Option (Unit × zS) := zo (zlp (fun (q : zS) => b_184_0 v1 q) zF s) (fun e1 => some ((), e1))
theorem w_184 {k : zK} {d : Nat} {x : am_H} {v1 : Int} {s : zS} {q : (Unit × zS)} (hd : 2 ≤ d) (h : f_184 v1 s = some q) : zgo k d 184 (0, [(0, .ref 177), (1, .int (Int32.ofInt v1))], []) (hp s ++ x) (.inl (none), hp q.2 ++ x) := by
  unfold f_184 at h
  have hM := xM_184 k.1
  obtain ⟨e1, h2, h⟩ := zo_some h
  refine g_lv [(0, .ref 177), (1, .int (Int32.ofInt v1))] rfl ⟨rfl, rfl, trivial⟩ ?_
  refine wl_184_0 (by omega) h2 ?_
  show zgo k d 184 (37, [], []) (hp e1 ++ x) (.inl (none), hp q.2 ++ x)
  cases h
  exact g_ret hM rfl rfl
/-- RelationFinderModel.endQuantity()V -/
def f_187 (s : zS) : Option (Unit × zS) := zg (0 ≤ (gI (sI s 177 38 ((gI s 177 38) - 1)) 177 38) ∧ (gI (sI s 177 38 ((gI s 177 38) - 1)) 177 38) < 64) (zb (f_172 4 (gI s 193 (gI (sI s 177 38 ((gI s 177 38) - 1)) 177 38)) 0 (sI s 177 38 ((gI s 177 38) - 1))) (fun r3 s4 => zg (0 ≤ (gI s4 177 38) ∧ (gI s4 177 38) < 64) (zg (0 ≤ (5440 + (gI s4 192 (gI s4 177 38))) ∧ (5440 + (gI s4 192 (gI s4 177 38))) < 5760) (some ((), (sI s4 185 (5440 + (gI s4 192 (gI s4 177 38))) (gI s4 177 41)))))))
theorem w_187 {k : zK} {d : Nat} {x : am_H} {s : zS} {q : (Unit × zS)} (hd : 1 ≤ d) (h : f_187 s = some q) : zgo k d 187 (0, [(0, .ref 177)], []) (hp s ++ x) (.inl (none), hp q.2 ++ x) := by
  unfold f_187 at h
  have hM := xM_187 k.1
  refine g_aload_n 1 hM rfl rfl rfl ?_
  refine g_dup 2 hM rfl rfl rfl ?_
  refine g_getI 5 38 (gI s 177 38) hM rfl rfl rfl rfl rfl rfl rfl ?_
  refine g_iconst 6 hM rfl rfl ?_
  refine g_isub 7 hM rfl rfl ?_
  refine g_putI 10 38 hM rfl rfl rfl rfl rfl rfl rfl ?_
  refine g_aload_n 11 hM rfl rfl rfl ?_
  refine g_iconst 12 hM rfl rfl ?_
  refine g_aload_n 13 hM rfl rfl rfl ?_
  refine g_getF 16 hM rfl rfl rfl rfl rfl ?_
  refine g_aload_n 17 hM rfl rfl rfl ?_
  refine g_getI 20 38 (gI (sI s 177 38 ((gI s 177 38) - 1)) 177 38) hM rfl rfl rfl rfl rfl rfl rfl ?_
  obtain ⟨hg1, h⟩ := zg_some h
  refine g_iaload 21 (gI s 193 (gI (sI s 177 38 ((gI s 177 38) - 1)) 177 38)) hM rfl rfl rfl rfl hg1 rfl ?_
  refine g_iconst 22 hM rfl rfl ?_
  obtain ⟨r3, s4, h2, h⟩ := zb_some h
  refine g_call 25 _ [] hM rfl rfl rfl rfl rfl (xM_172 _) rfl (z_rcv2 rfl) rfl rfl (by omega) (w_172 (by omega) h2) rfl ?_
  refine g_aload_n 26 hM rfl rfl rfl ?_
  refine g_getF 29 hM rfl rfl rfl rfl rfl ?_
  refine g_sipush 32 hM rfl rfl rfl ?_
  refine g_aload_n 33 hM rfl rfl rfl ?_
  refine g_getF 36 hM rfl rfl rfl rfl rfl ?_
  refine g_aload_n 37 hM rfl rfl rfl ?_
  refine g_getI 40 38 (gI s4 177 38) hM rfl rfl rfl rfl rfl rfl rfl ?_
  obtain ⟨hg5, h⟩ := zg_some h
  refine g_iaload 41 (gI s4 192 (gI s4 177 38)) hM rfl rfl rfl rfl hg5 rfl ?_
  refine g_iadd 42 hM rfl rfl ?_
  refine g_aload_n 43 hM rfl rfl rfl ?_
  refine g_getI 46 41 (gI s4 177 41) hM rfl rfl rfl rfl rfl rfl rfl ?_
  obtain ⟨hg6, h⟩ := zg_some h
  refine g_iastore 47 hM rfl rfl rfl rfl hg6 ?_
  cases h
  exact g_ret hM rfl rfl
def j_186_2_25 (t0 : Int) (s : zS) : Option ((Int × zS) ⊕ (zS)) := zg (zR t0) (if t0 = 0 then (some (.inl (t0, s))) else (zb (f_187 s) (fun r4 s5 => some (.inl (t0, s5)))))
theorem wj_186_2_25 {k : zK} {d : Nat} {x : am_H} {r : am_A × am_H} {t0 : Int} {s : zS} {q : (Int × zS) ⊕ (zS)} (hd : 3 ≤ d) (h : j_186_2_25 t0 s = some q) (hK : Sum.elim (G_186_2 k d x r) (K_186_2 k d x r) q) : zgo k d 186 (25, [(0, .ref 177)], [.int (Int32.ofInt t0)]) (hp s ++ x) r := by
  unfold j_186_2_25 at h
  have hM := xM_186 k.1
  refine g_istore_n 26 hM rfl rfl rfl ?_
  refine g_iload_n 27 hM rfl rfl rfl ?_
  obtain ⟨hg1, h⟩ := zg_some h
  by_cases hc2 : t0 = 0
  · rw [if_pos hc2] at h
    refine g_if_eq_t 2 hM rfl rfl hg1 hc2 ?_
    cases h
    exact g_lv [(0, .ref 177), (1, .int (Int32.ofInt t0))] rfl ⟨rfl, rfl, trivial⟩ hK
  · rw [if_neg hc2] at h
    refine g_if_eq_f 30 2 hM rfl rfl rfl hg1 hc2 ?_
    refine g_aload_n 31 hM rfl rfl rfl ?_
    obtain ⟨r4, s5, h3, h⟩ := zb_some h
    refine g_call 34 _ [] hM rfl rfl rfl rfl rfl (xM_187 _) rfl (z_rcv2 rfl) rfl rfl (by omega) (w_187 (by omega) h3) rfl ?_
    refine g_goto 2 hM rfl rfl ?_
    cases h
    exact g_lv [(0, .ref 177), (1, .int (Int32.ofInt t0))] rfl ⟨rfl, rfl, trivial⟩ hK
def b_186_2 (v1 : Int) (s : zS) : Option ((Int × zS) ⊕ (zS)) := zg (zR v1) (if v1 = 0 then (some (.inr s)) else (zb (f_184 1 s) (fun r4 s5 => zo (f_178 s5) (fun r7 => zg (zR r7) (if r7 = 63 then (j_186_2_25 1 s5) else (j_186_2_25 0 s5))))))
theorem wb_186_2 {k : zK} {d : Nat} {x : am_H} {r : am_A × am_H} {v1 : Int} {s : zS} {q : (Int × zS) ⊕ (zS)} (hd : 3 ≤ d) (h : b_186_2 v1 s = some q) (hK : Sum.elim (G_186_2 k d x r) (K_186_2 k d x r) q) : G_186_2 k d x r (v1, s) := by
  unfold b_186_2 at h
  have hM := xM_186 k.1
  show zgo k d 186 (2, [(0, .ref 177), (1, .int (Int32.ofInt v1))], []) (hp s ++ x) r
  refine g_iload_n 3 hM rfl rfl rfl ?_
  obtain ⟨hg1, h⟩ := zg_some h
  by_cases hc2 : v1 = 0
  · rw [if_pos hc2] at h
    refine g_if_eq_t 37 hM rfl rfl hg1 hc2 ?_
    cases h
    exact g_lv [] rfl trivial hK
  · rw [if_neg hc2] at h
    refine g_if_eq_f 6 37 hM rfl rfl rfl hg1 hc2 ?_
    refine g_aload_n 7 hM rfl rfl rfl ?_
    refine g_iconst 8 hM rfl rfl ?_
    obtain ⟨r4, s5, h3, h⟩ := zb_some h
    refine g_call 11 _ [] hM rfl rfl rfl rfl rfl (xM_184 _) rfl (z_rcv2 rfl) rfl rfl (by omega) (w_184 (by omega) h3) rfl ?_
    refine g_aload_n 12 hM rfl rfl rfl ?_
    obtain ⟨r7, h6, h⟩ := zo_some h
    refine g_call 15 _ [.int (Int32.ofInt r7)] hM rfl rfl rfl rfl rfl (xM_178 _) rfl (z_rcv2 rfl) rfl rfl (by omega) (w_178 (by omega) h6) rfl ?_
    refine g_bipush 17 hM rfl rfl rfl ?_
    obtain ⟨hg8, h⟩ := zg_some h
    by_cases hc9 : r7 = 63
    · rw [if_pos hc9] at h
      refine g_ic_ne_f 20 24 hM rfl rfl rfl hg8 (zR_lit rfl) hc9 ?_
      refine g_iconst 21 hM rfl rfl ?_
      refine g_goto 25 hM rfl rfl ?_
      refine g_lv [(0, .ref 177)] rfl ⟨rfl, trivial⟩ ?_
      exact wj_186_2_25 (by omega) h hK
    · rw [if_neg hc9] at h
      refine g_ic_ne_t 24 hM rfl rfl hg8 (zR_lit rfl) hc9 ?_
      refine g_iconst 25 hM rfl rfl ?_
      refine g_lv [(0, .ref 177)] rfl ⟨rfl, trivial⟩ ?_
      exact wj_186_2_25 (by omega) h hK
theorem wl_186_2 {k : zK} {d : Nat} {x : am_H} {r : am_A × am_H} {n : Nat} {e : (Int × zS)} {t : (zS)} (hd : 3 ≤ d) (h : zlp (fun (q : Int × zS) => b_186_2 q.1 q.2) n e = some t) (hK : K_186_2 k d x r t) : G_186_2 k d x r e := zlp_go (G := fun e => G_186_2 k d x r e) (K := K_186_2 k d x r) (fun e e1 h1 hg => wb_186_2 (q := .inl e1) hd h1 hg) (fun e t1 h1 hk => wb_186_2 (q := .inr t1) hd h1 hk) n e t h hK
/-- RelationFinderModel.endFormula()V -/
def f_186 (s : zS) : Option (Unit × zS) := zo (zlp (fun (q : Int × zS) => b_186_2 q.1 q.2) zF (1, s)) (fun e1 => some ((), e1))
theorem w_186 {k : zK} {d : Nat} {x : am_H} {s : zS} {q : (Unit × zS)} (hd : 3 ≤ d) (h : f_186 s = some q) : zgo k d 186 (0, [(0, .ref 177)], []) (hp s ++ x) (.inl (none), hp q.2 ++ x) := by
  unfold f_186 at h
  have hM := xM_186 k.1
  refine g_iconst 1 hM rfl rfl ?_
  refine g_istore_n 2 hM rfl rfl rfl ?_
  obtain ⟨e1, h2, h⟩ := zo_some h
  refine g_lv [(0, .ref 177), (1, .int (Int32.ofInt 1))] rfl ⟨rfl, rfl, trivial⟩ ?_
  refine wl_186_2 (by omega) h2 ?_
  show zgo k d 186 (37, [], []) (hp e1 ++ x) (.inl (none), hp q.2 ++ x)
  cases h
  exact g_ret hM rfl rfl
def j_183_81 (v1 : Int) (s : zS) : Option (Int × zS) := if (gI s 177 27) = 50 then (zg (zR v1) (if v1 = 65 then (zb (f_187 s) (fun r5 s6 => zg (0 ≤ (gI s6 177 40) ∧ (gI s6 177 40) < 64) (some (2, (sI (sI s6 195 (gI s6 177 40) 1) 177 40 ((gI s6 177 40) + 1)))))) else (if v1 = 60 then (if (gI s 177 27) = 0 then (some (100, s)) else (some (107, s))) else (some (103, s))))) else (zg (zR v1) (if v1 = 60 then (if (gI s 177 27) = 0 then (some (100, s)) else (some (107, s))) else (some (103, s))))
theorem wj_183_81 {k : zK} {d : Nat} {x : am_H} {v1 : Int} {s : zS} {q : (Int × zS)} (hd : 4 ≤ d) (h : j_183_81 v1 s = some q) : zgo k d 183 (81, [(0, .ref 177), (1, .int (Int32.ofInt v1))], []) (hp s ++ x) (.inl (some (.int (Int32.ofInt q.1))), hp q.2 ++ x) := by
  unfold j_183_81 at h
  have hM := xM_183 k.1
  refine g_aload_n 82 hM rfl rfl rfl ?_
  refine g_getI 85 27 (gI s 177 27) hM rfl rfl rfl rfl rfl rfl rfl ?_
  refine g_bipush 87 hM rfl rfl rfl ?_
  by_cases hc1 : (gI s 177 27) = 50
  · rw [if_pos hc1] at h
    refine g_ic_ne_f 90 122 hM rfl rfl rfl (zR_gI _ _ _) (zR_lit rfl) hc1 ?_
    refine g_iload_n 91 hM rfl rfl rfl ?_
    refine g_bipush 93 hM rfl rfl rfl ?_
    obtain ⟨hg2, h⟩ := zg_some h
    by_cases hc3 : v1 = 65
    · rw [if_pos hc3] at h
      refine g_ic_ne_f 96 122 hM rfl rfl rfl hg2 (zR_lit rfl) hc3 ?_
      refine g_aload_n 97 hM rfl rfl rfl ?_
      obtain ⟨r5, s6, h4, h⟩ := zb_some h
      refine g_call 100 _ [] hM rfl rfl rfl rfl rfl (xM_187 _) rfl (z_rcv2 rfl) rfl rfl (by omega) (w_187 (by omega) h4) rfl ?_
      refine g_aload_n 101 hM rfl rfl rfl ?_
      refine g_getF 104 hM rfl rfl rfl rfl rfl ?_
      refine g_aload_n 105 hM rfl rfl rfl ?_
      refine g_getI 108 40 (gI s6 177 40) hM rfl rfl rfl rfl rfl rfl rfl ?_
      refine g_iconst 109 hM rfl rfl ?_
      obtain ⟨hg7, h⟩ := zg_some h
      refine g_iastore 110 hM rfl rfl rfl rfl hg7 ?_
      refine g_aload_n 111 hM rfl rfl rfl ?_
      refine g_dup 112 hM rfl rfl rfl ?_
      refine g_getI 115 40 (gI s6 177 40) hM rfl rfl rfl rfl rfl rfl rfl ?_
      refine g_iconst 116 hM rfl rfl ?_
      refine g_iadd 117 hM rfl rfl ?_
      refine g_putI 120 40 hM rfl rfl rfl rfl rfl rfl rfl ?_
      refine g_iconst 121 hM rfl rfl ?_
      cases h
      exact g_ret hM rfl rfl
    · rw [if_neg hc3] at h
      refine g_ic_ne_t 122 hM rfl rfl hg2 (zR_lit rfl) hc3 ?_
      refine g_iload_n 123 hM rfl rfl rfl ?_
      refine g_bipush 125 hM rfl rfl rfl ?_
      by_cases hc8 : v1 = 60
      · rw [if_pos hc8] at h
        refine g_ic_ne_f 128 143 hM rfl rfl rfl hg2 (zR_lit rfl) hc8 ?_
        refine g_aload_n 129 hM rfl rfl rfl ?_
        refine g_getI 132 27 (gI s 177 27) hM rfl rfl rfl rfl rfl rfl rfl ?_
        by_cases hc9 : (gI s 177 27) = 0
        · rw [if_pos hc9] at h
          refine g_if_ne_f 135 140 hM rfl rfl rfl (zR_gI _ _ _) hc9 ?_
          refine g_bipush 137 hM rfl rfl rfl ?_
          refine g_goto 142 hM rfl rfl ?_
          cases h
          exact g_ret hM rfl rfl
        · rw [if_neg hc9] at h
          refine g_if_ne_t 140 hM rfl rfl (zR_gI _ _ _) hc9 ?_
          refine g_bipush 142 hM rfl rfl rfl ?_
          cases h
          exact g_ret hM rfl rfl
      · rw [if_neg hc8] at h
        refine g_ic_ne_t 143 hM rfl rfl hg2 (zR_lit rfl) hc8 ?_
        refine g_bipush 145 hM rfl rfl rfl ?_
        cases h
        exact g_ret hM rfl rfl
  · rw [if_neg hc1] at h
    refine g_ic_ne_t 122 hM rfl rfl (zR_gI _ _ _) (zR_lit rfl) hc1 ?_
    refine g_iload_n 123 hM rfl rfl rfl ?_
    refine g_bipush 125 hM rfl rfl rfl ?_
    obtain ⟨hg10, h⟩ := zg_some h
    by_cases hc11 : v1 = 60
    · rw [if_pos hc11] at h
      refine g_ic_ne_f 128 143 hM rfl rfl rfl hg10 (zR_lit rfl) hc11 ?_
      refine g_aload_n 129 hM rfl rfl rfl ?_
      refine g_getI 132 27 (gI s 177 27) hM rfl rfl rfl rfl rfl rfl rfl ?_
      by_cases hc12 : (gI s 177 27) = 0
      · rw [if_pos hc12] at h
        refine g_if_ne_f 135 140 hM rfl rfl rfl (zR_gI _ _ _) hc12 ?_
        refine g_bipush 137 hM rfl rfl rfl ?_
        refine g_goto 142 hM rfl rfl ?_
        cases h
        exact g_ret hM rfl rfl
      · rw [if_neg hc12] at h
        refine g_if_ne_t 140 hM rfl rfl (zR_gI _ _ _) hc12 ?_
        refine g_bipush 142 hM rfl rfl rfl ?_
        cases h
        exact g_ret hM rfl rfl
    · rw [if_neg hc11] at h
      refine g_ic_ne_t 143 hM rfl rfl hg10 (zR_lit rfl) hc11 ?_
      refine g_bipush 145 hM rfl rfl rfl ?_
      cases h
      exact g_ret hM rfl rfl
def j_183_31 (t1 : Int) (s : zS) : Option (Int × zS) := zb (f_184 t1 s) (fun r2 s3 => zb (f_158 (gI s3 177 27) 0 s3) (fun r5 s6 => some (0, s6)))
theorem wj_183_31 {k : zK} {d : Nat} {x : am_H} {t1 : Int} {s : zS} {q : (Int × zS)} (hd : 4 ≤ d) (h : j_183_31 t1 s = some q) : zgo k d 183 (31, [(0, .ref 177)], [.int (Int32.ofInt t1), .ref 177]) (hp s ++ x) (.inl (some (.int (Int32.ofInt q.1))), hp q.2 ++ x) := by
  unfold j_183_31 at h
  have hM := xM_183 k.1
  obtain ⟨r2, s3, h1, h⟩ := zb_some h
  refine g_call 34 _ [] hM rfl rfl rfl rfl rfl (xM_184 _) rfl (z_rcv2 rfl) rfl rfl (by omega) (w_184 (by omega) h1) rfl ?_
  refine g_aload_n 35 hM rfl rfl rfl ?_
  refine g_aload_n 36 hM rfl rfl rfl ?_
  refine g_getI 39 27 (gI s3 177 27) hM rfl rfl rfl rfl rfl rfl rfl ?_
  refine g_iconst 40 hM rfl rfl ?_
  obtain ⟨r5, s6, h4, h⟩ := zb_some h
  refine g_call 43 _ [] hM rfl rfl rfl rfl rfl (xM_158 _) rfl (z_rcv2 rfl) rfl rfl (by omega) (w_158 (by omega) h4) rfl ?_
  refine g_iconst 44 hM rfl rfl ?_
  cases h
  exact g_ret hM rfl rfl
/-- RelationFinderModel.takeBehindFormula()I -/
def f_183 (s : zS) : Option (Int × zS) := zo (f_168 (gI s 177 27)) (fun r2 => zg (zR r2) (if r2 = 0 then (zb (f_186 s) (fun r6 s7 => zo (f_178 s7) (fun r9 => if (gI s7 177 27) = 48 then (zg (zR r9) (if r9 = 47 then (some (3, (sI s7 177 38 ((gI s7 177 38) - 1)))) else (j_183_81 r9 s7))) else (j_183_81 r9 s7)))) else (if (gI s 177 27) = 18 then (j_183_31 3 s) else (zo (f_166 (gI s 177 27)) (fun r15 => j_183_31 r15 s)))))
theorem w_183 {k : zK} {d : Nat} {x : am_H} {s : zS} {q : (Int × zS)} (hd : 4 ≤ d) (h : f_183 s = some q) : zgo k d 183 (0, [(0, .ref 177)], []) (hp s ++ x) (.inl (some (.int (Int32.ofInt q.1))), hp q.2 ++ x) := by
  unfold f_183 at h
  have hM := xM_183 k.1
  refine g_aload_n 1 hM rfl rfl rfl ?_
  refine g_getI 4 27 (gI s 177 27) hM rfl rfl rfl rfl rfl rfl rfl ?_
  obtain ⟨r2, h1, h⟩ := zo_some h
  refine g_call 7 _ [.int (Int32.ofInt r2)] hM rfl rfl rfl rfl rfl (xM_168 _) rfl rfl rfl rfl (by omega) (w_168 (by omega) h1) rfl ?_
  obtain ⟨hg3, h⟩ := zg_some h
  by_cases hc4 : r2 = 0
  · rw [if_pos hc4] at h
    refine g_if_eq_t 45 hM rfl rfl hg3 hc4 ?_
    refine g_aload_n 46 hM rfl rfl rfl ?_
    obtain ⟨r6, s7, h5, h⟩ := zb_some h
    refine g_call 49 _ [] hM rfl rfl rfl rfl rfl (xM_186 _) rfl (z_rcv2 rfl) rfl rfl (by omega) (w_186 (by omega) h5) rfl ?_
    refine g_aload_n 50 hM rfl rfl rfl ?_
    obtain ⟨r9, h8, h⟩ := zo_some h
    refine g_call 53 _ [.int (Int32.ofInt r9)] hM rfl rfl rfl rfl rfl (xM_178 _) rfl (z_rcv2 rfl) rfl rfl (by omega) (w_178 (by omega) h8) rfl ?_
    refine g_istore_n 54 hM rfl rfl rfl ?_
    refine g_aload_n 55 hM rfl rfl rfl ?_
    refine g_getI 58 27 (gI s7 177 27) hM rfl rfl rfl rfl rfl rfl rfl ?_
    refine g_bipush 60 hM rfl rfl rfl ?_
    by_cases hc10 : (gI s7 177 27) = 48
    · rw [if_pos hc10] at h
      refine g_ic_ne_f 63 81 hM rfl rfl rfl (zR_gI _ _ _) (zR_lit rfl) hc10 ?_
      refine g_iload_n 64 hM rfl rfl rfl ?_
      refine g_bipush 66 hM rfl rfl rfl ?_
      obtain ⟨hg11, h⟩ := zg_some h
      by_cases hc12 : r9 = 47
      · rw [if_pos hc12] at h
        refine g_ic_ne_f 69 81 hM rfl rfl rfl hg11 (zR_lit rfl) hc12 ?_
        refine g_aload_n 70 hM rfl rfl rfl ?_
        refine g_dup 71 hM rfl rfl rfl ?_
        refine g_getI 74 38 (gI s7 177 38) hM rfl rfl rfl rfl rfl rfl rfl ?_
        refine g_iconst 75 hM rfl rfl ?_
        refine g_isub 76 hM rfl rfl ?_
        refine g_putI 79 38 hM rfl rfl rfl rfl rfl rfl rfl ?_
        refine g_iconst 80 hM rfl rfl ?_
        cases h
        exact g_ret hM rfl rfl
      · rw [if_neg hc12] at h
        refine g_ic_ne_t 81 hM rfl rfl hg11 (zR_lit rfl) hc12 ?_
        refine g_lv [(0, .ref 177), (1, .int (Int32.ofInt r9))] rfl ⟨rfl, rfl, trivial⟩ ?_
        exact wj_183_81 (by omega) h
    · rw [if_neg hc10] at h
      refine g_ic_ne_t 81 hM rfl rfl (zR_gI _ _ _) (zR_lit rfl) hc10 ?_
      refine g_lv [(0, .ref 177), (1, .int (Int32.ofInt r9))] rfl ⟨rfl, rfl, trivial⟩ ?_
      exact wj_183_81 (by omega) h
  · rw [if_neg hc4] at h
    refine g_if_eq_f 10 45 hM rfl rfl rfl hg3 hc4 ?_
    refine g_aload_n 11 hM rfl rfl rfl ?_
    refine g_aload_n 12 hM rfl rfl rfl ?_
    refine g_getI 15 27 (gI s 177 27) hM rfl rfl rfl rfl rfl rfl rfl ?_
    refine g_bipush 17 hM rfl rfl rfl ?_
    by_cases hc13 : (gI s 177 27) = 18
    · rw [if_pos hc13] at h
      refine g_ic_ne_f 20 24 hM rfl rfl rfl (zR_gI _ _ _) (zR_lit rfl) hc13 ?_
      refine g_iconst 21 hM rfl rfl ?_
      refine g_goto 31 hM rfl rfl ?_
      refine g_lv [(0, .ref 177)] rfl ⟨rfl, trivial⟩ ?_
      exact wj_183_31 (by omega) h
    · rw [if_neg hc13] at h
      refine g_ic_ne_t 24 hM rfl rfl (zR_gI _ _ _) (zR_lit rfl) hc13 ?_
      refine g_aload_n 25 hM rfl rfl rfl ?_
      refine g_getI 28 27 (gI s 177 27) hM rfl rfl rfl rfl rfl rfl rfl ?_
      obtain ⟨r15, h14, h⟩ := zo_some h
      refine g_call 31 _ [.int (Int32.ofInt r15), .ref 177] hM rfl rfl rfl rfl rfl (xM_166 _) rfl rfl rfl rfl (by omega) (w_166 (by omega) h14) rfl ?_
      refine g_lv [(0, .ref 177)] rfl ⟨rfl, trivial⟩ ?_
      exact wj_183_31 (by omega) h
def j_176_302 (v2 : Int) (s : zS) : Option (Int × zS) := zg (zR v2) (if v2 = 61 then (if (gI s 177 27) = 0 then (some (100, s)) else (some (107, s))) else (zb (f_182 s) (fun r5 s6 => zg (zR r5) (if r5 = 0 then (some (103, s6)) else (zb (f_183 s6) (fun r10 s11 => some (r10, s11)))))))
theorem wj_176_302 {k : zK} {d : Nat} {x : am_H} {v2 : Int} {s : zS} {q : (Int × zS)} (hd : 5 ≤ d) (h : j_176_302 v2 s = some q) : zgo k d 176 (302, [(0, .ref 177), (2, .int (Int32.ofInt v2))], []) (hp s ++ x) (.inl (some (.int (Int32.ofInt q.1))), hp q.2 ++ x) := by
  unfold j_176_302 at h
  have hM := xM_176 k.1
  refine g_iload_n 303 hM rfl rfl rfl ?_
  refine g_bipush 305 hM rfl rfl rfl ?_
  obtain ⟨hg1, h⟩ := zg_some h
  by_cases hc2 : v2 = 61
  · rw [if_pos hc2] at h
    refine g_ic_ne_f 308 323 hM rfl rfl rfl hg1 (zR_lit rfl) hc2 ?_
    refine g_aload_n 309 hM rfl rfl rfl ?_
    refine g_getI 312 27 (gI s 177 27) hM rfl rfl rfl rfl rfl rfl rfl ?_
    by_cases hc3 : (gI s 177 27) = 0
    · rw [if_pos hc3] at h
      refine g_if_ne_f 315 320 hM rfl rfl rfl (zR_gI _ _ _) hc3 ?_
      refine g_bipush 317 hM rfl rfl rfl ?_
      refine g_goto 322 hM rfl rfl ?_
      cases h
      exact g_ret hM rfl rfl
    · rw [if_neg hc3] at h
      refine g_if_ne_t 320 hM rfl rfl (zR_gI _ _ _) hc3 ?_
      refine g_bipush 322 hM rfl rfl rfl ?_
      cases h
      exact g_ret hM rfl rfl
  · rw [if_neg hc2] at h
    refine g_ic_ne_t 323 hM rfl rfl hg1 (zR_lit rfl) hc2 ?_
    refine g_aload_n 324 hM rfl rfl rfl ?_
    obtain ⟨r5, s6, h4, h⟩ := zb_some h
    refine g_call 327 _ [.int (Int32.ofInt r5)] hM rfl rfl rfl rfl rfl (xM_182 _) rfl (z_rcv2 rfl) rfl rfl (by omega) (w_182 (by omega) h4) rfl ?_
    obtain ⟨hg7, h⟩ := zg_some h
    by_cases hc8 : r5 = 0
    · rw [if_pos hc8] at h
      refine g_if_ne_f 330 333 hM rfl rfl rfl hg7 hc8 ?_
      refine g_bipush 332 hM rfl rfl rfl ?_
      cases h
      exact g_ret hM rfl rfl
    · rw [if_neg hc8] at h
      refine g_if_ne_t 333 hM rfl rfl hg7 hc8 ?_
      refine g_aload_n 334 hM rfl rfl rfl ?_
      obtain ⟨r10, s11, h9, h⟩ := zb_some h
      refine g_call 337 _ [.int (Int32.ofInt r10)] hM rfl rfl rfl rfl rfl (xM_183 _) rfl (z_rcv2 rfl) rfl rfl (by omega) (w_183 (by omega) h9) rfl ?_
      cases h
      exact g_ret hM rfl rfl
def j_176_251 (v2 : Int) (s : zS) : Option (Int × zS) := zo (f_169 v2) (fun r2 => zg (zR r2) (if r2 = 0 then (j_176_302 v2 s) else (zb (f_158 68 (gI s 177 27) s) (fun r6 s7 => zg (0 ≤ ((gI s7 177 40) - 1) ∧ ((gI s7 177 40) - 1) < 64) (zg (0 ≤ ((gI s7 177 38) - 1) ∧ ((gI s7 177 38) - 1) < 64) (some (1, (sI (sI s7 191 ((gI s7 177 38) - 1) (gI s7 195 ((gI s7 177 40) - 1))) 177 40 ((gI s7 177 40) - 1)))))))))
theorem wj_176_251 {k : zK} {d : Nat} {x : am_H} {v2 : Int} {s : zS} {q : (Int × zS)} (hd : 5 ≤ d) (h : j_176_251 v2 s = some q) : zgo k d 176 (251, [(0, .ref 177), (2, .int (Int32.ofInt v2))], []) (hp s ++ x) (.inl (some (.int (Int32.ofInt q.1))), hp q.2 ++ x) := by
  unfold j_176_251 at h
  have hM := xM_176 k.1
  refine g_iload_n 252 hM rfl rfl rfl ?_
  obtain ⟨r2, h1, h⟩ := zo_some h
  refine g_call 255 _ [.int (Int32.ofInt r2)] hM rfl rfl rfl rfl rfl (xM_169 _) rfl rfl rfl rfl (by omega) (w_169 (by omega) h1) rfl ?_
  obtain ⟨hg3, h⟩ := zg_some h
  by_cases hc4 : r2 = 0
  · rw [if_pos hc4] at h
    refine g_if_eq_t 302 hM rfl rfl hg3 hc4 ?_
    refine g_lv [(0, .ref 177), (2, .int (Int32.ofInt v2))] rfl ⟨rfl, rfl, trivial⟩ ?_
    exact wj_176_302 (by omega) h
  · rw [if_neg hc4] at h
    refine g_if_eq_f 258 302 hM rfl rfl rfl hg3 hc4 ?_
    refine g_aload_n 259 hM rfl rfl rfl ?_
    refine g_bipush 261 hM rfl rfl rfl ?_
    refine g_aload_n 262 hM rfl rfl rfl ?_
    refine g_getI 265 27 (gI s 177 27) hM rfl rfl rfl rfl rfl rfl rfl ?_
    obtain ⟨r6, s7, h5, h⟩ := zb_some h
    refine g_call 268 _ [] hM rfl rfl rfl rfl rfl (xM_158 _) rfl (z_rcv2 rfl) rfl rfl (by omega) (w_158 (by omega) h5) rfl ?_
    refine g_aload_n 269 hM rfl rfl rfl ?_
    refine g_getF 272 hM rfl rfl rfl rfl rfl ?_
    refine g_aload_n 273 hM rfl rfl rfl ?_
    refine g_getI 276 38 (gI s7 177 38) hM rfl rfl rfl rfl rfl rfl rfl ?_
    refine g_iconst 277 hM rfl rfl ?_
    refine g_isub 278 hM rfl rfl ?_
    refine g_aload_n 279 hM rfl rfl rfl ?_
    refine g_getF 282 hM rfl rfl rfl rfl rfl ?_
    refine g_aload_n 283 hM rfl rfl rfl ?_
    refine g_getI 286 40 (gI s7 177 40) hM rfl rfl rfl rfl rfl rfl rfl ?_
    refine g_iconst 287 hM rfl rfl ?_
    refine g_isub 288 hM rfl rfl ?_
    obtain ⟨hg8, h⟩ := zg_some h
    refine g_iaload 289 (gI s7 195 ((gI s7 177 40) - 1)) hM rfl rfl rfl rfl hg8 rfl ?_
    obtain ⟨hg9, h⟩ := zg_some h
    refine g_iastore 290 hM rfl rfl rfl rfl hg9 ?_
    refine g_aload_n 291 hM rfl rfl rfl ?_
    refine g_dup 292 hM rfl rfl rfl ?_
    refine g_getI 295 40 (gI s7 177 40) hM rfl rfl rfl rfl rfl rfl rfl ?_
    refine g_iconst 296 hM rfl rfl ?_
    refine g_isub 297 hM rfl rfl ?_
    refine g_putI 300 40 hM rfl rfl rfl rfl rfl rfl rfl ?_
    refine g_iconst 301 hM rfl rfl ?_
    cases h
    exact g_ret hM rfl rfl
def j_176_233 (v2 : Int) (s : zS) : Option (Int × zS) := if (gI s 177 27) = 20 then (j_176_251 v2 s) else (if (gI s 177 27) = 42 then (j_176_251 v2 s) else (j_176_302 v2 s))
theorem wj_176_233 {k : zK} {d : Nat} {x : am_H} {v2 : Int} {s : zS} {q : (Int × zS)} (hd : 5 ≤ d) (h : j_176_233 v2 s = some q) : zgo k d 176 (233, [(0, .ref 177), (2, .int (Int32.ofInt v2))], []) (hp s ++ x) (.inl (some (.int (Int32.ofInt q.1))), hp q.2 ++ x) := by
  unfold j_176_233 at h
  have hM := xM_176 k.1
  refine g_aload_n 234 hM rfl rfl rfl ?_
  refine g_getI 237 27 (gI s 177 27) hM rfl rfl rfl rfl rfl rfl rfl ?_
  refine g_bipush 239 hM rfl rfl rfl ?_
  by_cases hc1 : (gI s 177 27) = 20
  · rw [if_pos hc1] at h
    refine g_ic_eq_t 251 hM rfl rfl (zR_gI _ _ _) (zR_lit rfl) hc1 ?_
    refine g_lv [(0, .ref 177), (2, .int (Int32.ofInt v2))] rfl ⟨rfl, rfl, trivial⟩ ?_
    exact wj_176_251 (by omega) h
  · rw [if_neg hc1] at h
    refine g_ic_eq_f 242 251 hM rfl rfl rfl (zR_gI _ _ _) (zR_lit rfl) hc1 ?_
    refine g_aload_n 243 hM rfl rfl rfl ?_
    refine g_getI 246 27 (gI s 177 27) hM rfl rfl rfl rfl rfl rfl rfl ?_
    refine g_bipush 248 hM rfl rfl rfl ?_
    by_cases hc2 : (gI s 177 27) = 42
    · rw [if_pos hc2] at h
      refine g_ic_ne_f 251 302 hM rfl rfl rfl (zR_gI _ _ _) (zR_lit rfl) hc2 ?_
      refine g_lv [(0, .ref 177), (2, .int (Int32.ofInt v2))] rfl ⟨rfl, rfl, trivial⟩ ?_
      exact wj_176_251 (by omega) h
    · rw [if_neg hc2] at h
      refine g_ic_ne_t 302 hM rfl rfl (zR_gI _ _ _) (zR_lit rfl) hc2 ?_
      refine g_lv [(0, .ref 177), (2, .int (Int32.ofInt v2))] rfl ⟨rfl, rfl, trivial⟩ ?_
      exact wj_176_302 (by omega) h
def j_176_167 (v2 : Int) (s : zS) : Option (Int × zS) := zg (zR v2) (if v2 = 66 then (if (gI s 177 27) = 42 then (j_176_200 s) else (if (gI s 177 27) = 43 then (j_176_200 s) else (if (gI s 177 27) = 44 then (j_176_200 s) else (j_176_233 v2 s)))) else (j_176_233 v2 s))
theorem wj_176_167 {k : zK} {d : Nat} {x : am_H} {v2 : Int} {s : zS} {q : (Int × zS)} (hd : 5 ≤ d) (h : j_176_167 v2 s = some q) : zgo k d 176 (167, [(0, .ref 177), (2, .int (Int32.ofInt v2))], []) (hp s ++ x) (.inl (some (.int (Int32.ofInt q.1))), hp q.2 ++ x) := by
  unfold j_176_167 at h
  have hM := xM_176 k.1
  refine g_iload_n 168 hM rfl rfl rfl ?_
  refine g_bipush 170 hM rfl rfl rfl ?_
  obtain ⟨hg1, h⟩ := zg_some h
  by_cases hc2 : v2 = 66
  · rw [if_pos hc2] at h
    refine g_ic_ne_f 173 233 hM rfl rfl rfl hg1 (zR_lit rfl) hc2 ?_
    refine g_aload_n 174 hM rfl rfl rfl ?_
    refine g_getI 177 27 (gI s 177 27) hM rfl rfl rfl rfl rfl rfl rfl ?_
    refine g_bipush 179 hM rfl rfl rfl ?_
    by_cases hc3 : (gI s 177 27) = 42
    · rw [if_pos hc3] at h
      refine g_ic_eq_t 200 hM rfl rfl (zR_gI _ _ _) (zR_lit rfl) hc3 ?_
      refine g_lv [(0, .ref 177)] rfl ⟨rfl, trivial⟩ ?_
      exact wj_176_200 (by omega) h
    · rw [if_neg hc3] at h
      refine g_ic_eq_f 182 200 hM rfl rfl rfl (zR_gI _ _ _) (zR_lit rfl) hc3 ?_
      refine g_aload_n 183 hM rfl rfl rfl ?_
      refine g_getI 186 27 (gI s 177 27) hM rfl rfl rfl rfl rfl rfl rfl ?_
      refine g_bipush 188 hM rfl rfl rfl ?_
      by_cases hc4 : (gI s 177 27) = 43
      · rw [if_pos hc4] at h
        refine g_ic_eq_t 200 hM rfl rfl (zR_gI _ _ _) (zR_lit rfl) hc4 ?_
        refine g_lv [(0, .ref 177)] rfl ⟨rfl, trivial⟩ ?_
        exact wj_176_200 (by omega) h
      · rw [if_neg hc4] at h
        refine g_ic_eq_f 191 200 hM rfl rfl rfl (zR_gI _ _ _) (zR_lit rfl) hc4 ?_
        refine g_aload_n 192 hM rfl rfl rfl ?_
        refine g_getI 195 27 (gI s 177 27) hM rfl rfl rfl rfl rfl rfl rfl ?_
        refine g_bipush 197 hM rfl rfl rfl ?_
        by_cases hc5 : (gI s 177 27) = 44
        · rw [if_pos hc5] at h
          refine g_ic_ne_f 200 233 hM rfl rfl rfl (zR_gI _ _ _) (zR_lit rfl) hc5 ?_
          refine g_lv [(0, .ref 177)] rfl ⟨rfl, trivial⟩ ?_
          exact wj_176_200 (by omega) h
        · rw [if_neg hc5] at h
          refine g_ic_ne_t 233 hM rfl rfl (zR_gI _ _ _) (zR_lit rfl) hc5 ?_
          refine g_lv [(0, .ref 177), (2, .int (Int32.ofInt v2))] rfl ⟨rfl, rfl, trivial⟩ ?_
          exact wj_176_233 (by omega) h
  · rw [if_neg hc2] at h
    refine g_ic_ne_t 233 hM rfl rfl hg1 (zR_lit rfl) hc2 ?_
    refine g_lv [(0, .ref 177), (2, .int (Int32.ofInt v2))] rfl ⟨rfl, rfl, trivial⟩ ?_
    exact wj_176_233 (by omega) h
def j_176_88 (v2 : Int) (s : zS) : Option (Int × zS) := if (gI s 177 27) = 52 then (zg (zR v2) (if v2 = 62 then (j_176_109 v2 s) else (if v2 = 64 then (j_176_109 v2 s) else (j_176_167 v2 s)))) else (j_176_167 v2 s)
theorem wj_176_88 {k : zK} {d : Nat} {x : am_H} {v2 : Int} {s : zS} {q : (Int × zS)} (hd : 5 ≤ d) (h : j_176_88 v2 s = some q) : zgo k d 176 (88, [(0, .ref 177), (2, .int (Int32.ofInt v2))], []) (hp s ++ x) (.inl (some (.int (Int32.ofInt q.1))), hp q.2 ++ x) := by
  unfold j_176_88 at h
  have hM := xM_176 k.1
  refine g_aload_n 89 hM rfl rfl rfl ?_
  refine g_getI 92 27 (gI s 177 27) hM rfl rfl rfl rfl rfl rfl rfl ?_
  refine g_bipush 94 hM rfl rfl rfl ?_
  by_cases hc1 : (gI s 177 27) = 52
  · rw [if_pos hc1] at h
    refine g_ic_ne_f 97 167 hM rfl rfl rfl (zR_gI _ _ _) (zR_lit rfl) hc1 ?_
    refine g_iload_n 98 hM rfl rfl rfl ?_
    refine g_bipush 100 hM rfl rfl rfl ?_
    obtain ⟨hg2, h⟩ := zg_some h
    by_cases hc3 : v2 = 62
    · rw [if_pos hc3] at h
      refine g_ic_eq_t 109 hM rfl rfl hg2 (zR_lit rfl) hc3 ?_
      refine g_lv [(0, .ref 177), (2, .int (Int32.ofInt v2))] rfl ⟨rfl, rfl, trivial⟩ ?_
      exact wj_176_109 (by omega) h
    · rw [if_neg hc3] at h
      refine g_ic_eq_f 103 109 hM rfl rfl rfl hg2 (zR_lit rfl) hc3 ?_
      refine g_iload_n 104 hM rfl rfl rfl ?_
      refine g_bipush 106 hM rfl rfl rfl ?_
      by_cases hc4 : v2 = 64
      · rw [if_pos hc4] at h
        refine g_ic_ne_f 109 167 hM rfl rfl rfl hg2 (zR_lit rfl) hc4 ?_
        refine g_lv [(0, .ref 177), (2, .int (Int32.ofInt v2))] rfl ⟨rfl, rfl, trivial⟩ ?_
        exact wj_176_109 (by omega) h
      · rw [if_neg hc4] at h
        refine g_ic_ne_t 167 hM rfl rfl hg2 (zR_lit rfl) hc4 ?_
        refine g_lv [(0, .ref 177), (2, .int (Int32.ofInt v2))] rfl ⟨rfl, rfl, trivial⟩ ?_
        exact wj_176_167 (by omega) h
  · rw [if_neg hc1] at h
    refine g_ic_ne_t 167 hM rfl rfl (zR_gI _ _ _) (zR_lit rfl) hc1 ?_
    refine g_lv [(0, .ref 177), (2, .int (Int32.ofInt v2))] rfl ⟨rfl, rfl, trivial⟩ ?_
    exact wj_176_167 (by omega) h
/-- RelationFinderModel.takeBehindExpression()I -/
def f_176 (s : zS) : Option (Int × zS) := zo (f_167 (gI s 177 27)) (fun r2 => zg (zR r2) (if r2 = 0 then (zb (f_181 s) (fun r6 s7 => zg (zR r6) (if 0 < r6 then (some ((100 + r6), s7)) else (zo (f_178 s7) (fun r11 => if (gI s7 177 27) = 46 then (zg (zR r11) (if r11 = 45 then (some (2, (sI s7 177 38 ((gI s7 177 38) - 1)))) else (j_176_88 r11 s7))) else (j_176_88 r11 s7)))))) else (zo (f_166 (gI s 177 27)) (fun r16 => zb (f_177 r16 s) (fun r18 s19 => zg (zR r18) (if 0 < r18 then (some ((100 + r18), s19)) else (zb (f_158 (gI s19 177 27) 0 s19) (fun r23 s24 => some (1, s24)))))))))
theorem w_176 {k : zK} {d : Nat} {x : am_H} {s : zS} {q : (Int × zS)} (hd : 5 ≤ d) (h : f_176 s = some q) : zgo k d 176 (0, [(0, .ref 177)], []) (hp s ++ x) (.inl (some (.int (Int32.ofInt q.1))), hp q.2 ++ x) := by
  unfold f_176 at h
  have hM := xM_176 k.1
  refine g_aload_n 1 hM rfl rfl rfl ?_
  refine g_getI 4 27 (gI s 177 27) hM rfl rfl rfl rfl rfl rfl rfl ?_
  obtain ⟨r2, h1, h⟩ := zo_some h
  refine g_call 7 _ [.int (Int32.ofInt r2)] hM rfl rfl rfl rfl rfl (xM_167 _) rfl rfl rfl rfl (by omega) (w_167 (by omega) h1) rfl ?_
  obtain ⟨hg3, h⟩ := zg_some h
  by_cases hc4 : r2 = 0
  · rw [if_pos hc4] at h
    refine g_if_eq_t 42 hM rfl rfl hg3 hc4 ?_
    refine g_aload_n 43 hM rfl rfl rfl ?_
    obtain ⟨r6, s7, h5, h⟩ := zb_some h
    refine g_call 46 _ [.int (Int32.ofInt r6)] hM rfl rfl rfl rfl rfl (xM_181 _) rfl (z_rcv2 rfl) rfl rfl (by omega) (w_181 (by omega) h5) rfl ?_
    refine g_istore_n 47 hM rfl rfl rfl ?_
    refine g_iload_n 48 hM rfl rfl rfl ?_
    obtain ⟨hg8, h⟩ := zg_some h
    by_cases hc9 : 0 < r6
    · rw [if_pos hc9] at h
      refine g_if_le_f 51 56 hM rfl rfl rfl hg8 hc9 ?_
      refine g_bipush 53 hM rfl rfl rfl ?_
      refine g_iload_n 54 hM rfl rfl rfl ?_
      refine g_iadd 55 hM rfl rfl ?_
      cases h
      exact g_ret hM rfl rfl
    · rw [if_neg hc9] at h
      refine g_if_le_t 56 hM rfl rfl hg8 hc9 ?_
      refine g_aload_n 57 hM rfl rfl rfl ?_
      obtain ⟨r11, h10, h⟩ := zo_some h
      refine g_call 60 _ [.int (Int32.ofInt r11)] hM rfl rfl rfl rfl rfl (xM_178 _) rfl (z_rcv2 rfl) rfl rfl (by omega) (w_178 (by omega) h10) rfl ?_
      refine g_istore_n 61 hM rfl rfl rfl ?_
      refine g_aload_n 62 hM rfl rfl rfl ?_
      refine g_getI 65 27 (gI s7 177 27) hM rfl rfl rfl rfl rfl rfl rfl ?_
      refine g_bipush 67 hM rfl rfl rfl ?_
      by_cases hc12 : (gI s7 177 27) = 46
      · rw [if_pos hc12] at h
        refine g_ic_ne_f 70 88 hM rfl rfl rfl (zR_gI _ _ _) (zR_lit rfl) hc12 ?_
        refine g_iload_n 71 hM rfl rfl rfl ?_
        refine g_bipush 73 hM rfl rfl rfl ?_
        obtain ⟨hg13, h⟩ := zg_some h
        by_cases hc14 : r11 = 45
        · rw [if_pos hc14] at h
          refine g_ic_ne_f 76 88 hM rfl rfl rfl hg13 (zR_lit rfl) hc14 ?_
          refine g_aload_n 77 hM rfl rfl rfl ?_
          refine g_dup 78 hM rfl rfl rfl ?_
          refine g_getI 81 38 (gI s7 177 38) hM rfl rfl rfl rfl rfl rfl rfl ?_
          refine g_iconst 82 hM rfl rfl ?_
          refine g_isub 83 hM rfl rfl ?_
          refine g_putI 86 38 hM rfl rfl rfl rfl rfl rfl rfl ?_
          refine g_iconst 87 hM rfl rfl ?_
          cases h
          exact g_ret hM rfl rfl
        · rw [if_neg hc14] at h
          refine g_ic_ne_t 88 hM rfl rfl hg13 (zR_lit rfl) hc14 ?_
          refine g_lv [(0, .ref 177), (2, .int (Int32.ofInt r11))] rfl ⟨rfl, rfl, trivial⟩ ?_
          exact wj_176_88 (by omega) h
      · rw [if_neg hc12] at h
        refine g_ic_ne_t 88 hM rfl rfl (zR_gI _ _ _) (zR_lit rfl) hc12 ?_
        refine g_lv [(0, .ref 177), (2, .int (Int32.ofInt r11))] rfl ⟨rfl, rfl, trivial⟩ ?_
        exact wj_176_88 (by omega) h
  · rw [if_neg hc4] at h
    refine g_if_eq_f 10 42 hM rfl rfl rfl hg3 hc4 ?_
    refine g_aload_n 11 hM rfl rfl rfl ?_
    refine g_aload_n 12 hM rfl rfl rfl ?_
    refine g_getI 15 27 (gI s 177 27) hM rfl rfl rfl rfl rfl rfl rfl ?_
    obtain ⟨r16, h15, h⟩ := zo_some h
    refine g_call 18 _ [.int (Int32.ofInt r16), .ref 177] hM rfl rfl rfl rfl rfl (xM_166 _) rfl rfl rfl rfl (by omega) (w_166 (by omega) h15) rfl ?_
    obtain ⟨r18, s19, h17, h⟩ := zb_some h
    refine g_call 21 _ [.int (Int32.ofInt r18)] hM rfl rfl rfl rfl rfl (xM_177 _) rfl (z_rcv2 rfl) rfl rfl (by omega) (w_177 (by omega) h17) rfl ?_
    refine g_istore_n 22 hM rfl rfl rfl ?_
    refine g_iload_n 23 hM rfl rfl rfl ?_
    obtain ⟨hg20, h⟩ := zg_some h
    by_cases hc21 : 0 < r18
    · rw [if_pos hc21] at h
      refine g_if_le_f 26 31 hM rfl rfl rfl hg20 hc21 ?_
      refine g_bipush 28 hM rfl rfl rfl ?_
      refine g_iload_n 29 hM rfl rfl rfl ?_
      refine g_iadd 30 hM rfl rfl ?_
      cases h
      exact g_ret hM rfl rfl
    · rw [if_neg hc21] at h
      refine g_if_le_t 31 hM rfl rfl hg20 hc21 ?_
      refine g_aload_n 32 hM rfl rfl rfl ?_
      refine g_aload_n 33 hM rfl rfl rfl ?_
      refine g_getI 36 27 (gI s19 177 27) hM rfl rfl rfl rfl rfl rfl rfl ?_
      refine g_iconst 37 hM rfl rfl ?_
      obtain ⟨r23, s24, h22, h⟩ := zb_some h
      refine g_call 40 _ [] hM rfl rfl rfl rfl rfl (xM_158 _) rfl (z_rcv2 rfl) rfl rfl (by omega) (w_158 (by omega) h22) rfl ?_
      refine g_iconst 41 hM rfl rfl ?_
      cases h
      exact g_ret hM rfl rfl
def j_188_46 (v1 : Int) (s : zS) : Option (Int × zS) := zg (zR v1) (if v1 = 6 then (if (gI s 177 27) = 2 then (zg (0 ≤ ((gI s 177 38) - 1) ∧ ((gI s 177 38) - 1) < 64) (zb (f_172 5 (gI s 193 ((gI s 177 38) - 1)) (gI s 177 30) s) (fun r6 s7 => some (3, (sI s7 177 38 ((gI s7 177 38) - 1)))))) else (some (103, s))) else (some (103, s)))
theorem wj_188_46 {k : zK} {d : Nat} {x : am_H} {v1 : Int} {s : zS} {q : (Int × zS)} (hd : 1 ≤ d) (h : j_188_46 v1 s = some q) : zgo k d 188 (46, [(0, .ref 177), (1, .int (Int32.ofInt v1))], []) (hp s ++ x) (.inl (some (.int (Int32.ofInt q.1))), hp q.2 ++ x) := by
  unfold j_188_46 at h
  have hM := xM_188 k.1
  refine g_iload_n 47 hM rfl rfl rfl ?_
  refine g_bipush 49 hM rfl rfl rfl ?_
  obtain ⟨hg1, h⟩ := zg_some h
  by_cases hc2 : v1 = 6
  · rw [if_pos hc2] at h
    refine g_ic_ne_f 52 92 hM rfl rfl rfl hg1 (zR_lit rfl) hc2 ?_
    refine g_aload_n 53 hM rfl rfl rfl ?_
    refine g_getI 56 27 (gI s 177 27) hM rfl rfl rfl rfl rfl rfl rfl ?_
    refine g_iconst 57 hM rfl rfl ?_
    by_cases hc3 : (gI s 177 27) = 2
    · rw [if_pos hc3] at h
      refine g_ic_ne_f 60 92 hM rfl rfl rfl (zR_gI _ _ _) (zR_lit rfl) hc3 ?_
      refine g_aload_n 61 hM rfl rfl rfl ?_
      refine g_iconst 62 hM rfl rfl ?_
      refine g_aload_n 63 hM rfl rfl rfl ?_
      refine g_getF 66 hM rfl rfl rfl rfl rfl ?_
      refine g_aload_n 67 hM rfl rfl rfl ?_
      refine g_getI 70 38 (gI s 177 38) hM rfl rfl rfl rfl rfl rfl rfl ?_
      refine g_iconst 71 hM rfl rfl ?_
      refine g_isub 72 hM rfl rfl ?_
      obtain ⟨hg4, h⟩ := zg_some h
      refine g_iaload 73 (gI s 193 ((gI s 177 38) - 1)) hM rfl rfl rfl rfl hg4 rfl ?_
      refine g_aload_n 74 hM rfl rfl rfl ?_
      refine g_getI 77 30 (gI s 177 30) hM rfl rfl rfl rfl rfl rfl rfl ?_
      obtain ⟨r6, s7, h5, h⟩ := zb_some h
      refine g_call 80 _ [] hM rfl rfl rfl rfl rfl (xM_172 _) rfl (z_rcv2 rfl) rfl rfl (by omega) (w_172 (by omega) h5) rfl ?_
      refine g_aload_n 81 hM rfl rfl rfl ?_
      refine g_dup 82 hM rfl rfl rfl ?_
      refine g_getI 85 38 (gI s7 177 38) hM rfl rfl rfl rfl rfl rfl rfl ?_
      refine g_iconst 86 hM rfl rfl ?_
      refine g_isub 87 hM rfl rfl ?_
      refine g_putI 90 38 hM rfl rfl rfl rfl rfl rfl rfl ?_
      refine g_iconst 91 hM rfl rfl ?_
      cases h
      exact g_ret hM rfl rfl
    · rw [if_neg hc3] at h
      refine g_ic_ne_t 92 hM rfl rfl (zR_gI _ _ _) (zR_lit rfl) hc3 ?_
      refine g_bipush 94 hM rfl rfl rfl ?_
      cases h
      exact g_ret hM rfl rfl
  · rw [if_neg hc2] at h
    refine g_ic_ne_t 92 hM rfl rfl hg1 (zR_lit rfl) hc2 ?_
    refine g_bipush 94 hM rfl rfl rfl ?_
    cases h
    exact g_ret hM rfl rfl
def j_188_30 (v1 : Int) (s : zS) : Option (Int × zS) := zg (zR v1) (if v1 = 5 then (if (gI s 177 27) = 51 then (some (1, s)) else (j_188_46 v1 s)) else (j_188_46 v1 s))
theorem wj_188_30 {k : zK} {d : Nat} {x : am_H} {v1 : Int} {s : zS} {q : (Int × zS)} (hd : 1 ≤ d) (h : j_188_30 v1 s = some q) : zgo k d 188 (30, [(0, .ref 177), (1, .int (Int32.ofInt v1))], []) (hp s ++ x) (.inl (some (.int (Int32.ofInt q.1))), hp q.2 ++ x) := by
  unfold j_188_30 at h
  have hM := xM_188 k.1
  refine g_iload_n 31 hM rfl rfl rfl ?_
  refine g_iconst 32 hM rfl rfl ?_
  obtain ⟨hg1, h⟩ := zg_some h
  by_cases hc2 : v1 = 5
  · rw [if_pos hc2] at h
    refine g_ic_ne_f 35 46 hM rfl rfl rfl hg1 (zR_lit rfl) hc2 ?_
    refine g_aload_n 36 hM rfl rfl rfl ?_
    refine g_getI 39 27 (gI s 177 27) hM rfl rfl rfl rfl rfl rfl rfl ?_
    refine g_bipush 41 hM rfl rfl rfl ?_
    by_cases hc3 : (gI s 177 27) = 51
    · rw [if_pos hc3] at h
      refine g_ic_ne_f 44 46 hM rfl rfl rfl (zR_gI _ _ _) (zR_lit rfl) hc3 ?_
      refine g_iconst 45 hM rfl rfl ?_
      cases h
      exact g_ret hM rfl rfl
    · rw [if_neg hc3] at h
      refine g_ic_ne_t 46 hM rfl rfl (zR_gI _ _ _) (zR_lit rfl) hc3 ?_
      refine g_lv [(0, .ref 177), (1, .int (Int32.ofInt v1))] rfl ⟨rfl, rfl, trivial⟩ ?_
      exact wj_188_46 (by omega) h
  · rw [if_neg hc2] at h
    refine g_ic_ne_t 46 hM rfl rfl hg1 (zR_lit rfl) hc2 ?_
    refine g_lv [(0, .ref 177), (1, .int (Int32.ofInt v1))] rfl ⟨rfl, rfl, trivial⟩ ?_
    exact wj_188_46 (by omega) h
/-- RelationFinderModel.takeMark(I)I -/
def f_188 (v1 : Int) (s : zS) : Option (Int × zS) := zg (zR v1) (if v1 = 4 then (if (gI s 177 27) = 1 then (zg (0 ≤ ((gI s 177 38) - 1) ∧ ((gI s 177 38) - 1) < 64) (some (5, (sJ s 194 ((gI s 177 38) - 1) (gJ s 177 29))))) else (j_188_30 v1 s)) else (j_188_30 v1 s))
theorem w_188 {k : zK} {d : Nat} {x : am_H} {v1 : Int} {s : zS} {q : (Int × zS)} (hd : 1 ≤ d) (h : f_188 v1 s = some q) : zgo k d 188 (0, [(0, .ref 177), (1, .int (Int32.ofInt v1))], []) (hp s ++ x) (.inl (some (.int (Int32.ofInt q.1))), hp q.2 ++ x) := by
  unfold f_188 at h
  have hM := xM_188 k.1
  refine g_iload_n 1 hM rfl rfl rfl ?_
  refine g_iconst 2 hM rfl rfl ?_
  obtain ⟨hg1, h⟩ := zg_some h
  by_cases hc2 : v1 = 4
  · rw [if_pos hc2] at h
    refine g_ic_ne_f 5 30 hM rfl rfl rfl hg1 (zR_lit rfl) hc2 ?_
    refine g_aload_n 6 hM rfl rfl rfl ?_
    refine g_getI 9 27 (gI s 177 27) hM rfl rfl rfl rfl rfl rfl rfl ?_
    refine g_iconst 10 hM rfl rfl ?_
    by_cases hc3 : (gI s 177 27) = 1
    · rw [if_pos hc3] at h
      refine g_ic_ne_f 13 30 hM rfl rfl rfl (zR_gI _ _ _) (zR_lit rfl) hc3 ?_
      refine g_aload_n 14 hM rfl rfl rfl ?_
      refine g_getF 17 hM rfl rfl rfl rfl rfl ?_
      refine g_aload_n 18 hM rfl rfl rfl ?_
      refine g_getI 21 38 (gI s 177 38) hM rfl rfl rfl rfl rfl rfl rfl ?_
      refine g_iconst 22 hM rfl rfl ?_
      refine g_isub 23 hM rfl rfl ?_
      refine g_aload_n 24 hM rfl rfl rfl ?_
      refine g_getJ 27 29 (gJ s 177 29) hM rfl rfl rfl rfl rfl rfl rfl ?_
      obtain ⟨hg4, h⟩ := zg_some h
      refine g_lastore 28 hM rfl rfl rfl rfl hg4 ?_
      refine g_iconst 29 hM rfl rfl ?_
      cases h
      exact g_ret hM rfl rfl
    · rw [if_neg hc3] at h
      refine g_ic_ne_t 30 hM rfl rfl (zR_gI _ _ _) (zR_lit rfl) hc3 ?_
      refine g_lv [(0, .ref 177), (1, .int (Int32.ofInt v1))] rfl ⟨rfl, rfl, trivial⟩ ?_
      exact wj_188_30 (by omega) h
  · rw [if_neg hc2] at h
    refine g_ic_ne_t 30 hM rfl rfl hg1 (zR_lit rfl) hc2 ?_
    refine g_lv [(0, .ref 177), (1, .int (Int32.ofInt v1))] rfl ⟨rfl, rfl, trivial⟩ ?_
    exact wj_188_30 (by omega) h
/-- RelationFinderModel.take(I)I -/
def f_170 (v1 : Int) (s : zS) : Option (Int × zS) := zg (zR v1) (if t_170_1 v1 = 32 then (zb (f_171 s) (fun r4 s5 => some (r4, s5))) else (if t_170_1 v1 = 37 then (zb (f_174 s) (fun r8 s9 => some (r8, s9))) else (if t_170_1 v1 = 42 then (zb (f_176 s) (fun r12 s13 => some (r12, s13))) else (if t_170_1 v1 = 47 then (zb (f_183 s) (fun r16 s17 => some (r16, s17))) else (if t_170_1 v1 = 52 then (zb (f_188 v1 s) (fun r20 s21 => some (r20, s21))) else (none))))))
theorem w_170 {k : zK} {d : Nat} {x : am_H} {v1 : Int} {s : zS} {q : (Int × zS)} (hd : 6 ≤ d) (h : f_170 v1 s = some q) : zgo k d 170 (0, [(0, .ref 177), (1, .int (Int32.ofInt v1))], []) (hp s ++ x) (.inl (some (.int (Int32.ofInt q.1))), hp q.2 ++ x) := by
  unfold f_170 at h
  have hM := xM_170 k.1
  refine g_iload_n 1 hM rfl rfl rfl ?_
  obtain ⟨hg1, h⟩ := zg_some h
  by_cases hc2 : t_170_1 v1 = 32
  · rw [if_pos hc2] at h
    refine g_tsw 32 hM rfl hg1 hc2 rfl rfl rfl ?_
    refine g_aload_n 33 hM rfl rfl rfl ?_
    obtain ⟨r4, s5, h3, h⟩ := zb_some h
    refine g_call 36 _ [.int (Int32.ofInt r4)] hM rfl rfl rfl rfl rfl (xM_171 _) rfl (z_rcv2 rfl) rfl rfl (by omega) (w_171 (by omega) h3) rfl ?_
    cases h
    exact g_ret hM rfl rfl
  · rw [if_neg hc2] at h
    by_cases hc6 : t_170_1 v1 = 37
    · rw [if_pos hc6] at h
      refine g_tsw 37 hM rfl hg1 hc6 rfl rfl rfl ?_
      refine g_aload_n 38 hM rfl rfl rfl ?_
      obtain ⟨r8, s9, h7, h⟩ := zb_some h
      refine g_call 41 _ [.int (Int32.ofInt r8)] hM rfl rfl rfl rfl rfl (xM_174 _) rfl (z_rcv2 rfl) rfl rfl (by omega) (w_174 (by omega) h7) rfl ?_
      cases h
      exact g_ret hM rfl rfl
    · rw [if_neg hc6] at h
      by_cases hc10 : t_170_1 v1 = 42
      · rw [if_pos hc10] at h
        refine g_tsw 42 hM rfl hg1 hc10 rfl rfl rfl ?_
        refine g_aload_n 43 hM rfl rfl rfl ?_
        obtain ⟨r12, s13, h11, h⟩ := zb_some h
        refine g_call 46 _ [.int (Int32.ofInt r12)] hM rfl rfl rfl rfl rfl (xM_176 _) rfl (z_rcv2 rfl) rfl rfl (by omega) (w_176 (by omega) h11) rfl ?_
        cases h
        exact g_ret hM rfl rfl
      · rw [if_neg hc10] at h
        by_cases hc14 : t_170_1 v1 = 47
        · rw [if_pos hc14] at h
          refine g_tsw 47 hM rfl hg1 hc14 rfl rfl rfl ?_
          refine g_aload_n 48 hM rfl rfl rfl ?_
          obtain ⟨r16, s17, h15, h⟩ := zb_some h
          refine g_call 51 _ [.int (Int32.ofInt r16)] hM rfl rfl rfl rfl rfl (xM_183 _) rfl (z_rcv2 rfl) rfl rfl (by omega) (w_183 (by omega) h15) rfl ?_
          cases h
          exact g_ret hM rfl rfl
        · rw [if_neg hc14] at h
          by_cases hc18 : t_170_1 v1 = 52
          · rw [if_pos hc18] at h
            refine g_tsw 52 hM rfl hg1 hc18 rfl rfl rfl ?_
            refine g_aload_n 53 hM rfl rfl rfl ?_
            refine g_iload_n 54 hM rfl rfl rfl ?_
            obtain ⟨r20, s21, h19, h⟩ := zb_some h
            refine g_call 57 _ [.int (Int32.ofInt r20)] hM rfl rfl rfl rfl rfl (xM_188 _) rfl (z_rcv2 rfl) rfl rfl (by omega) (w_188 (by omega) h19) rfl ?_
            cases h
            exact g_ret hM rfl rfl
          · rw [if_neg hc18] at h
            cases h
def j_157_56_122 (v2 : Int) (s : zS) : Option ((Int × zS) ⊕ ((Int × zS) ⊕ (Int × zS))) := zb (f_170 v2 s) (fun r2 s3 => zg (zR r2) (if r2 = 105 then (some (.inl (r2, (sI s3 177 5 (gI s3 177 5))))) else (some (.inl (r2, (sI s3 177 5 (gI s 177 28)))))))
theorem wj_157_56_122 {k : zK} {d : Nat} {x : am_H} {r : am_A × am_H} {v2 : Int} {s : zS} {q : (Int × zS) ⊕ ((Int × zS) ⊕ (Int × zS))} (hd : 7 ≤ d) (h : j_157_56_122 v2 s = some q) (hK : Sum.elim (G_157_56 k d x r) (K_157_56 k d x r) q) : zgo k d 157 (122, [(0, .ref 177), (2, .int (Int32.ofInt v2))], []) (hp s ++ x) r := by
  unfold j_157_56_122 at h
  have hM := xM_157 k.1
  refine g_aload_n 123 hM rfl rfl rfl ?_
  refine g_getI 126 28 (gI s 177 28) hM rfl rfl rfl rfl rfl rfl rfl ?_
  refine g_istore_n 127 hM rfl rfl rfl ?_
  refine g_aload_n 128 hM rfl rfl rfl ?_
  refine g_iload_n 129 hM rfl rfl rfl ?_
  obtain ⟨r2, s3, h1, h⟩ := zb_some h
  refine g_call 132 _ [.int (Int32.ofInt r2)] hM rfl rfl rfl rfl rfl (xM_170 _) rfl (z_rcv2 rfl) rfl rfl (by omega) (w_170 (by omega) h1) rfl ?_
  refine g_istore_n 133 hM rfl rfl rfl ?_
  refine g_aload_n 134 hM rfl rfl rfl ?_
  refine g_iload_n 135 hM rfl rfl rfl ?_
  refine g_bipush 137 hM rfl rfl rfl ?_
  obtain ⟨hg4, h⟩ := zg_some h
  by_cases hc5 : r2 = 105
  · rw [if_pos hc5] at h
    refine g_ic_ne_f 140 147 hM rfl rfl rfl hg4 (zR_lit rfl) hc5 ?_
    refine g_aload_n 141 hM rfl rfl rfl ?_
    refine g_getI 144 5 (gI s3 177 5) hM rfl rfl rfl rfl rfl rfl rfl ?_
    refine g_goto 148 hM rfl rfl ?_
    refine g_putI 151 5 hM rfl rfl rfl rfl rfl rfl rfl ?_
    refine g_goto 56 hM rfl rfl ?_
    cases h
    exact g_lv [(0, .ref 177), (2, .int (Int32.ofInt r2))] rfl ⟨rfl, rfl, trivial⟩ hK
  · rw [if_neg hc5] at h
    refine g_ic_ne_t 147 hM rfl rfl hg4 (zR_lit rfl) hc5 ?_
    refine g_iload_n 148 hM rfl rfl rfl ?_
    refine g_putI 151 5 hM rfl rfl rfl rfl rfl rfl rfl ?_
    refine g_goto 56 hM rfl rfl ?_
    cases h
    exact g_lv [(0, .ref 177), (2, .int (Int32.ofInt r2))] rfl ⟨rfl, rfl, trivial⟩ hK
def j_165_123 (v1 : Int) (v2 : Int) (v3 : Int) (t0 : Int) (s : zS) : Option Int := zg (zR v3) (if v3 = 0 then (zg (zR v1) (if v1 = 0 then (zg (zR t0) (if t0 = 0 then (some 0) else (zg (zR (v2 - 1)) (if (v2 - 1) = 20 then (some 1) else (some 0))))) else (some 0))) else (zg (zR (v2 - 1)) (if (v2 - 1) = 20 then (some 1) else (some 0))))
theorem wj_165_123 {k : zK} {d : Nat} {x : am_H} {v1 : Int} {v2 : Int} {v3 : Int} {t0 : Int} {s : zS} {q : Int} (hd : 3 ≤ d) (h : j_165_123 v1 v2 v3 t0 s = some q) : zgo k d 165 (123, [(1, .int (Int32.ofInt v1)), (2, .int (Int32.ofInt v2)), (3, .int (Int32.ofInt v3))], [.int (Int32.ofInt t0)]) (hp s ++ x) (.inl (some (.int (Int32.ofInt q))), hp s ++ x) := by
  unfold j_165_123 at h
  have hM := xM_165 k.1
  refine g_istore 125 hM rfl rfl rfl ?_
  refine g_iload_n 126 hM rfl rfl rfl ?_
  obtain ⟨hg1, h⟩ := zg_some h
  by_cases hc2 : v3 = 0
  · rw [if_pos hc2] at h
    refine g_if_ne_f 129 138 hM rfl rfl rfl hg1 hc2 ?_
    refine g_iload_n 130 hM rfl rfl rfl ?_
    obtain ⟨hg3, h⟩ := zg_some h
    by_cases hc4 : v1 = 0
    · rw [if_pos hc4] at h
      refine g_if_ne_f 133 150 hM rfl rfl rfl hg3 hc4 ?_
      refine g_iload 135 hM rfl rfl rfl ?_
      obtain ⟨hg5, h⟩ := zg_some h
      by_cases hc6 : t0 = 0
      · rw [if_pos hc6] at h
        refine g_if_eq_t 150 hM rfl rfl hg5 hc6 ?_
        refine g_iconst 151 hM rfl rfl ?_
        cases h
        exact g_ret hM rfl rfl
      · rw [if_neg hc6] at h
        refine g_if_eq_f 138 150 hM rfl rfl rfl hg5 hc6 ?_
        refine g_iload_n 139 hM rfl rfl rfl ?_
        refine g_iconst 140 hM rfl rfl ?_
        refine g_isub 141 hM rfl rfl ?_
        refine g_bipush 143 hM rfl rfl rfl ?_
        obtain ⟨hg7, h⟩ := zg_some h
        by_cases hc8 : (v2 - 1) = 20
        · rw [if_pos hc8] at h
          refine g_ic_ne_f 146 150 hM rfl rfl rfl hg7 (zR_lit rfl) hc8 ?_
          refine g_iconst 147 hM rfl rfl ?_
          refine g_goto 151 hM rfl rfl ?_
          cases h
          exact g_ret hM rfl rfl
        · rw [if_neg hc8] at h
          refine g_ic_ne_t 150 hM rfl rfl hg7 (zR_lit rfl) hc8 ?_
          refine g_iconst 151 hM rfl rfl ?_
          cases h
          exact g_ret hM rfl rfl
    · rw [if_neg hc4] at h
      refine g_if_ne_t 150 hM rfl rfl hg3 hc4 ?_
      refine g_iconst 151 hM rfl rfl ?_
      cases h
      exact g_ret hM rfl rfl
  · rw [if_neg hc2] at h
    refine g_if_ne_t 138 hM rfl rfl hg1 hc2 ?_
    refine g_iload_n 139 hM rfl rfl rfl ?_
    refine g_iconst 140 hM rfl rfl ?_
    refine g_isub 141 hM rfl rfl ?_
    refine g_bipush 143 hM rfl rfl rfl ?_
    obtain ⟨hg9, h⟩ := zg_some h
    by_cases hc10 : (v2 - 1) = 20
    · rw [if_pos hc10] at h
      refine g_ic_ne_f 146 150 hM rfl rfl rfl hg9 (zR_lit rfl) hc10 ?_
      refine g_iconst 147 hM rfl rfl ?_
      refine g_goto 151 hM rfl rfl ?_
      cases h
      exact g_ret hM rfl rfl
    · rw [if_neg hc10] at h
      refine g_ic_ne_t 150 hM rfl rfl hg9 (zR_lit rfl) hc10 ?_
      refine g_iconst 151 hM rfl rfl ?_
      cases h
      exact g_ret hM rfl rfl
def j_165_118 (v1 : Int) (v2 : Int) (v3 : Int) (s : zS) : Option Int := j_165_123 v1 v2 v3 1 s
theorem wj_165_118 {k : zK} {d : Nat} {x : am_H} {v1 : Int} {v2 : Int} {v3 : Int} {s : zS} {q : Int} (hd : 3 ≤ d) (h : j_165_118 v1 v2 v3 s = some q) : zgo k d 165 (118, [(1, .int (Int32.ofInt v1)), (2, .int (Int32.ofInt v2)), (3, .int (Int32.ofInt v3))], []) (hp s ++ x) (.inl (some (.int (Int32.ofInt q))), hp s ++ x) := by
  unfold j_165_118 at h
  have hM := xM_165 k.1
  refine g_iconst 119 hM rfl rfl ?_
  refine g_goto 123 hM rfl rfl ?_
  refine g_lv [(1, .int (Int32.ofInt v1)), (2, .int (Int32.ofInt v2)), (3, .int (Int32.ofInt v3))] rfl ⟨rfl, rfl, rfl, trivial⟩ ?_
  exact wj_165_123 (by omega) h
def j_165_45 (v1 : Int) (v2 : Int) (t0 : Int) (s : zS) : Option Int := if (gI s 177 27) = 15 then (j_165_118 v1 v2 t0 s) else (if (gI s 177 27) = 47 then (j_165_118 v1 v2 t0 s) else (if (gI s 177 27) = 41 then (j_165_118 v1 v2 t0 s) else (if (gI s 177 27) = 10 then (j_165_118 v1 v2 t0 s) else (if (gI s 177 27) = 11 then (j_165_118 v1 v2 t0 s) else (if (gI s 177 27) = 12 then (j_165_118 v1 v2 t0 s) else (if (gI s 177 27) = 13 then (j_165_118 v1 v2 t0 s) else (if (gI s 177 27) = 14 then (j_165_118 v1 v2 t0 s) else (j_165_123 v1 v2 t0 0 s))))))))
theorem wj_165_45 {k : zK} {d : Nat} {x : am_H} {v1 : Int} {v2 : Int} {t0 : Int} {s : zS} {q : Int} (hd : 3 ≤ d) (h : j_165_45 v1 v2 t0 s = some q) : zgo k d 165 (45, [(0, .ref 177), (1, .int (Int32.ofInt v1)), (2, .int (Int32.ofInt v2))], [.int (Int32.ofInt t0)]) (hp s ++ x) (.inl (some (.int (Int32.ofInt q))), hp s ++ x) := by
  unfold j_165_45 at h
  have hM := xM_165 k.1
  refine g_istore_n 46 hM rfl rfl rfl ?_
  refine g_aload_n 47 hM rfl rfl rfl ?_
  refine g_getI 50 27 (gI s 177 27) hM rfl rfl rfl rfl rfl rfl rfl ?_
  refine g_bipush 52 hM rfl rfl rfl ?_
  by_cases hc1 : (gI s 177 27) = 15
  · rw [if_pos hc1] at h
    refine g_ic_eq_t 118 hM rfl rfl (zR_gI _ _ _) (zR_lit rfl) hc1 ?_
    refine g_lv [(1, .int (Int32.ofInt v1)), (2, .int (Int32.ofInt v2)), (3, .int (Int32.ofInt t0))] rfl ⟨rfl, rfl, rfl, trivial⟩ ?_
    exact wj_165_118 (by omega) h
  · rw [if_neg hc1] at h
    refine g_ic_eq_f 55 118 hM rfl rfl rfl (zR_gI _ _ _) (zR_lit rfl) hc1 ?_
    refine g_aload_n 56 hM rfl rfl rfl ?_
    refine g_getI 59 27 (gI s 177 27) hM rfl rfl rfl rfl rfl rfl rfl ?_
    refine g_bipush 61 hM rfl rfl rfl ?_
    by_cases hc2 : (gI s 177 27) = 47
    · rw [if_pos hc2] at h
      refine g_ic_eq_t 118 hM rfl rfl (zR_gI _ _ _) (zR_lit rfl) hc2 ?_
      refine g_lv [(1, .int (Int32.ofInt v1)), (2, .int (Int32.ofInt v2)), (3, .int (Int32.ofInt t0))] rfl ⟨rfl, rfl, rfl, trivial⟩ ?_
      exact wj_165_118 (by omega) h
    · rw [if_neg hc2] at h
      refine g_ic_eq_f 64 118 hM rfl rfl rfl (zR_gI _ _ _) (zR_lit rfl) hc2 ?_
      refine g_aload_n 65 hM rfl rfl rfl ?_
      refine g_getI 68 27 (gI s 177 27) hM rfl rfl rfl rfl rfl rfl rfl ?_
      refine g_bipush 70 hM rfl rfl rfl ?_
      by_cases hc3 : (gI s 177 27) = 41
      · rw [if_pos hc3] at h
        refine g_ic_eq_t 118 hM rfl rfl (zR_gI _ _ _) (zR_lit rfl) hc3 ?_
        refine g_lv [(1, .int (Int32.ofInt v1)), (2, .int (Int32.ofInt v2)), (3, .int (Int32.ofInt t0))] rfl ⟨rfl, rfl, rfl, trivial⟩ ?_
        exact wj_165_118 (by omega) h
      · rw [if_neg hc3] at h
        refine g_ic_eq_f 73 118 hM rfl rfl rfl (zR_gI _ _ _) (zR_lit rfl) hc3 ?_
        refine g_aload_n 74 hM rfl rfl rfl ?_
        refine g_getI 77 27 (gI s 177 27) hM rfl rfl rfl rfl rfl rfl rfl ?_
        refine g_bipush 79 hM rfl rfl rfl ?_
        by_cases hc4 : (gI s 177 27) = 10
        · rw [if_pos hc4] at h
          refine g_ic_eq_t 118 hM rfl rfl (zR_gI _ _ _) (zR_lit rfl) hc4 ?_
          refine g_lv [(1, .int (Int32.ofInt v1)), (2, .int (Int32.ofInt v2)), (3, .int (Int32.ofInt t0))] rfl ⟨rfl, rfl, rfl, trivial⟩ ?_
          exact wj_165_118 (by omega) h
        · rw [if_neg hc4] at h
          refine g_ic_eq_f 82 118 hM rfl rfl rfl (zR_gI _ _ _) (zR_lit rfl) hc4 ?_
          refine g_aload_n 83 hM rfl rfl rfl ?_
          refine g_getI 86 27 (gI s 177 27) hM rfl rfl rfl rfl rfl rfl rfl ?_
          refine g_bipush 88 hM rfl rfl rfl ?_
          by_cases hc5 : (gI s 177 27) = 11
          · rw [if_pos hc5] at h
            refine g_ic_eq_t 118 hM rfl rfl (zR_gI _ _ _) (zR_lit rfl) hc5 ?_
            refine g_lv [(1, .int (Int32.ofInt v1)), (2, .int (Int32.ofInt v2)), (3, .int (Int32.ofInt t0))] rfl ⟨rfl, rfl, rfl, trivial⟩ ?_
            exact wj_165_118 (by omega) h
          · rw [if_neg hc5] at h
            refine g_ic_eq_f 91 118 hM rfl rfl rfl (zR_gI _ _ _) (zR_lit rfl) hc5 ?_
            refine g_aload_n 92 hM rfl rfl rfl ?_
            refine g_getI 95 27 (gI s 177 27) hM rfl rfl rfl rfl rfl rfl rfl ?_
            refine g_bipush 97 hM rfl rfl rfl ?_
            by_cases hc6 : (gI s 177 27) = 12
            · rw [if_pos hc6] at h
              refine g_ic_eq_t 118 hM rfl rfl (zR_gI _ _ _) (zR_lit rfl) hc6 ?_
              refine g_lv [(1, .int (Int32.ofInt v1)), (2, .int (Int32.ofInt v2)), (3, .int (Int32.ofInt t0))] rfl ⟨rfl, rfl, rfl, trivial⟩ ?_
              exact wj_165_118 (by omega) h
            · rw [if_neg hc6] at h
              refine g_ic_eq_f 100 118 hM rfl rfl rfl (zR_gI _ _ _) (zR_lit rfl) hc6 ?_
              refine g_aload_n 101 hM rfl rfl rfl ?_
              refine g_getI 104 27 (gI s 177 27) hM rfl rfl rfl rfl rfl rfl rfl ?_
              refine g_bipush 106 hM rfl rfl rfl ?_
              by_cases hc7 : (gI s 177 27) = 13
              · rw [if_pos hc7] at h
                refine g_ic_eq_t 118 hM rfl rfl (zR_gI _ _ _) (zR_lit rfl) hc7 ?_
                refine g_lv [(1, .int (Int32.ofInt v1)), (2, .int (Int32.ofInt v2)), (3, .int (Int32.ofInt t0))] rfl ⟨rfl, rfl, rfl, trivial⟩ ?_
                exact wj_165_118 (by omega) h
              · rw [if_neg hc7] at h
                refine g_ic_eq_f 109 118 hM rfl rfl rfl (zR_gI _ _ _) (zR_lit rfl) hc7 ?_
                refine g_aload_n 110 hM rfl rfl rfl ?_
                refine g_getI 113 27 (gI s 177 27) hM rfl rfl rfl rfl rfl rfl rfl ?_
                refine g_bipush 115 hM rfl rfl rfl ?_
                by_cases hc8 : (gI s 177 27) = 14
                · rw [if_pos hc8] at h
                  refine g_ic_ne_f 118 122 hM rfl rfl rfl (zR_gI _ _ _) (zR_lit rfl) hc8 ?_
                  refine g_lv [(1, .int (Int32.ofInt v1)), (2, .int (Int32.ofInt v2)), (3, .int (Int32.ofInt t0))] rfl ⟨rfl, rfl, rfl, trivial⟩ ?_
                  exact wj_165_118 (by omega) h
                · rw [if_neg hc8] at h
                  refine g_ic_ne_t 122 hM rfl rfl (zR_gI _ _ _) (zR_lit rfl) hc8 ?_
                  refine g_iconst 123 hM rfl rfl ?_
                  refine g_lv [(1, .int (Int32.ofInt v1)), (2, .int (Int32.ofInt v2)), (3, .int (Int32.ofInt t0))] rfl ⟨rfl, rfl, rfl, trivial⟩ ?_
                  exact wj_165_123 (by omega) h
def j_165_40 (v1 : Int) (v2 : Int) (s : zS) : Option Int := j_165_45 v1 v2 1 s
theorem wj_165_40 {k : zK} {d : Nat} {x : am_H} {v1 : Int} {v2 : Int} {s : zS} {q : Int} (hd : 3 ≤ d) (h : j_165_40 v1 v2 s = some q) : zgo k d 165 (40, [(0, .ref 177), (1, .int (Int32.ofInt v1)), (2, .int (Int32.ofInt v2))], []) (hp s ++ x) (.inl (some (.int (Int32.ofInt q))), hp s ++ x) := by
  unfold j_165_40 at h
  have hM := xM_165 k.1
  refine g_iconst 41 hM rfl rfl ?_
  refine g_goto 45 hM rfl rfl ?_
  refine g_lv [(0, .ref 177), (1, .int (Int32.ofInt v1)), (2, .int (Int32.ofInt v2))] rfl ⟨rfl, rfl, rfl, trivial⟩ ?_
  exact wj_165_45 (by omega) h
def G_165_237 (k : zK) (d : Nat) (x : am_H) (r : am_A × am_H) (v1 : Int) (v3 : Int) (s : zS) (e : (Int)) : Prop := zgo k d 165 (237, [(0, .ref 177), (1, .int (Int32.ofInt v1)), (2, .int (Int32.ofInt e)), (3, .int (Int32.ofInt v3))], []) (hp s ++ x) r
def K_165_237 (k : zK) (d : Nat) (x : am_H) (r : am_A × am_H) (v1 : Int) (v3 : Int) (s : zS) (t : (Int)) : Prop := zgo k d 165 (259, [(0, .ref 177), (1, .int (Int32.ofInt v1)), (2, .int (Int32.ofInt t)), (3, .int (Int32.ofInt v3))], []) (hp s ++ x) r
def b_165_237 (v1 : Int) (v3 : Int) (s : zS) (v2 : Int) : Option ((Int) ⊕ (Int)) := zg (0 ≤ (v2 - 1) ∧ (v2 - 1) < 64) (zo (f_166 (gI s 189 (v2 - 1))) (fun r3 => zg (zR r3) (if 10 < r3 then (some (.inl (v2 + (-1)))) else (some (.inr v2)))))
theorem wb_165_237 {k : zK} {d : Nat} {x : am_H} {r : am_A × am_H} {v1 : Int} {v3 : Int} {v2 : Int} {s : zS} {q : (Int) ⊕ (Int)} (hd : 3 ≤ d) (h : b_165_237 v1 v3 s v2 = some q) (hK : Sum.elim (G_165_237 k d x r v1 v3 s) (K_165_237 k d x r v1 v3 s) q) : G_165_237 k d x r v1 v3 s v2 := by
  unfold b_165_237 at h
  have hM := xM_165 k.1
  show zgo k d 165 (237, [(0, .ref 177), (1, .int (Int32.ofInt v1)), (2, .int (Int32.ofInt v2)), (3, .int (Int32.ofInt v3))], []) (hp s ++ x) r
  refine g_aload_n 238 hM rfl rfl rfl ?_
  refine g_getF 241 hM rfl rfl rfl rfl rfl ?_
  refine g_iload_n 242 hM rfl rfl rfl ?_
  refine g_iconst 243 hM rfl rfl ?_
  refine g_isub 244 hM rfl rfl ?_
  obtain ⟨hg1, h⟩ := zg_some h
  refine g_iaload 245 (gI s 189 (v2 - 1)) hM rfl rfl rfl rfl hg1 rfl ?_
  obtain ⟨r3, h2, h⟩ := zo_some h
  refine g_call 248 _ [.int (Int32.ofInt r3)] hM rfl rfl rfl rfl rfl (xM_166 _) rfl rfl rfl rfl (by omega) (w_166 (by omega) h2) rfl ?_
  refine g_bipush 250 hM rfl rfl rfl ?_
  obtain ⟨hg4, h⟩ := zg_some h
  by_cases hc5 : 10 < r3
  · rw [if_pos hc5] at h
    refine g_ic_le_f 253 259 hM rfl rfl rfl hg4 (zR_lit rfl) hc5 ?_
    refine g_iinc 256 hM rfl rfl rfl rfl ?_
    refine g_goto 237 hM rfl rfl ?_
    cases h
    exact g_lv [(0, .ref 177), (1, .int (Int32.ofInt v1)), (2, .int (Int32.ofInt (v2 + (-1)))), (3, .int (Int32.ofInt v3))] rfl ⟨rfl, rfl, rfl, rfl, trivial⟩ hK
  · rw [if_neg hc5] at h
    refine g_ic_le_t 259 hM rfl rfl hg4 (zR_lit rfl) hc5 ?_
    cases h
    exact g_lv [(0, .ref 177), (1, .int (Int32.ofInt v1)), (2, .int (Int32.ofInt v2)), (3, .int (Int32.ofInt v3))] rfl ⟨rfl, rfl, rfl, rfl, trivial⟩ hK
theorem wl_165_237 {k : zK} {d : Nat} {x : am_H} {r : am_A × am_H} {v1 : Int} {v3 : Int} {s : zS} {n : Nat} {e : (Int)} {t : (Int)} (hd : 3 ≤ d) (h : zlp (fun (q : Int) => b_165_237 v1 v3 s q) n e = some t) (hK : K_165_237 k d x r v1 v3 s t) : G_165_237 k d x r v1 v3 s e := zlp_go (G := fun e => G_165_237 k d x r v1 v3 s e) (K := K_165_237 k d x r v1 v3 s) (fun e e1 h1 hg => wb_165_237 (q := .inl e1) hd h1 hg) (fun e t1 h1 hk => wb_165_237 (q := .inr t1) hd h1 hk) n e t h hK
def j_165_325 (v2 : Int) (s : zS) : Option Int := zg (0 ≤ (v2 - 1) ∧ (v2 - 1) < 64) (zo (f_169 (gI s 189 (v2 - 1))) (fun r3 => zg (zR r3) (if r3 = 0 then (some 0) else (zg (zR (v2 - 1)) (if (v2 - 1) = 20 then (some 1) else (some 0))))))
theorem wj_165_325 {k : zK} {d : Nat} {x : am_H} {v2 : Int} {s : zS} {q : Int} (hd : 3 ≤ d) (h : j_165_325 v2 s = some q) : zgo k d 165 (325, [(0, .ref 177), (2, .int (Int32.ofInt v2))], []) (hp s ++ x) (.inl (some (.int (Int32.ofInt q))), hp s ++ x) := by
  unfold j_165_325 at h
  have hM := xM_165 k.1
  refine g_aload_n 326 hM rfl rfl rfl ?_
  refine g_getF 329 hM rfl rfl rfl rfl rfl ?_
  refine g_iload_n 330 hM rfl rfl rfl ?_
  refine g_iconst 331 hM rfl rfl ?_
  refine g_isub 332 hM rfl rfl ?_
  obtain ⟨hg1, h⟩ := zg_some h
  refine g_iaload 333 (gI s 189 (v2 - 1)) hM rfl rfl rfl rfl hg1 rfl ?_
  obtain ⟨r3, h2, h⟩ := zo_some h
  refine g_call 336 _ [.int (Int32.ofInt r3)] hM rfl rfl rfl rfl rfl (xM_169 _) rfl rfl rfl rfl (by omega) (w_169 (by omega) h2) rfl ?_
  obtain ⟨hg4, h⟩ := zg_some h
  by_cases hc5 : r3 = 0
  · rw [if_pos hc5] at h
    refine g_if_eq_t 343 hM rfl rfl hg4 hc5 ?_
    refine g_iconst 344 hM rfl rfl ?_
    refine g_istore 346 hM rfl rfl rfl ?_
    refine g_iload 348 hM rfl rfl rfl ?_
    refine g_if_eq_t 363 hM rfl rfl (zR_lit rfl) (by decide) ?_
    refine g_iconst 364 hM rfl rfl ?_
    cases h
    exact g_ret hM rfl rfl
  · rw [if_neg hc5] at h
    refine g_if_eq_f 339 343 hM rfl rfl rfl hg4 hc5 ?_
    refine g_iconst 340 hM rfl rfl ?_
    refine g_goto 344 hM rfl rfl ?_
    refine g_istore 346 hM rfl rfl rfl ?_
    refine g_iload 348 hM rfl rfl rfl ?_
    refine g_if_eq_f 351 363 hM rfl rfl rfl (zR_lit rfl) (by decide) ?_
    refine g_iload_n 352 hM rfl rfl rfl ?_
    refine g_iconst 353 hM rfl rfl ?_
    refine g_isub 354 hM rfl rfl ?_
    refine g_bipush 356 hM rfl rfl rfl ?_
    obtain ⟨hg6, h⟩ := zg_some h
    by_cases hc7 : (v2 - 1) = 20
    · rw [if_pos hc7] at h
      refine g_ic_ne_f 359 363 hM rfl rfl rfl hg6 (zR_lit rfl) hc7 ?_
      refine g_iconst 360 hM rfl rfl ?_
      refine g_goto 364 hM rfl rfl ?_
      cases h
      exact g_ret hM rfl rfl
    · rw [if_neg hc7] at h
      refine g_ic_ne_t 363 hM rfl rfl hg6 (zR_lit rfl) hc7 ?_
      refine g_iconst 364 hM rfl rfl ?_
      cases h
      exact g_ret hM rfl rfl
def G_165_401 (k : zK) (d : Nat) (x : am_H) (r : am_A × am_H) (v4 : Int) (s : zS) (e : (Int)) : Prop := zgo k d 165 (401, [(0, .ref 177), (2, .int (Int32.ofInt e)), (4, .int (Int32.ofInt v4))], []) (hp s ++ x) r
def K_165_401 (k : zK) (d : Nat) (x : am_H) (r : am_A × am_H) (v4 : Int) (s : zS) (t : (Int)) : Prop := zgo k d 165 (450, [(2, .int (Int32.ofInt t))], []) (hp s ++ x) r
def b_165_401 (v4 : Int) (s : zS) (v2 : Int) : Option ((Int) ⊕ (Int)) := zg (0 ≤ (v2 - 1) ∧ (v2 - 1) < 64) (if (gI s 189 (v2 - 1)) = 15 then (some (.inl (v2 + (-1)))) else (zo (f_168 (gI s 189 (v2 - 1))) (fun r4 => zg (zR r4) (if r4 = 0 then (some (.inr v2)) else (zo (f_166 (gI s 189 (v2 - 1))) (fun r8 => zg (zR r8) (zg (zR v4) (if r8 < v4 then (some (.inr v2)) else (some (.inl (v2 + (-1))))))))))))
theorem wb_165_401 {k : zK} {d : Nat} {x : am_H} {r : am_A × am_H} {v4 : Int} {v2 : Int} {s : zS} {q : (Int) ⊕ (Int)} (hd : 3 ≤ d) (h : b_165_401 v4 s v2 = some q) (hK : Sum.elim (G_165_401 k d x r v4 s) (K_165_401 k d x r v4 s) q) : G_165_401 k d x r v4 s v2 := by
  unfold b_165_401 at h
  have hM := xM_165 k.1
  show zgo k d 165 (401, [(0, .ref 177), (2, .int (Int32.ofInt v2)), (4, .int (Int32.ofInt v4))], []) (hp s ++ x) r
  refine g_aload_n 402 hM rfl rfl rfl ?_
  refine g_getF 405 hM rfl rfl rfl rfl rfl ?_
  refine g_iload_n 406 hM rfl rfl rfl ?_
  refine g_iconst 407 hM rfl rfl ?_
  refine g_isub 408 hM rfl rfl ?_
  obtain ⟨hg1, h⟩ := zg_some h
  refine g_iaload 409 (gI s 189 (v2 - 1)) hM rfl rfl rfl rfl hg1 rfl ?_
  refine g_bipush 411 hM rfl rfl rfl ?_
  by_cases hc2 : (gI s 189 (v2 - 1)) = 15
  · rw [if_pos hc2] at h
    refine g_ic_eq_t 444 hM rfl rfl (zR_gI _ _ _) (zR_lit rfl) hc2 ?_
    refine g_iinc 447 hM rfl rfl rfl rfl ?_
    refine g_goto 401 hM rfl rfl ?_
    cases h
    exact g_lv [(0, .ref 177), (2, .int (Int32.ofInt (v2 + (-1)))), (4, .int (Int32.ofInt v4))] rfl ⟨rfl, rfl, rfl, trivial⟩ hK
  · rw [if_neg hc2] at h
    refine g_ic_eq_f 414 444 hM rfl rfl rfl (zR_gI _ _ _) (zR_lit rfl) hc2 ?_
    refine g_aload_n 415 hM rfl rfl rfl ?_
    refine g_getF 418 hM rfl rfl rfl rfl rfl ?_
    refine g_iload_n 419 hM rfl rfl rfl ?_
    refine g_iconst 420 hM rfl rfl ?_
    refine g_isub 421 hM rfl rfl ?_
    refine g_iaload 422 (gI s 189 (v2 - 1)) hM rfl rfl rfl rfl hg1 rfl ?_
    obtain ⟨r4, h3, h⟩ := zo_some h
    refine g_call 425 _ [.int (Int32.ofInt r4)] hM rfl rfl rfl rfl rfl (xM_168 _) rfl rfl rfl rfl (by omega) (w_168 (by omega) h3) rfl ?_
    obtain ⟨hg5, h⟩ := zg_some h
    by_cases hc6 : r4 = 0
    · rw [if_pos hc6] at h
      refine g_if_eq_t 450 hM rfl rfl hg5 hc6 ?_
      cases h
      exact g_lv [(2, .int (Int32.ofInt v2))] rfl ⟨rfl, trivial⟩ hK
    · rw [if_neg hc6] at h
      refine g_if_eq_f 428 450 hM rfl rfl rfl hg5 hc6 ?_
      refine g_aload_n 429 hM rfl rfl rfl ?_
      refine g_getF 432 hM rfl rfl rfl rfl rfl ?_
      refine g_iload_n 433 hM rfl rfl rfl ?_
      refine g_iconst 434 hM rfl rfl ?_
      refine g_isub 435 hM rfl rfl ?_
      refine g_iaload 436 (gI s 189 (v2 - 1)) hM rfl rfl rfl rfl hg1 rfl ?_
      obtain ⟨r8, h7, h⟩ := zo_some h
      refine g_call 439 _ [.int (Int32.ofInt r8)] hM rfl rfl rfl rfl rfl (xM_166 _) rfl rfl rfl rfl (by omega) (w_166 (by omega) h7) rfl ?_
      refine g_iload 441 hM rfl rfl rfl ?_
      obtain ⟨hg9, h⟩ := zg_some h
      obtain ⟨hg10, h⟩ := zg_some h
      by_cases hc11 : r8 < v4
      · rw [if_pos hc11] at h
        refine g_ic_lt_t 450 hM rfl rfl hg9 hg10 hc11 ?_
        cases h
        exact g_lv [(2, .int (Int32.ofInt v2))] rfl ⟨rfl, trivial⟩ hK
      · rw [if_neg hc11] at h
        refine g_ic_lt_f 444 450 hM rfl rfl rfl hg9 hg10 hc11 ?_
        refine g_iinc 447 hM rfl rfl rfl rfl ?_
        refine g_goto 401 hM rfl rfl ?_
        cases h
        exact g_lv [(0, .ref 177), (2, .int (Int32.ofInt (v2 + (-1)))), (4, .int (Int32.ofInt v4))] rfl ⟨rfl, rfl, rfl, trivial⟩ hK
theorem wl_165_401 {k : zK} {d : Nat} {x : am_H} {r : am_A × am_H} {v4 : Int} {s : zS} {n : Nat} {e : (Int)} {t : (Int)} (hd : 3 ≤ d) (h : zlp (fun (q : Int) => b_165_401 v4 s q) n e = some t) (hK : K_165_401 k d x r v4 s t) : G_165_401 k d x r v4 s e := zlp_go (G := fun e => G_165_401 k d x r v4 s e) (K := K_165_401 k d x r v4 s) (fun e e1 h1 hg => wb_165_401 (q := .inl e1) hd h1 hg) (fun e t1 h1 hk => wb_165_401 (q := .inr t1) hd h1 hk) n e t h hK
def j_165_399 (v2 : Int) (t0 : Int) (s : zS) : Option Int := zo (zlp (fun (q : Int) => b_165_401 t0 s q) zF v2) (fun e1 => zg (zR (e1 - 1)) (if (e1 - 1) = 20 then (some 1) else (some 0)))
theorem wj_165_399 {k : zK} {d : Nat} {x : am_H} {v2 : Int} {t0 : Int} {s : zS} {q : Int} (hd : 3 ≤ d) (h : j_165_399 v2 t0 s = some q) : zgo k d 165 (399, [(0, .ref 177), (2, .int (Int32.ofInt v2))], [.int (Int32.ofInt t0)]) (hp s ++ x) (.inl (some (.int (Int32.ofInt q))), hp s ++ x) := by
  unfold j_165_399 at h
  have hM := xM_165 k.1
  refine g_istore 401 hM rfl rfl rfl ?_
  obtain ⟨e1, h2, h⟩ := zo_some h
  refine g_lv [(0, .ref 177), (2, .int (Int32.ofInt v2)), (4, .int (Int32.ofInt t0))] rfl ⟨rfl, rfl, rfl, trivial⟩ ?_
  refine wl_165_401 (by omega) h2 ?_
  show zgo k d 165 (450, [(2, .int (Int32.ofInt e1))], []) (hp s ++ x) (.inl (some (.int (Int32.ofInt q))), hp s ++ x)
  refine g_iload_n 451 hM rfl rfl rfl ?_
  refine g_iconst 452 hM rfl rfl ?_
  refine g_isub 453 hM rfl rfl ?_
  refine g_bipush 455 hM rfl rfl rfl ?_
  obtain ⟨hg3, h⟩ := zg_some h
  by_cases hc4 : (e1 - 1) = 20
  · rw [if_pos hc4] at h
    refine g_ic_ne_f 458 462 hM rfl rfl rfl hg3 (zR_lit rfl) hc4 ?_
    refine g_iconst 459 hM rfl rfl ?_
    refine g_goto 463 hM rfl rfl ?_
    cases h
    exact g_ret hM rfl rfl
  · rw [if_neg hc4] at h
    refine g_ic_ne_t 462 hM rfl rfl hg3 (zR_lit rfl) hc4 ?_
    refine g_iconst 463 hM rfl rfl ?_
    cases h
    exact g_ret hM rfl rfl
def j_165_368 (v1 : Int) (v2 : Int) (v3 : Int) (s : zS) : Option Int := zg (zR v1) (if 3 < v1 then (some 0) else (zg (zR v3) (if v3 = 0 then (some 0) else (if (gI s 177 27) = 18 then (j_165_399 v2 3 s) else (zo (f_166 (gI s 177 27)) (fun r7 => j_165_399 v2 r7 s))))))
theorem wj_165_368 {k : zK} {d : Nat} {x : am_H} {v1 : Int} {v2 : Int} {v3 : Int} {s : zS} {q : Int} (hd : 3 ≤ d) (h : j_165_368 v1 v2 v3 s = some q) : zgo k d 165 (368, [(0, .ref 177), (1, .int (Int32.ofInt v1)), (2, .int (Int32.ofInt v2)), (3, .int (Int32.ofInt v3))], []) (hp s ++ x) (.inl (some (.int (Int32.ofInt q))), hp s ++ x) := by
  unfold j_165_368 at h
  have hM := xM_165 k.1
  refine g_iload_n 369 hM rfl rfl rfl ?_
  refine g_iconst 370 hM rfl rfl ?_
  obtain ⟨hg1, h⟩ := zg_some h
  by_cases hc2 : 3 < v1
  · rw [if_pos hc2] at h
    refine g_ic_gt_t 377 hM rfl rfl hg1 (zR_lit rfl) hc2 ?_
    refine g_iconst 378 hM rfl rfl ?_
    cases h
    exact g_ret hM rfl rfl
  · rw [if_neg hc2] at h
    refine g_ic_gt_f 373 377 hM rfl rfl rfl hg1 (zR_lit rfl) hc2 ?_
    refine g_iload_n 374 hM rfl rfl rfl ?_
    obtain ⟨hg3, h⟩ := zg_some h
    by_cases hc4 : v3 = 0
    · rw [if_pos hc4] at h
      refine g_if_ne_f 377 379 hM rfl rfl rfl hg3 hc4 ?_
      refine g_iconst 378 hM rfl rfl ?_
      cases h
      exact g_ret hM rfl rfl
    · rw [if_neg hc4] at h
      refine g_if_ne_t 379 hM rfl rfl hg3 hc4 ?_
      refine g_aload_n 380 hM rfl rfl rfl ?_
      refine g_getI 383 27 (gI s 177 27) hM rfl rfl rfl rfl rfl rfl rfl ?_
      refine g_bipush 385 hM rfl rfl rfl ?_
      by_cases hc5 : (gI s 177 27) = 18
      · rw [if_pos hc5] at h
        refine g_ic_ne_f 388 392 hM rfl rfl rfl (zR_gI _ _ _) (zR_lit rfl) hc5 ?_
        refine g_iconst 389 hM rfl rfl ?_
        refine g_goto 399 hM rfl rfl ?_
        refine g_lv [(0, .ref 177), (2, .int (Int32.ofInt v2))] rfl ⟨rfl, rfl, trivial⟩ ?_
        exact wj_165_399 (by omega) h
      · rw [if_neg hc5] at h
        refine g_ic_ne_t 392 hM rfl rfl (zR_gI _ _ _) (zR_lit rfl) hc5 ?_
        refine g_aload_n 393 hM rfl rfl rfl ?_
        refine g_getI 396 27 (gI s 177 27) hM rfl rfl rfl rfl rfl rfl rfl ?_
        obtain ⟨r7, h6, h⟩ := zo_some h
        refine g_call 399 _ [.int (Int32.ofInt r7)] hM rfl rfl rfl rfl rfl (xM_166 _) rfl rfl rfl rfl (by omega) (w_166 (by omega) h6) rfl ?_
        refine g_lv [(0, .ref 177), (2, .int (Int32.ofInt v2))] rfl ⟨rfl, rfl, trivial⟩ ?_
        exact wj_165_399 (by omega) h
def j_165_303 (v1 : Int) (v2 : Int) (v3 : Int) (s : zS) : Option Int := zg (zR v3) (if v3 = 0 then (if (gI s 177 27) = 20 then (j_165_325 v2 s) else (if (gI s 177 27) = 42 then (j_165_325 v2 s) else (some 0))) else (j_165_368 v1 (v2 + (-1)) v3 s))
theorem wj_165_303 {k : zK} {d : Nat} {x : am_H} {v1 : Int} {v2 : Int} {v3 : Int} {s : zS} {q : Int} (hd : 3 ≤ d) (h : j_165_303 v1 v2 v3 s = some q) : zgo k d 165 (303, [(0, .ref 177), (1, .int (Int32.ofInt v1)), (2, .int (Int32.ofInt v2)), (3, .int (Int32.ofInt v3))], []) (hp s ++ x) (.inl (some (.int (Int32.ofInt q))), hp s ++ x) := by
  unfold j_165_303 at h
  have hM := xM_165 k.1
  refine g_iload_n 304 hM rfl rfl rfl ?_
  obtain ⟨hg1, h⟩ := zg_some h
  by_cases hc2 : v3 = 0
  · rw [if_pos hc2] at h
    refine g_if_ne_f 307 365 hM rfl rfl rfl hg1 hc2 ?_
    refine g_aload_n 308 hM rfl rfl rfl ?_
    refine g_getI 311 27 (gI s 177 27) hM rfl rfl rfl rfl rfl rfl rfl ?_
    refine g_bipush 313 hM rfl rfl rfl ?_
    by_cases hc3 : (gI s 177 27) = 20
    · rw [if_pos hc3] at h
      refine g_ic_eq_t 325 hM rfl rfl (zR_gI _ _ _) (zR_lit rfl) hc3 ?_
      refine g_lv [(0, .ref 177), (2, .int (Int32.ofInt v2))] rfl ⟨rfl, rfl, trivial⟩ ?_
      exact wj_165_325 (by omega) h
    · rw [if_neg hc3] at h
      refine g_ic_eq_f 316 325 hM rfl rfl rfl (zR_gI _ _ _) (zR_lit rfl) hc3 ?_
      refine g_aload_n 317 hM rfl rfl rfl ?_
      refine g_getI 320 27 (gI s 177 27) hM rfl rfl rfl rfl rfl rfl rfl ?_
      refine g_bipush 322 hM rfl rfl rfl ?_
      by_cases hc4 : (gI s 177 27) = 42
      · rw [if_pos hc4] at h
        refine g_ic_ne_f 325 343 hM rfl rfl rfl (zR_gI _ _ _) (zR_lit rfl) hc4 ?_
        refine g_lv [(0, .ref 177), (2, .int (Int32.ofInt v2))] rfl ⟨rfl, rfl, trivial⟩ ?_
        exact wj_165_325 (by omega) h
      · rw [if_neg hc4] at h
        refine g_ic_ne_t 343 hM rfl rfl (zR_gI _ _ _) (zR_lit rfl) hc4 ?_
        refine g_iconst 344 hM rfl rfl ?_
        refine g_istore 346 hM rfl rfl rfl ?_
        refine g_iload 348 hM rfl rfl rfl ?_
        refine g_if_eq_t 363 hM rfl rfl (zR_lit rfl) (by decide) ?_
        refine g_iconst 364 hM rfl rfl ?_
        cases h
        exact g_ret hM rfl rfl
  · rw [if_neg hc2] at h
    refine g_if_ne_t 365 hM rfl rfl hg1 hc2 ?_
    refine g_iinc 368 hM rfl rfl rfl rfl ?_
    refine g_lv [(0, .ref 177), (1, .int (Int32.ofInt v1)), (2, .int (Int32.ofInt (v2 + (-1)))), (3, .int (Int32.ofInt v3))] rfl ⟨rfl, rfl, rfl, rfl, trivial⟩ ?_
    exact wj_165_368 (by omega) h
def j_165_290 (v1 : Int) (v2 : Int) (v3 : Int) (t0 : Int) (s : zS) : Option Int := zg (zR v3) (if v3 = 0 then (j_165_303 v1 v2 v3 s) else (zg (zR t0) (if t0 = 0 then (some 0) else (j_165_303 v1 v2 v3 s))))
theorem wj_165_290 {k : zK} {d : Nat} {x : am_H} {v1 : Int} {v2 : Int} {v3 : Int} {t0 : Int} {s : zS} {q : Int} (hd : 3 ≤ d) (h : j_165_290 v1 v2 v3 t0 s = some q) : zgo k d 165 (290, [(0, .ref 177), (1, .int (Int32.ofInt v1)), (2, .int (Int32.ofInt v2)), (3, .int (Int32.ofInt v3))], [.int (Int32.ofInt t0)]) (hp s ++ x) (.inl (some (.int (Int32.ofInt q))), hp s ++ x) := by
  unfold j_165_290 at h
  have hM := xM_165 k.1
  refine g_istore 292 hM rfl rfl rfl ?_
  refine g_iload_n 293 hM rfl rfl rfl ?_
  obtain ⟨hg1, h⟩ := zg_some h
  by_cases hc2 : v3 = 0
  · rw [if_pos hc2] at h
    refine g_if_eq_t 303 hM rfl rfl hg1 hc2 ?_
    refine g_lv [(0, .ref 177), (1, .int (Int32.ofInt v1)), (2, .int (Int32.ofInt v2)), (3, .int (Int32.ofInt v3))] rfl ⟨rfl, rfl, rfl, rfl, trivial⟩ ?_
    exact wj_165_303 (by omega) h
  · rw [if_neg hc2] at h
    refine g_if_eq_f 296 303 hM rfl rfl rfl hg1 hc2 ?_
    refine g_iload 298 hM rfl rfl rfl ?_
    obtain ⟨hg3, h⟩ := zg_some h
    by_cases hc4 : t0 = 0
    · rw [if_pos hc4] at h
      refine g_if_ne_f 301 303 hM rfl rfl rfl hg3 hc4 ?_
      refine g_iconst 302 hM rfl rfl ?_
      cases h
      exact g_ret hM rfl rfl
    · rw [if_neg hc4] at h
      refine g_if_ne_t 303 hM rfl rfl hg3 hc4 ?_
      refine g_lv [(0, .ref 177), (1, .int (Int32.ofInt v1)), (2, .int (Int32.ofInt v2)), (3, .int (Int32.ofInt v3))] rfl ⟨rfl, rfl, rfl, rfl, trivial⟩ ?_
      exact wj_165_303 (by omega) h
def j_165_285 (v1 : Int) (v2 : Int) (v3 : Int) (s : zS) : Option Int := j_165_290 v1 v2 v3 1 s
theorem wj_165_285 {k : zK} {d : Nat} {x : am_H} {v1 : Int} {v2 : Int} {v3 : Int} {s : zS} {q : Int} (hd : 3 ≤ d) (h : j_165_285 v1 v2 v3 s = some q) : zgo k d 165 (285, [(0, .ref 177), (1, .int (Int32.ofInt v1)), (2, .int (Int32.ofInt v2)), (3, .int (Int32.ofInt v3))], []) (hp s ++ x) (.inl (some (.int (Int32.ofInt q))), hp s ++ x) := by
  unfold j_165_285 at h
  have hM := xM_165 k.1
  refine g_iconst 286 hM rfl rfl ?_
  refine g_goto 290 hM rfl rfl ?_
  refine g_lv [(0, .ref 177), (1, .int (Int32.ofInt v1)), (2, .int (Int32.ofInt v2)), (3, .int (Int32.ofInt v3))] rfl ⟨rfl, rfl, rfl, rfl, trivial⟩ ?_
  exact wj_165_290 (by omega) h
def j_165_224 (v1 : Int) (v2 : Int) (s : zS) : Option Int := zo (f_168 (gI s 177 27)) (fun r2 => zg (zR v1) (if v1 = 2 then (zo (zlp (fun (q : Int) => b_165_237 v1 r2 s q) zF v2) (fun e5 => zg (0 ≤ (e5 - 1) ∧ (e5 - 1) < 64) (if (gI s 189 (e5 - 1)) = 68 then (j_165_285 v1 e5 r2 s) else (if (gI s 189 (e5 - 1)) = 106 then (j_165_285 v1 e5 r2 s) else (j_165_290 v1 e5 r2 0 s))))) else (j_165_368 v1 v2 r2 s)))
theorem wj_165_224 {k : zK} {d : Nat} {x : am_H} {v1 : Int} {v2 : Int} {s : zS} {q : Int} (hd : 3 ≤ d) (h : j_165_224 v1 v2 s = some q) : zgo k d 165 (224, [(0, .ref 177), (1, .int (Int32.ofInt v1)), (2, .int (Int32.ofInt v2))], []) (hp s ++ x) (.inl (some (.int (Int32.ofInt q))), hp s ++ x) := by
  unfold j_165_224 at h
  have hM := xM_165 k.1
  refine g_aload_n 225 hM rfl rfl rfl ?_
  refine g_getI 228 27 (gI s 177 27) hM rfl rfl rfl rfl rfl rfl rfl ?_
  obtain ⟨r2, h1, h⟩ := zo_some h
  refine g_call 231 _ [.int (Int32.ofInt r2)] hM rfl rfl rfl rfl rfl (xM_168 _) rfl rfl rfl rfl (by omega) (w_168 (by omega) h1) rfl ?_
  refine g_istore_n 232 hM rfl rfl rfl ?_
  refine g_iload_n 233 hM rfl rfl rfl ?_
  refine g_iconst 234 hM rfl rfl ?_
  obtain ⟨hg3, h⟩ := zg_some h
  by_cases hc4 : v1 = 2
  · rw [if_pos hc4] at h
    refine g_ic_ne_f 237 368 hM rfl rfl rfl hg3 (zR_lit rfl) hc4 ?_
    obtain ⟨e5, h6, h⟩ := zo_some h
    refine g_lv [(0, .ref 177), (1, .int (Int32.ofInt v1)), (2, .int (Int32.ofInt v2)), (3, .int (Int32.ofInt r2))] rfl ⟨rfl, rfl, rfl, rfl, trivial⟩ ?_
    refine wl_165_237 (by omega) h6 ?_
    show zgo k d 165 (259, [(0, .ref 177), (1, .int (Int32.ofInt v1)), (2, .int (Int32.ofInt e5)), (3, .int (Int32.ofInt r2))], []) (hp s ++ x) (.inl (some (.int (Int32.ofInt q))), hp s ++ x)
    refine g_aload_n 260 hM rfl rfl rfl ?_
    refine g_getF 263 hM rfl rfl rfl rfl rfl ?_
    refine g_iload_n 264 hM rfl rfl rfl ?_
    refine g_iconst 265 hM rfl rfl ?_
    refine g_isub 266 hM rfl rfl ?_
    obtain ⟨hg7, h⟩ := zg_some h
    refine g_iaload 267 (gI s 189 (e5 - 1)) hM rfl rfl rfl rfl hg7 rfl ?_
    refine g_bipush 269 hM rfl rfl rfl ?_
    by_cases hc8 : (gI s 189 (e5 - 1)) = 68
    · rw [if_pos hc8] at h
      refine g_ic_eq_t 285 hM rfl rfl (zR_gI _ _ _) (zR_lit rfl) hc8 ?_
      refine g_lv [(0, .ref 177), (1, .int (Int32.ofInt v1)), (2, .int (Int32.ofInt e5)), (3, .int (Int32.ofInt r2))] rfl ⟨rfl, rfl, rfl, rfl, trivial⟩ ?_
      exact wj_165_285 (by omega) h
    · rw [if_neg hc8] at h
      refine g_ic_eq_f 272 285 hM rfl rfl rfl (zR_gI _ _ _) (zR_lit rfl) hc8 ?_
      refine g_aload_n 273 hM rfl rfl rfl ?_
      refine g_getF 276 hM rfl rfl rfl rfl rfl ?_
      refine g_iload_n 277 hM rfl rfl rfl ?_
      refine g_iconst 278 hM rfl rfl ?_
      refine g_isub 279 hM rfl rfl ?_
      refine g_iaload 280 (gI s 189 (e5 - 1)) hM rfl rfl rfl rfl hg7 rfl ?_
      refine g_bipush 282 hM rfl rfl rfl ?_
      by_cases hc9 : (gI s 189 (e5 - 1)) = 106
      · rw [if_pos hc9] at h
        refine g_ic_ne_f 285 289 hM rfl rfl rfl (zR_gI _ _ _) (zR_lit rfl) hc9 ?_
        refine g_lv [(0, .ref 177), (1, .int (Int32.ofInt v1)), (2, .int (Int32.ofInt e5)), (3, .int (Int32.ofInt r2))] rfl ⟨rfl, rfl, rfl, rfl, trivial⟩ ?_
        exact wj_165_285 (by omega) h
      · rw [if_neg hc9] at h
        refine g_ic_ne_t 289 hM rfl rfl (zR_gI _ _ _) (zR_lit rfl) hc9 ?_
        refine g_iconst 290 hM rfl rfl ?_
        refine g_lv [(0, .ref 177), (1, .int (Int32.ofInt v1)), (2, .int (Int32.ofInt e5)), (3, .int (Int32.ofInt r2))] rfl ⟨rfl, rfl, rfl, rfl, trivial⟩ ?_
        exact wj_165_290 (by omega) h
  · rw [if_neg hc4] at h
    refine g_ic_ne_t 368 hM rfl rfl hg3 (zR_lit rfl) hc4 ?_
    refine g_lv [(0, .ref 177), (1, .int (Int32.ofInt v1)), (2, .int (Int32.ofInt v2)), (3, .int (Int32.ofInt r2))] rfl ⟨rfl, rfl, rfl, rfl, trivial⟩ ?_
    exact wj_165_368 (by omega) h
def G_165_167 (k : zK) (d : Nat) (x : am_H) (r : am_A × am_H) (s : zS) (e : (Int)) : Prop := zgo k d 165 (167, [(0, .ref 177), (2, .int (Int32.ofInt e))], []) (hp s ++ x) r
def K_165_167 (k : zK) (d : Nat) (x : am_H) (r : am_A × am_H) (s : zS) (t : (Int)) : Prop := zgo k d 165 (210, [(2, .int (Int32.ofInt t))], []) (hp s ++ x) r
def b_165_167 (s : zS) (v2 : Int) : Option ((Int) ⊕ (Int)) := zg (0 ≤ (v2 - 1) ∧ (v2 - 1) < 64) (zo (f_166 (gI s 189 (v2 - 1))) (fun r3 => zo (f_166 (gI s 177 27)) (fun r5 => zg (zR r3) (zg (zR r5) (if r3 < r5 then (some (.inr v2)) else (zo (f_166 (gI s 189 (v2 - 1))) (fun r10 => zg (zR r10) (if 10 < r10 then (some (.inl (v2 + (-1)))) else (some (.inr v2))))))))))
theorem wb_165_167 {k : zK} {d : Nat} {x : am_H} {r : am_A × am_H} {v2 : Int} {s : zS} {q : (Int) ⊕ (Int)} (hd : 3 ≤ d) (h : b_165_167 s v2 = some q) (hK : Sum.elim (G_165_167 k d x r s) (K_165_167 k d x r s) q) : G_165_167 k d x r s v2 := by
  unfold b_165_167 at h
  have hM := xM_165 k.1
  show zgo k d 165 (167, [(0, .ref 177), (2, .int (Int32.ofInt v2))], []) (hp s ++ x) r
  refine g_aload_n 168 hM rfl rfl rfl ?_
  refine g_getF 171 hM rfl rfl rfl rfl rfl ?_
  refine g_iload_n 172 hM rfl rfl rfl ?_
  refine g_iconst 173 hM rfl rfl ?_
  refine g_isub 174 hM rfl rfl ?_
  obtain ⟨hg1, h⟩ := zg_some h
  refine g_iaload 175 (gI s 189 (v2 - 1)) hM rfl rfl rfl rfl hg1 rfl ?_
  obtain ⟨r3, h2, h⟩ := zo_some h
  refine g_call 178 _ [.int (Int32.ofInt r3)] hM rfl rfl rfl rfl rfl (xM_166 _) rfl rfl rfl rfl (by omega) (w_166 (by omega) h2) rfl ?_
  refine g_aload_n 179 hM rfl rfl rfl ?_
  refine g_getI 182 27 (gI s 177 27) hM rfl rfl rfl rfl rfl rfl rfl ?_
  obtain ⟨r5, h4, h⟩ := zo_some h
  refine g_call 185 _ [.int (Int32.ofInt r5), .int (Int32.ofInt r3)] hM rfl rfl rfl rfl rfl (xM_166 _) rfl rfl rfl rfl (by omega) (w_166 (by omega) h4) rfl ?_
  obtain ⟨hg6, h⟩ := zg_some h
  obtain ⟨hg7, h⟩ := zg_some h
  by_cases hc8 : r3 < r5
  · rw [if_pos hc8] at h
    refine g_ic_lt_t 210 hM rfl rfl hg6 hg7 hc8 ?_
    cases h
    exact g_lv [(2, .int (Int32.ofInt v2))] rfl ⟨rfl, trivial⟩ hK
  · rw [if_neg hc8] at h
    refine g_ic_lt_f 188 210 hM rfl rfl rfl hg6 hg7 hc8 ?_
    refine g_aload_n 189 hM rfl rfl rfl ?_
    refine g_getF 192 hM rfl rfl rfl rfl rfl ?_
    refine g_iload_n 193 hM rfl rfl rfl ?_
    refine g_iconst 194 hM rfl rfl ?_
    refine g_isub 195 hM rfl rfl ?_
    refine g_iaload 196 (gI s 189 (v2 - 1)) hM rfl rfl rfl rfl hg1 rfl ?_
    obtain ⟨r10, h9, h⟩ := zo_some h
    refine g_call 199 _ [.int (Int32.ofInt r10)] hM rfl rfl rfl rfl rfl (xM_166 _) rfl rfl rfl rfl (by omega) (w_166 (by omega) h9) rfl ?_
    refine g_bipush 201 hM rfl rfl rfl ?_
    obtain ⟨hg11, h⟩ := zg_some h
    by_cases hc12 : 10 < r10
    · rw [if_pos hc12] at h
      refine g_ic_le_f 204 210 hM rfl rfl rfl hg11 (zR_lit rfl) hc12 ?_
      refine g_iinc 207 hM rfl rfl rfl rfl ?_
      refine g_goto 167 hM rfl rfl ?_
      cases h
      exact g_lv [(0, .ref 177), (2, .int (Int32.ofInt (v2 + (-1))))] rfl ⟨rfl, rfl, trivial⟩ hK
    · rw [if_neg hc12] at h
      refine g_ic_le_t 210 hM rfl rfl hg11 (zR_lit rfl) hc12 ?_
      cases h
      exact g_lv [(2, .int (Int32.ofInt v2))] rfl ⟨rfl, trivial⟩ hK
theorem wl_165_167 {k : zK} {d : Nat} {x : am_H} {r : am_A × am_H} {s : zS} {n : Nat} {e : (Int)} {t : (Int)} (hd : 3 ≤ d) (h : zlp (fun (q : Int) => b_165_167 s q) n e = some t) (hK : K_165_167 k d x r s t) : G_165_167 k d x r s e := zlp_go (G := fun e => G_165_167 k d x r s e) (K := K_165_167 k d x r s) (fun e e1 h1 hg => wb_165_167 (q := .inl e1) hd h1 hg) (fun e t1 h1 hk => wb_165_167 (q := .inr t1) hd h1 hk) n e t h hK
/-- RelationFinderModel.opensOne(I)Z -/
def f_165 (v1 : Int) (s : zS) : Option Int := zg (zR v1) (if v1 < 2 then (if (gI s 177 27) = 45 then (j_165_40 v1 (gI s 177 38) s) else (if (gI s 177 27) = 49 then (j_165_40 v1 (gI s 177 38) s) else (zo (f_166 (gI s 177 27)) (fun r6 => zg (zR r6) (if r6 = 16 then (j_165_40 v1 (gI s 177 38) s) else (j_165_45 v1 (gI s 177 38) 0 s)))))) else (if v1 = 2 then (zo (f_167 (gI s 177 27)) (fun r11 => zg (zR r11) (if r11 = 0 then (j_165_224 v1 (gI s 177 38) s) else (zo (zlp (fun (q : Int) => b_165_167 s q) zF (gI s 177 38)) (fun e14 => zg (zR (e14 - 1)) (if (e14 - 1) = 20 then (some 1) else (some 0))))))) else (j_165_224 v1 (gI s 177 38) s)))
theorem w_165 {k : zK} {d : Nat} {x : am_H} {v1 : Int} {s : zS} {q : Int} (hd : 3 ≤ d) (h : f_165 v1 s = some q) : zgo k d 165 (0, [(0, .ref 177), (1, .int (Int32.ofInt v1))], []) (hp s ++ x) (.inl (some (.int (Int32.ofInt q))), hp s ++ x) := by
  unfold f_165 at h
  have hM := xM_165 k.1
  refine g_aload_n 1 hM rfl rfl rfl ?_
  refine g_getI 4 38 (gI s 177 38) hM rfl rfl rfl rfl rfl rfl rfl ?_
  refine g_istore_n 5 hM rfl rfl rfl ?_
  refine g_iload_n 6 hM rfl rfl rfl ?_
  refine g_iconst 7 hM rfl rfl ?_
  obtain ⟨hg1, h⟩ := zg_some h
  by_cases hc2 : v1 < 2
  · rw [if_pos hc2] at h
    refine g_ic_ge_f 10 152 hM rfl rfl rfl hg1 (zR_lit rfl) hc2 ?_
    refine g_aload_n 11 hM rfl rfl rfl ?_
    refine g_getI 14 27 (gI s 177 27) hM rfl rfl rfl rfl rfl rfl rfl ?_
    refine g_bipush 16 hM rfl rfl rfl ?_
    by_cases hc3 : (gI s 177 27) = 45
    · rw [if_pos hc3] at h
      refine g_ic_eq_t 40 hM rfl rfl (zR_gI _ _ _) (zR_lit rfl) hc3 ?_
      refine g_lv [(0, .ref 177), (1, .int (Int32.ofInt v1)), (2, .int (Int32.ofInt (gI s 177 38)))] rfl ⟨rfl, rfl, rfl, trivial⟩ ?_
      exact wj_165_40 (by omega) h
    · rw [if_neg hc3] at h
      refine g_ic_eq_f 19 40 hM rfl rfl rfl (zR_gI _ _ _) (zR_lit rfl) hc3 ?_
      refine g_aload_n 20 hM rfl rfl rfl ?_
      refine g_getI 23 27 (gI s 177 27) hM rfl rfl rfl rfl rfl rfl rfl ?_
      refine g_bipush 25 hM rfl rfl rfl ?_
      by_cases hc4 : (gI s 177 27) = 49
      · rw [if_pos hc4] at h
        refine g_ic_eq_t 40 hM rfl rfl (zR_gI _ _ _) (zR_lit rfl) hc4 ?_
        refine g_lv [(0, .ref 177), (1, .int (Int32.ofInt v1)), (2, .int (Int32.ofInt (gI s 177 38)))] rfl ⟨rfl, rfl, rfl, trivial⟩ ?_
        exact wj_165_40 (by omega) h
      · rw [if_neg hc4] at h
        refine g_ic_eq_f 28 40 hM rfl rfl rfl (zR_gI _ _ _) (zR_lit rfl) hc4 ?_
        refine g_aload_n 29 hM rfl rfl rfl ?_
        refine g_getI 32 27 (gI s 177 27) hM rfl rfl rfl rfl rfl rfl rfl ?_
        obtain ⟨r6, h5, h⟩ := zo_some h
        refine g_call 35 _ [.int (Int32.ofInt r6)] hM rfl rfl rfl rfl rfl (xM_166 _) rfl rfl rfl rfl (by omega) (w_166 (by omega) h5) rfl ?_
        refine g_bipush 37 hM rfl rfl rfl ?_
        obtain ⟨hg7, h⟩ := zg_some h
        by_cases hc8 : r6 = 16
        · rw [if_pos hc8] at h
          refine g_ic_ne_f 40 44 hM rfl rfl rfl hg7 (zR_lit rfl) hc8 ?_
          refine g_lv [(0, .ref 177), (1, .int (Int32.ofInt v1)), (2, .int (Int32.ofInt (gI s 177 38)))] rfl ⟨rfl, rfl, rfl, trivial⟩ ?_
          exact wj_165_40 (by omega) h
        · rw [if_neg hc8] at h
          refine g_ic_ne_t 44 hM rfl rfl hg7 (zR_lit rfl) hc8 ?_
          refine g_iconst 45 hM rfl rfl ?_
          refine g_lv [(0, .ref 177), (1, .int (Int32.ofInt v1)), (2, .int (Int32.ofInt (gI s 177 38)))] rfl ⟨rfl, rfl, rfl, trivial⟩ ?_
          exact wj_165_45 (by omega) h
  · rw [if_neg hc2] at h
    refine g_ic_ge_t 152 hM rfl rfl hg1 (zR_lit rfl) hc2 ?_
    refine g_iload_n 153 hM rfl rfl rfl ?_
    refine g_iconst 154 hM rfl rfl ?_
    by_cases hc9 : v1 = 2
    · rw [if_pos hc9] at h
      refine g_ic_ne_f 157 224 hM rfl rfl rfl hg1 (zR_lit rfl) hc9 ?_
      refine g_aload_n 158 hM rfl rfl rfl ?_
      refine g_getI 161 27 (gI s 177 27) hM rfl rfl rfl rfl rfl rfl rfl ?_
      obtain ⟨r11, h10, h⟩ := zo_some h
      refine g_call 164 _ [.int (Int32.ofInt r11)] hM rfl rfl rfl rfl rfl (xM_167 _) rfl rfl rfl rfl (by omega) (w_167 (by omega) h10) rfl ?_
      obtain ⟨hg12, h⟩ := zg_some h
      by_cases hc13 : r11 = 0
      · rw [if_pos hc13] at h
        refine g_if_eq_t 224 hM rfl rfl hg12 hc13 ?_
        refine g_lv [(0, .ref 177), (1, .int (Int32.ofInt v1)), (2, .int (Int32.ofInt (gI s 177 38)))] rfl ⟨rfl, rfl, rfl, trivial⟩ ?_
        exact wj_165_224 (by omega) h
      · rw [if_neg hc13] at h
        refine g_if_eq_f 167 224 hM rfl rfl rfl hg12 hc13 ?_
        obtain ⟨e14, h15, h⟩ := zo_some h
        refine g_lv [(0, .ref 177), (2, .int (Int32.ofInt (gI s 177 38)))] rfl ⟨rfl, rfl, trivial⟩ ?_
        refine wl_165_167 (by omega) h15 ?_
        show zgo k d 165 (210, [(2, .int (Int32.ofInt e14))], []) (hp s ++ x) (.inl (some (.int (Int32.ofInt q))), hp s ++ x)
        refine g_iload_n 211 hM rfl rfl rfl ?_
        refine g_iconst 212 hM rfl rfl ?_
        refine g_isub 213 hM rfl rfl ?_
        refine g_bipush 215 hM rfl rfl rfl ?_
        obtain ⟨hg16, h⟩ := zg_some h
        by_cases hc17 : (e14 - 1) = 20
        · rw [if_pos hc17] at h
          refine g_ic_ne_f 218 222 hM rfl rfl rfl hg16 (zR_lit rfl) hc17 ?_
          refine g_iconst 219 hM rfl rfl ?_
          refine g_goto 223 hM rfl rfl ?_
          cases h
          exact g_ret hM rfl rfl
        · rw [if_neg hc17] at h
          refine g_ic_ne_t 222 hM rfl rfl hg16 (zR_lit rfl) hc17 ?_
          refine g_iconst 223 hM rfl rfl ?_
          cases h
          exact g_ret hM rfl rfl
    · rw [if_neg hc9] at h
      refine g_ic_ne_t 224 hM rfl rfl hg1 (zR_lit rfl) hc9 ?_
      refine g_lv [(0, .ref 177), (1, .int (Int32.ofInt v1)), (2, .int (Int32.ofInt (gI s 177 38)))] rfl ⟨rfl, rfl, rfl, trivial⟩ ?_
      exact wj_165_224 (by omega) h
def b_157_56 (v2 : Int) (s : zS) : Option ((Int × zS) ⊕ ((Int × zS) ⊕ (Int × zS))) := zg (zR v2) (if v2 < 100 then (zb (f_159 s) (fun r4 s5 => if (gI s5 177 27) = 3 then (some (.inr (.inr (1, (sI s5 177 5 (gI s5 177 28)))))) else (if (gI s5 177 27) = 0 then (j_157_56_122 v2 (sI s5 177 5 (gI s5 177 28))) else (if 200 < (gI (sI (sI s5 177 5 (gI s5 177 28)) 177 31 ((gI s5 177 31) + 1)) 177 31) then (some (.inr (.inr (6, (sI (sI s5 177 5 (gI s5 177 28)) 177 31 ((gI s5 177 31) + 1)))))) else (zo (f_165 v2 (sI (sI s5 177 5 (gI s5 177 28)) 177 31 ((gI s5 177 31) + 1))) (fun r10 => zg (zR r10) (if r10 = 0 then (j_157_56_122 v2 (sI (sI s5 177 5 (gI s5 177 28)) 177 31 ((gI s5 177 31) + 1))) else (some (.inr (.inr (6, (sI (sI s5 177 5 (gI s5 177 28)) 177 31 ((gI s5 177 31) + 1))))))))))))) else (some (.inr (.inl (v2, s)))))
theorem wb_157_56 {k : zK} {d : Nat} {x : am_H} {r : am_A × am_H} {v2 : Int} {s : zS} {q : (Int × zS) ⊕ ((Int × zS) ⊕ (Int × zS))} (hd : 7 ≤ d) (h : b_157_56 v2 s = some q) (hK : Sum.elim (G_157_56 k d x r) (K_157_56 k d x r) q) : G_157_56 k d x r (v2, s) := by
  unfold b_157_56 at h
  have hM := xM_157 k.1
  show zgo k d 157 (56, [(0, .ref 177), (2, .int (Int32.ofInt v2))], []) (hp s ++ x) r
  refine g_iload_n 57 hM rfl rfl rfl ?_
  refine g_bipush 59 hM rfl rfl rfl ?_
  obtain ⟨hg1, h⟩ := zg_some h
  by_cases hc2 : v2 < 100
  · rw [if_pos hc2] at h
    refine g_ic_ge_f 62 154 hM rfl rfl rfl hg1 (zR_lit rfl) hc2 ?_
    refine g_aload_n 63 hM rfl rfl rfl ?_
    obtain ⟨r4, s5, h3, h⟩ := zb_some h
    refine g_call 66 _ [] hM rfl rfl rfl rfl rfl (xM_159 _) rfl (z_rcv2 rfl) rfl rfl (by omega) (w_159 (by omega) h3) rfl ?_
    refine g_aload_n 67 hM rfl rfl rfl ?_
    refine g_aload_n 68 hM rfl rfl rfl ?_
    refine g_getI 71 28 (gI s5 177 28) hM rfl rfl rfl rfl rfl rfl rfl ?_
    refine g_putI 74 5 hM rfl rfl rfl rfl rfl rfl rfl ?_
    refine g_aload_n 75 hM rfl rfl rfl ?_
    refine g_getI 78 27 (gI s5 177 27) hM rfl rfl rfl rfl rfl rfl rfl ?_
    refine g_iconst 79 hM rfl rfl ?_
    by_cases hc6 : (gI s5 177 27) = 3
    · rw [if_pos hc6] at h
      refine g_ic_ne_f 82 84 hM rfl rfl rfl (zR_gI _ _ _) (zR_lit rfl) hc6 ?_
      refine g_iconst 83 hM rfl rfl ?_
      cases h
      rw [show r = _ from hK]
      exact g_ret hM rfl rfl
    · rw [if_neg hc6] at h
      refine g_ic_ne_t 84 hM rfl rfl (zR_gI _ _ _) (zR_lit rfl) hc6 ?_
      refine g_aload_n 85 hM rfl rfl rfl ?_
      refine g_getI 88 27 (gI s5 177 27) hM rfl rfl rfl rfl rfl rfl rfl ?_
      by_cases hc7 : (gI s5 177 27) = 0
      · rw [if_pos hc7] at h
        refine g_if_eq_t 122 hM rfl rfl (zR_gI _ _ _) hc7 ?_
        refine g_lv [(0, .ref 177), (2, .int (Int32.ofInt v2))] rfl ⟨rfl, rfl, trivial⟩ ?_
        exact wj_157_56_122 (by omega) h hK
      · rw [if_neg hc7] at h
        refine g_if_eq_f 91 122 hM rfl rfl rfl (zR_gI _ _ _) hc7 ?_
        refine g_aload_n 92 hM rfl rfl rfl ?_
        refine g_dup 93 hM rfl rfl rfl ?_
        refine g_getI 96 31 (gI s5 177 31) hM rfl rfl rfl rfl rfl rfl rfl ?_
        refine g_iconst 97 hM rfl rfl ?_
        refine g_iadd 98 hM rfl rfl ?_
        refine g_putI 101 31 hM rfl rfl rfl rfl rfl rfl rfl ?_
        refine g_aload_n 102 hM rfl rfl rfl ?_
        refine g_getI 105 31 (gI (sI (sI s5 177 5 (gI s5 177 28)) 177 31 ((gI s5 177 31) + 1)) 177 31) hM rfl rfl rfl rfl rfl rfl rfl ?_
        refine g_sipush 108 hM rfl rfl rfl ?_
        by_cases hc8 : 200 < (gI (sI (sI s5 177 5 (gI s5 177 28)) 177 31 ((gI s5 177 31) + 1)) 177 31)
        · rw [if_pos hc8] at h
          refine g_ic_gt_t 119 hM rfl rfl (zR_gI _ _ _) (zR_lit rfl) hc8 ?_
          refine g_bipush 121 hM rfl rfl rfl ?_
          cases h
          rw [show r = _ from hK]
          exact g_ret hM rfl rfl
        · rw [if_neg hc8] at h
          refine g_ic_gt_f 111 119 hM rfl rfl rfl (zR_gI _ _ _) (zR_lit rfl) hc8 ?_
          refine g_aload_n 112 hM rfl rfl rfl ?_
          refine g_iload_n 113 hM rfl rfl rfl ?_
          obtain ⟨r10, h9, h⟩ := zo_some h
          refine g_call 116 _ [.int (Int32.ofInt r10)] hM rfl rfl rfl rfl rfl (xM_165 _) rfl (z_rcv2 rfl) rfl rfl (by omega) (w_165 (by omega) h9) rfl ?_
          obtain ⟨hg11, h⟩ := zg_some h
          by_cases hc12 : r10 = 0
          · rw [if_pos hc12] at h
            refine g_if_eq_t 122 hM rfl rfl hg11 hc12 ?_
            refine g_lv [(0, .ref 177), (2, .int (Int32.ofInt v2))] rfl ⟨rfl, rfl, trivial⟩ ?_
            exact wj_157_56_122 (by omega) h hK
          · rw [if_neg hc12] at h
            refine g_if_eq_f 119 122 hM rfl rfl rfl hg11 hc12 ?_
            refine g_bipush 121 hM rfl rfl rfl ?_
            cases h
            rw [show r = _ from hK]
            exact g_ret hM rfl rfl
  · rw [if_neg hc2] at h
    refine g_ic_ge_t 154 hM rfl rfl hg1 (zR_lit rfl) hc2 ?_
    cases h
    exact g_lv [(0, .ref 177), (2, .int (Int32.ofInt v2))] rfl ⟨rfl, rfl, trivial⟩ hK
theorem wl_157_56 {k : zK} {d : Nat} {x : am_H} {r : am_A × am_H} {n : Nat} {e : (Int × zS)} {t : ((Int × zS) ⊕ (Int × zS))} (hd : 7 ≤ d) (h : zlp (fun (q : Int × zS) => b_157_56 q.1 q.2) n e = some t) (hK : K_157_56 k d x r t) : G_157_56 k d x r e := zlp_go (G := fun e => G_157_56 k d x r e) (K := K_157_56 k d x r) (fun e e1 h1 hg => wb_157_56 (q := .inl e1) hd h1 hg) (fun e t1 h1 hk => wb_157_56 (q := .inr t1) hd h1 hk) n e t h hK
def j_157_55 (t0 : Int) (s : zS) : Option (Int × zS) := zo (zlp (fun (q : Int × zS) => b_157_56 q.1 q.2) zF (t0, s)) (fun e1 => Sum.elim (fun e3 => zg (zR (e3.1 - 100)) (if (e3.1 - 100) = 3 then (if (gI e3.2 177 27) = 0 then (some (2, e3.2)) else (some ((e3.1 - 100), e3.2))) else (some ((e3.1 - 100), e3.2)))) (fun q4 => some q4) e1)
theorem wj_157_55 {k : zK} {d : Nat} {x : am_H} {t0 : Int} {s : zS} {q : (Int × zS)} (hd : 7 ≤ d) (h : j_157_55 t0 s = some q) : zgo k d 157 (55, [(0, .ref 177)], [.int (Int32.ofInt t0)]) (hp s ++ x) (.inl (some (.int (Int32.ofInt q.1))), hp q.2 ++ x) := by
  unfold j_157_55 at h
  have hM := xM_157 k.1
  refine g_istore_n 56 hM rfl rfl rfl ?_
  obtain ⟨e1, h2, h⟩ := zo_some h
  refine g_lv [(0, .ref 177), (2, .int (Int32.ofInt t0))] rfl ⟨rfl, rfl, trivial⟩ ?_
  refine wl_157_56 (by omega) h2 ?_
  rcases e1 with e3 | q4
  · simp only [ze_l] at h
    show zgo k d 157 (154, [(0, .ref 177), (2, .int (Int32.ofInt e3.1))], []) (hp e3.2 ++ x) (.inl (some (.int (Int32.ofInt q.1))), hp q.2 ++ x)
    refine g_iload_n 155 hM rfl rfl rfl ?_
    refine g_bipush 157 hM rfl rfl rfl ?_
    refine g_isub 158 hM rfl rfl ?_
    refine g_istore_n 159 hM rfl rfl rfl ?_
    refine g_iload_n 160 hM rfl rfl rfl ?_
    refine g_iconst 161 hM rfl rfl ?_
    obtain ⟨hg5, h⟩ := zg_some h
    by_cases hc6 : (e3.1 - 100) = 3
    · rw [if_pos hc6] at h
      refine g_ic_ne_f 164 175 hM rfl rfl rfl hg5 (zR_lit rfl) hc6 ?_
      refine g_aload_n 165 hM rfl rfl rfl ?_
      refine g_getI 168 27 (gI e3.2 177 27) hM rfl rfl rfl rfl rfl rfl rfl ?_
      by_cases hc7 : (gI e3.2 177 27) = 0
      · rw [if_pos hc7] at h
        refine g_if_ne_f 171 175 hM rfl rfl rfl (zR_gI _ _ _) hc7 ?_
        refine g_iconst 172 hM rfl rfl ?_
        refine g_goto 176 hM rfl rfl ?_
        cases h
        exact g_ret hM rfl rfl
      · rw [if_neg hc7] at h
        refine g_if_ne_t 175 hM rfl rfl (zR_gI _ _ _) hc7 ?_
        refine g_iload_n 176 hM rfl rfl rfl ?_
        cases h
        exact g_ret hM rfl rfl
    · rw [if_neg hc6] at h
      refine g_ic_ne_t 175 hM rfl rfl hg5 (zR_lit rfl) hc6 ?_
      refine g_iload_n 176 hM rfl rfl rfl ?_
      cases h
      exact g_ret hM rfl rfl
  · cases h
    rfl
def j_157_42 (v1 : Int) (t1 : Int) (s : zS) : Option (Int × zS) := zb (f_158 t1 0 s) (fun r2 s3 => zg (zR v1) (if v1 = 0 then (j_157_55 1 s3) else (j_157_55 0 s3)))
