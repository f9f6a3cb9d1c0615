/-! THE PURE LAYER: methods as functions, and runs that do what they say (2). By program. -/
theorem wj_157_42 {k : zK} {d : Nat} {x : am_H} {v1 : Int} {t1 : Int} {s : zS} {q : (Int × zS)} (hd : 7 ≤ d) (h : j_157_42 v1 t1 s = some q) : zgo k d 157 (42, [(0, .ref 177), (1, .int (Int32.ofInt v1))], [.int (Int32.ofInt t1), .ref 177]) (hp s ++ x) (.inl (some (.int (Int32.ofInt q.1))), hp q.2 ++ x) := by
  unfold j_157_42 at h
  have hM := xM_157 k.1
  refine g_iconst 43 hM rfl rfl ?_
  obtain ⟨r2, s3, h1, h⟩ := zb_some h
  refine g_call 46 _ [] hM rfl rfl rfl rfl rfl (xM_158 _) rfl (z_rcv2 rfl) rfl rfl (by omega) (w_158 (by omega) h1) rfl ?_
  refine g_iload_n 47 hM rfl rfl rfl ?_
  obtain ⟨hg4, h⟩ := zg_some h
  by_cases hc5 : v1 = 0
  · rw [if_pos hc5] at h
    refine g_if_eq_t 54 hM rfl rfl hg4 hc5 ?_
    refine g_iconst 55 hM rfl rfl ?_
    refine g_lv [(0, .ref 177)] rfl ⟨rfl, trivial⟩ ?_
    exact wj_157_55 (by omega) h
  · rw [if_neg hc5] at h
    refine g_if_eq_f 50 54 hM rfl rfl rfl hg4 hc5 ?_
    refine g_iconst 51 hM rfl rfl ?_
    refine g_goto 55 hM rfl rfl ?_
    refine g_lv [(0, .ref 177)] rfl ⟨rfl, trivial⟩ ?_
    exact wj_157_55 (by omega) h
/-- RelationFinderModel.readText(Z)I -/
def f_157 (v1 : Int) (s : zS) : Option (Int × zS) := zg (zR v1) (if v1 = 0 then (j_157_42 v1 61 (sI (sI (sI (sI (sI (sI s 177 26 0) 177 31 0) 177 38 0) 177 40 0) 177 41 0) 177 28 0)) else (j_157_42 v1 60 (sI (sI (sI (sI (sI (sI s 177 26 0) 177 31 0) 177 38 0) 177 40 0) 177 41 0) 177 28 0)))
theorem w_157 {k : zK} {d : Nat} {x : am_H} {v1 : Int} {s : zS} {q : (Int × zS)} (hd : 7 ≤ d) (h : f_157 v1 s = some q) : zgo k d 157 (0, [(0, .ref 177), (1, .int (Int32.ofInt v1))], []) (hp s ++ x) (.inl (some (.int (Int32.ofInt q.1))), hp q.2 ++ x) := by
  unfold f_157 at h
  have hM := xM_157 k.1
  refine g_aload_n 1 hM rfl rfl rfl ?_
  refine g_iconst 2 hM rfl rfl ?_
  refine g_putI 5 26 hM rfl rfl rfl rfl rfl rfl rfl ?_
  refine g_aload_n 6 hM rfl rfl rfl ?_
  refine g_iconst 7 hM rfl rfl ?_
  refine g_putI 10 31 hM rfl rfl rfl rfl rfl rfl rfl ?_
  refine g_aload_n 11 hM rfl rfl rfl ?_
  refine g_iconst 12 hM rfl rfl ?_
  refine g_putI 15 38 hM rfl rfl rfl rfl rfl rfl rfl ?_
  refine g_aload_n 16 hM rfl rfl rfl ?_
  refine g_iconst 17 hM rfl rfl ?_
  refine g_putI 20 40 hM rfl rfl rfl rfl rfl rfl rfl ?_
  refine g_aload_n 21 hM rfl rfl rfl ?_
  refine g_iconst 22 hM rfl rfl ?_
  refine g_putI 25 41 hM rfl rfl rfl rfl rfl rfl rfl ?_
  refine g_aload_n 26 hM rfl rfl rfl ?_
  refine g_iconst 27 hM rfl rfl ?_
  refine g_putI 30 28 hM rfl rfl rfl rfl rfl rfl rfl ?_
  refine g_aload_n 31 hM rfl rfl rfl ?_
  refine g_iload_n 32 hM rfl rfl rfl ?_
  obtain ⟨hg1, h⟩ := zg_some h
  by_cases hc2 : v1 = 0
  · rw [if_pos hc2] at h
    refine g_if_eq_t 40 hM rfl rfl hg1 hc2 ?_
    refine g_bipush 42 hM rfl rfl rfl ?_
    refine g_lv [(0, .ref 177), (1, .int (Int32.ofInt v1))] rfl ⟨rfl, rfl, trivial⟩ ?_
    exact wj_157_42 (by omega) h
  · rw [if_neg hc2] at h
    refine g_if_eq_f 35 40 hM rfl rfl rfl hg1 hc2 ?_
    refine g_bipush 37 hM rfl rfl rfl ?_
    refine g_goto 42 hM rfl rfl ?_
    refine g_lv [(0, .ref 177), (1, .int (Int32.ofInt v1))] rfl ⟨rfl, rfl, trivial⟩ ?_
    exact wj_157_42 (by omega) h
def j_156_25 (t1 : Int) (s : zS) : Option (Int × zS) := if (gI s 177 4) = 0 then (some (1, (sI (sI (sI (sI s 177 5 t1) 177 6 1) 177 3 0) 187 17 (gI s 177 41)))) else (some (0, (sI (sI (sI (sI s 177 5 t1) 177 6 1) 177 3 0) 187 17 (gI s 177 41))))
theorem wj_156_25 {k : zK} {d : Nat} {x : am_H} {t1 : Int} {s : zS} {q : (Int × zS)} (hd : 8 ≤ d) (h : j_156_25 t1 s = some q) : zgo k d 156 (25, [(0, .ref 177)], [.int (Int32.ofInt t1), .ref 177]) (hp s ++ x) (.inl (some (.int (Int32.ofInt q.1))), hp q.2 ++ x) := by
  unfold j_156_25 at h
  have hM := xM_156 k.1
  refine g_putI 28 5 hM rfl rfl rfl rfl rfl rfl rfl ?_
  refine g_aload_n 29 hM rfl rfl rfl ?_
  refine g_iconst 30 hM rfl rfl ?_
  refine g_putI 33 6 hM rfl rfl rfl rfl rfl rfl rfl ?_
  refine g_aload_n 34 hM rfl rfl rfl ?_
  refine g_iconst 35 hM rfl rfl ?_
  refine g_putI 38 3 hM rfl rfl rfl rfl rfl rfl rfl ?_
  refine g_aload_n 39 hM rfl rfl rfl ?_
  refine g_getF 42 hM rfl rfl rfl rfl rfl ?_
  refine g_bipush 44 hM rfl rfl rfl ?_
  refine g_aload_n 45 hM rfl rfl rfl ?_
  refine g_getI 48 41 (gI s 177 41) hM rfl rfl rfl rfl rfl rfl rfl ?_
  refine g_iastore 49 hM rfl rfl rfl rfl ⟨by decide, by decide⟩ ?_
  refine g_aload_n 50 hM rfl rfl rfl ?_
  refine g_getI 53 4 (gI s 177 4) hM rfl rfl rfl rfl rfl rfl rfl ?_
  by_cases hc1 : (gI s 177 4) = 0
  · rw [if_pos hc1] at h
    refine g_if_ne_f 56 60 hM rfl rfl rfl (zR_gI _ _ _) hc1 ?_
    refine g_iconst 57 hM rfl rfl ?_
    refine g_goto 61 hM rfl rfl ?_
    cases h
    exact g_ret hM rfl rfl
  · rw [if_neg hc1] at h
    refine g_if_ne_t 60 hM rfl rfl (zR_gI _ _ _) hc1 ?_
    refine g_iconst 61 hM rfl rfl ?_
    cases h
    exact g_ret hM rfl rfl
/-- RelationFinderModel.takeText(Z)Z -/
def f_156 (v1 : Int) (s : zS) : Option (Int × zS) := zb (f_157 v1 s) (fun r2 s3 => if (gI (sI s3 177 4 r2) 177 4) = 0 then (j_156_25 (-1) (sI s3 177 4 r2)) else (j_156_25 (gI s3 177 5) (sI s3 177 4 r2)))
theorem w_156 {k : zK} {d : Nat} {x : am_H} {v1 : Int} {s : zS} {q : (Int × zS)} (hd : 8 ≤ d) (h : f_156 v1 s = some q) : zgo k d 156 (0, [(0, .ref 177), (1, .int (Int32.ofInt v1))], []) (hp s ++ x) (.inl (some (.int (Int32.ofInt q.1))), hp q.2 ++ x) := by
  unfold f_156 at h
  have hM := xM_156 k.1
  refine g_aload_n 1 hM rfl rfl rfl ?_
  refine g_aload_n 2 hM rfl rfl rfl ?_
  refine g_iload_n 3 hM rfl rfl rfl ?_
  obtain ⟨r2, s3, h1, h⟩ := zb_some h
  refine g_call 6 _ [.int (Int32.ofInt r2), .ref 177] hM rfl rfl rfl rfl rfl (xM_157 _) rfl (z_rcv2 rfl) rfl rfl (by omega) (w_157 (by omega) h1) rfl ?_
  refine g_putI 9 4 hM rfl rfl rfl rfl rfl rfl rfl ?_
  refine g_aload_n 10 hM rfl rfl rfl ?_
  refine g_aload_n 11 hM rfl rfl rfl ?_
  refine g_getI 14 4 (gI (sI s3 177 4 r2) 177 4) hM rfl rfl rfl rfl rfl rfl rfl ?_
  by_cases hc4 : (gI (sI s3 177 4 r2) 177 4) = 0
  · rw [if_pos hc4] at h
    refine g_if_ne_f 17 21 hM rfl rfl rfl (zR_gI _ _ _) hc4 ?_
    refine g_iconst 18 hM rfl rfl ?_
    refine g_goto 25 hM rfl rfl ?_
    refine g_lv [(0, .ref 177)] rfl ⟨rfl, trivial⟩ ?_
    exact wj_156_25 (by omega) h
  · rw [if_neg hc4] at h
    refine g_if_ne_t 21 hM rfl rfl (zR_gI _ _ _) hc4 ?_
    refine g_aload_n 22 hM rfl rfl rfl ?_
    refine g_getI 25 5 (gI s3 177 5) hM rfl rfl rfl rfl rfl rfl rfl ?_
    refine g_lv [(0, .ref 177)] rfl ⟨rfl, trivial⟩ ?_
    exact wj_156_25 (by omega) h
def G_189_2 (k : zK) (d : Nat) (x : am_H) (r : am_A × am_H) (v1 : Int) (e : (Int × zS)) : Prop := zgo k d 189 (2, [(0, .ref 177), (1, .int (Int32.ofInt v1)), (2, .int (Int32.ofInt e.1))], []) (hp e.2 ++ x) r
def K_189_2 (k : zK) (d : Nat) (x : am_H) (r : am_A × am_H) (v1 : Int) (t : (zS)) : Prop := zgo k d 189 (82, [(0, .ref 177), (1, .int (Int32.ofInt v1))], []) (hp t ++ x) r
def b_189_2 (v1 : Int) (v2 : Int) (s : zS) : Option ((Int × zS) ⊕ (zS)) := zg (zR v2) (if v2 < (gI s 177 41) then (zg (0 ≤ (5440 + v2) ∧ (5440 + v2) < 5760) (zg (0 ≤ ((320 * v1) + v2) ∧ ((320 * v1) + v2) < 5760) (some (.inl ((v2 + 1), (sI (sI (sI s 184 ((320 * v1) + v2) (gI s 184 (5440 + v2))) 185 ((320 * v1) + v2) (gI s 185 (5440 + v2))) 186 ((320 * v1) + v2) (gI s 186 (5440 + v2)))))))) else (some (.inr s)))
theorem wb_189_2 {k : zK} {d : Nat} {x : am_H} {r : am_A × am_H} {v1 : Int} {v2 : Int} {s : zS} {q : (Int × zS) ⊕ (zS)} (hd : 0 ≤ d) (h : b_189_2 v1 v2 s = some q) (hK : Sum.elim (G_189_2 k d x r v1) (K_189_2 k d x r v1) q) : G_189_2 k d x r v1 (v2, s) := by
  unfold b_189_2 at h
  have hM := xM_189 k.1
  show zgo k d 189 (2, [(0, .ref 177), (1, .int (Int32.ofInt v1)), (2, .int (Int32.ofInt v2))], []) (hp s ++ x) r
  refine g_iload_n 3 hM rfl rfl rfl ?_
  refine g_aload_n 4 hM rfl rfl rfl ?_
  refine g_getI 7 41 (gI s 177 41) hM rfl rfl rfl rfl rfl rfl rfl ?_
  obtain ⟨hg1, h⟩ := zg_some h
  by_cases hc2 : v2 < (gI s 177 41)
  · rw [if_pos hc2] at h
    refine g_ic_ge_f 10 82 hM rfl rfl rfl hg1 (zR_gI _ _ _) hc2 ?_
    refine g_aload_n 11 hM rfl rfl rfl ?_
    refine g_getF 14 hM rfl rfl rfl rfl rfl ?_
    refine g_sipush 17 hM rfl rfl rfl ?_
    refine g_iload_n 18 hM rfl rfl rfl ?_
    refine g_imul 19 hM rfl rfl ?_
    refine g_iload_n 20 hM rfl rfl rfl ?_
    refine g_iadd 21 hM rfl rfl ?_
    refine g_aload_n 22 hM rfl rfl rfl ?_
    refine g_getF 25 hM rfl rfl rfl rfl rfl ?_
    refine g_sipush 28 hM rfl rfl rfl ?_
    refine g_iload_n 29 hM rfl rfl rfl ?_
    refine g_iadd 30 hM rfl rfl ?_
    obtain ⟨hg3, h⟩ := zg_some h
    refine g_iaload 31 (gI s 184 (5440 + v2)) hM rfl rfl rfl rfl hg3 rfl ?_
    obtain ⟨hg4, h⟩ := zg_some h
    refine g_iastore 32 hM rfl rfl rfl rfl hg4 ?_
    refine g_aload_n 33 hM rfl rfl rfl ?_
    refine g_getF 36 hM rfl rfl rfl rfl rfl ?_
    refine g_sipush 39 hM rfl rfl rfl ?_
    refine g_iload_n 40 hM rfl rfl rfl ?_
    refine g_imul 41 hM rfl rfl ?_
    refine g_iload_n 42 hM rfl rfl rfl ?_
    refine g_iadd 43 hM rfl rfl ?_
    refine g_aload_n 44 hM rfl rfl rfl ?_
    refine g_getF 47 hM rfl rfl rfl rfl rfl ?_
    refine g_sipush 50 hM rfl rfl rfl ?_
    refine g_iload_n 51 hM rfl rfl rfl ?_
    refine g_iadd 52 hM rfl rfl ?_
    refine g_iaload 53 (gI s 185 (5440 + v2)) hM rfl rfl rfl rfl hg3 rfl ?_
    refine g_iastore 54 hM rfl rfl rfl rfl hg4 ?_
    refine g_aload_n 55 hM rfl rfl rfl ?_
    refine g_getF 58 hM rfl rfl rfl rfl rfl ?_
    refine g_sipush 61 hM rfl rfl rfl ?_
    refine g_iload_n 62 hM rfl rfl rfl ?_
    refine g_imul 63 hM rfl rfl ?_
    refine g_iload_n 64 hM rfl rfl rfl ?_
    refine g_iadd 65 hM rfl rfl ?_
    refine g_aload_n 66 hM rfl rfl rfl ?_
    refine g_getF 69 hM rfl rfl rfl rfl rfl ?_
    refine g_sipush 72 hM rfl rfl rfl ?_
    refine g_iload_n 73 hM rfl rfl rfl ?_
    refine g_iadd 74 hM rfl rfl ?_
    refine g_iaload 75 (gI s 186 (5440 + v2)) hM rfl rfl rfl rfl hg3 rfl ?_
    refine g_iastore 76 hM rfl rfl rfl rfl hg4 ?_
    refine g_iinc 79 hM rfl rfl rfl rfl ?_
    refine g_goto 2 hM rfl rfl ?_
    cases h
    exact g_lv [(0, .ref 177), (1, .int (Int32.ofInt v1)), (2, .int (Int32.ofInt (v2 + 1)))] rfl ⟨rfl, rfl, rfl, trivial⟩ hK
  · rw [if_neg hc2] at h
    refine g_ic_ge_t 82 hM rfl rfl hg1 (zR_gI _ _ _) hc2 ?_
    cases h
    exact g_lv [(0, .ref 177), (1, .int (Int32.ofInt v1))] rfl ⟨rfl, rfl, trivial⟩ hK
theorem wl_189_2 {k : zK} {d : Nat} {x : am_H} {r : am_A × am_H} {v1 : Int} {n : Nat} {e : (Int × zS)} {t : (zS)} (hd : 0 ≤ d) (h : zlp (fun (q : Int × zS) => b_189_2 v1 q.1 q.2) n e = some t) (hK : K_189_2 k d x r v1 t) : G_189_2 k d x r v1 e := zlp_go (G := fun e => G_189_2 k d x r v1 e) (K := K_189_2 k d x r v1) (fun e e1 h1 hg => wb_189_2 (q := .inl e1) hd h1 hg) (fun e t1 h1 hk => wb_189_2 (q := .inr t1) hd h1 hk) n e t h hK
/-- RelationFinderModel.keepText(I)V -/
def f_189 (v1 : Int) (s : zS) : Option (Unit × zS) := zo (zlp (fun (q : Int × zS) => b_189_2 v1 q.1 q.2) zF (0, s)) (fun e1 => zg (0 ≤ v1 ∧ v1 < 18) (some ((), (sI e1 187 v1 (gI e1 177 41)))))
theorem w_189 {k : zK} {d : Nat} {x : am_H} {v1 : Int} {s : zS} {q : (Unit × zS)} (hd : 0 ≤ d) (h : f_189 v1 s = some q) : zgo k d 189 (0, [(0, .ref 177), (1, .int (Int32.ofInt v1))], []) (hp s ++ x) (.inl (none), hp q.2 ++ x) := by
  unfold f_189 at h
  have hM := xM_189 k.1
  refine g_iconst 1 hM rfl rfl ?_
  refine g_istore_n 2 hM rfl rfl rfl ?_
  obtain ⟨e1, h2, h⟩ := zo_some h
  refine g_lv [(0, .ref 177), (1, .int (Int32.ofInt v1)), (2, .int (Int32.ofInt 0))] rfl ⟨rfl, rfl, rfl, trivial⟩ ?_
  refine wl_189_2 (by omega) h2 ?_
  show zgo k d 189 (82, [(0, .ref 177), (1, .int (Int32.ofInt v1))], []) (hp e1 ++ x) (.inl (none), hp q.2 ++ x)
  refine g_aload_n 83 hM rfl rfl rfl ?_
  refine g_getF 86 hM rfl rfl rfl rfl rfl ?_
  refine g_iload_n 87 hM rfl rfl rfl ?_
  refine g_aload_n 88 hM rfl rfl rfl ?_
  refine g_getI 91 41 (gI e1 177 41) hM rfl rfl rfl rfl rfl rfl rfl ?_
  obtain ⟨hg3, h⟩ := zg_some h
  refine g_iastore 92 hM rfl rfl rfl rfl hg3 ?_
  cases h
  exact g_ret hM rfl rfl
def j_155_15 (t1 : Int) (s : zS) : Option (Int × zS) := if 0 < (gI (sI s 177 0 t1) 177 0) then (some (0, (sI (sI s 177 0 t1) 177 3 0))) else (zb (f_156 1 (sI s 177 0 t1)) (fun r3 s4 => zg (zR r3) (if r3 = 0 then (some (((-1) - (gI s4 177 5)), s4)) else (zb (f_189 (gI s4 177 18) s4) (fun r8 s9 => zg (0 ≤ (gI s9 177 18) ∧ (gI s9 177 18) < 16) (some (((gI (sI (sI s9 188 (gI s9 177 18) 0) 177 18 ((gI s9 177 18) + 1)) 177 18) - 1), (sI (sI (sI s9 188 (gI s9 177 18) 0) 177 18 ((gI s9 177 18) + 1)) 177 21 0))))))))
theorem wj_155_15 {k : zK} {d : Nat} {x : am_H} {t1 : Int} {s : zS} {q : (Int × zS)} (hd : 9 ≤ d) (h : j_155_15 t1 s = some q) : zgo k d 155 (15, [(0, .ref 177)], [.int (Int32.ofInt t1), .ref 177]) (hp s ++ x) (.inl (some (.int (Int32.ofInt q.1))), hp q.2 ++ x) := by
  unfold j_155_15 at h
  have hM := xM_155 k.1
  refine g_putI 18 0 hM rfl rfl rfl rfl rfl rfl rfl ?_
  refine g_aload_n 19 hM rfl rfl rfl ?_
  refine g_getI 22 0 (gI (sI s 177 0 t1) 177 0) hM rfl rfl rfl rfl rfl rfl rfl ?_
  by_cases hc1 : 0 < (gI (sI s 177 0 t1) 177 0)
  · rw [if_pos hc1] at h
    refine g_if_le_f 25 32 hM rfl rfl rfl (zR_gI _ _ _) hc1 ?_
    refine g_aload_n 26 hM rfl rfl rfl ?_
    refine g_iconst 27 hM rfl rfl ?_
    refine g_putI 30 3 hM rfl rfl rfl rfl rfl rfl rfl ?_
    refine g_iconst 31 hM rfl rfl ?_
    cases h
    exact g_ret hM rfl rfl
  · rw [if_neg hc1] at h
    refine g_if_le_t 32 hM rfl rfl (zR_gI _ _ _) hc1 ?_
    refine g_aload_n 33 hM rfl rfl rfl ?_
    refine g_iconst 34 hM rfl rfl ?_
    obtain ⟨r3, s4, h2, h⟩ := zb_some h
    refine g_call 37 _ [.int (Int32.ofInt r3)] hM rfl rfl rfl rfl rfl (xM_156 _) rfl (z_rcv2 rfl) rfl rfl (by omega) (w_156 (by omega) h2) rfl ?_
    obtain ⟨hg5, h⟩ := zg_some h
    by_cases hc6 : r3 = 0
    · rw [if_pos hc6] at h
      refine g_if_ne_f 40 47 hM rfl rfl rfl hg5 hc6 ?_
      refine g_iconst 41 hM rfl rfl ?_
      refine g_aload_n 42 hM rfl rfl rfl ?_
      refine g_getI 45 5 (gI s4 177 5) hM rfl rfl rfl rfl rfl rfl rfl ?_
      refine g_isub 46 hM rfl rfl ?_
      cases h
      exact g_ret hM rfl rfl
    · rw [if_neg hc6] at h
      refine g_if_ne_t 47 hM rfl rfl hg5 hc6 ?_
      refine g_aload_n 48 hM rfl rfl rfl ?_
      refine g_aload_n 49 hM rfl rfl rfl ?_
      refine g_getI 52 18 (gI s4 177 18) hM rfl rfl rfl rfl rfl rfl rfl ?_
      obtain ⟨r8, s9, h7, h⟩ := zb_some h
      refine g_call 55 _ [] hM rfl rfl rfl rfl rfl (xM_189 _) rfl (z_rcv2 rfl) rfl rfl (by omega) (w_189 (by omega) h7) rfl ?_
      refine g_aload_n 56 hM rfl rfl rfl ?_
      refine g_getF 59 hM rfl rfl rfl rfl rfl ?_
      refine g_aload_n 60 hM rfl rfl rfl ?_
      refine g_getI 63 18 (gI s9 177 18) hM rfl rfl rfl rfl rfl rfl rfl ?_
      refine g_iconst 64 hM rfl rfl ?_
      obtain ⟨hg10, h⟩ := zg_some h
      refine g_bastore 65 hM rfl rfl rfl rfl hg10 (by decide) ?_
      refine g_aload_n 66 hM rfl rfl rfl ?_
      refine g_dup 67 hM rfl rfl rfl ?_
      refine g_getI 70 18 (gI s9 177 18) hM rfl rfl rfl rfl rfl rfl rfl ?_
      refine g_iconst 71 hM rfl rfl ?_
      refine g_iadd 72 hM rfl rfl ?_
      refine g_putI 75 18 hM rfl rfl rfl rfl rfl rfl rfl ?_
      refine g_aload_n 76 hM rfl rfl rfl ?_
      refine g_iconst 77 hM rfl rfl ?_
      refine g_putI 80 21 hM rfl rfl rfl rfl rfl rfl rfl ?_
      refine g_aload_n 81 hM rfl rfl rfl ?_
      refine g_getI 84 18 (gI (sI (sI s9 188 (gI s9 177 18) 0) 177 18 ((gI s9 177 18) + 1)) 177 18) hM rfl rfl rfl rfl rfl rfl rfl ?_
      refine g_iconst 85 hM rfl rfl ?_
      refine g_isub 86 hM rfl rfl ?_
      cases h
      exact g_ret hM rfl rfl
/-- RelationFinderModel.fact()I -/
def f_155 (s : zS) : Option (Int × zS) := if (gI s 177 18) = 16 then (j_155_15 1 s) else (j_155_15 0 s)
theorem w_155 {k : zK} {d : Nat} {x : am_H} {s : zS} {q : (Int × zS)} (hd : 9 ≤ d) (h : f_155 s = some q) : zgo k d 155 (0, [(0, .ref 177)], []) (hp s ++ x) (.inl (some (.int (Int32.ofInt q.1))), hp q.2 ++ x) := by
  unfold f_155 at h
  have hM := xM_155 k.1
  refine g_aload_n 1 hM rfl rfl rfl ?_
  refine g_aload_n 2 hM rfl rfl rfl ?_
  refine g_getI 5 18 (gI s 177 18) hM rfl rfl rfl rfl rfl rfl rfl ?_
  refine g_bipush 7 hM rfl rfl rfl ?_
  by_cases hc1 : (gI s 177 18) = 16
  · rw [if_pos hc1] at h
    refine g_ic_ne_f 10 14 hM rfl rfl rfl (zR_gI _ _ _) (zR_lit rfl) hc1 ?_
    refine g_iconst 11 hM rfl rfl ?_
    refine g_goto 15 hM rfl rfl ?_
    refine g_lv [(0, .ref 177)] rfl ⟨rfl, trivial⟩ ?_
    exact wj_155_15 (by omega) h
  · rw [if_neg hc1] at h
    refine g_ic_ne_t 14 hM rfl rfl (zR_gI _ _ _) (zR_lit rfl) hc1 ?_
    refine g_iconst 15 hM rfl rfl ?_
    refine g_lv [(0, .ref 177)] rfl ⟨rfl, trivial⟩ ?_
    exact wj_155_15 (by omega) h
def j_190_13 (t1 : Int) (s : zS) : Option (Int × zS) := if 0 < (gI (sI s 177 0 t1) 177 0) then (some (0, (sI s 177 0 t1))) else (some ((gI (sI (sI s 177 0 t1) 177 18 ((gI s 177 18) - 1)) 177 18), (sI (sI (sI s 177 0 t1) 177 18 ((gI s 177 18) - 1)) 177 21 0)))
theorem wj_190_13 {k : zK} {d : Nat} {x : am_H} {t1 : Int} {s : zS} {q : (Int × zS)} (hd : 0 ≤ d) (h : j_190_13 t1 s = some q) : zgo k d 190 (13, [(0, .ref 177)], [.int (Int32.ofInt t1), .ref 177]) (hp s ++ x) (.inl (some (.int (Int32.ofInt q.1))), hp q.2 ++ x) := by
  unfold j_190_13 at h
  have hM := xM_190 k.1
  refine g_putI 16 0 hM rfl rfl rfl rfl rfl rfl rfl ?_
  refine g_aload_n 17 hM rfl rfl rfl ?_
  refine g_getI 20 0 (gI (sI s 177 0 t1) 177 0) hM rfl rfl rfl rfl rfl rfl rfl ?_
  by_cases hc1 : 0 < (gI (sI s 177 0 t1) 177 0)
  · rw [if_pos hc1] at h
    refine g_if_le_f 23 25 hM rfl rfl rfl (zR_gI _ _ _) hc1 ?_
    refine g_iconst 24 hM rfl rfl ?_
    cases h
    exact g_ret hM rfl rfl
  · rw [if_neg hc1] at h
    refine g_if_le_t 25 hM rfl rfl (zR_gI _ _ _) hc1 ?_
    refine g_aload_n 26 hM rfl rfl rfl ?_
    refine g_dup 27 hM rfl rfl rfl ?_
    refine g_getI 30 18 (gI s 177 18) hM rfl rfl rfl rfl rfl rfl rfl ?_
    refine g_iconst 31 hM rfl rfl ?_
    refine g_isub 32 hM rfl rfl ?_
    refine g_putI 35 18 hM rfl rfl rfl rfl rfl rfl rfl ?_
    refine g_aload_n 36 hM rfl rfl rfl ?_
    refine g_iconst 37 hM rfl rfl ?_
    refine g_putI 40 21 hM rfl rfl rfl rfl rfl rfl rfl ?_
    refine g_aload_n 41 hM rfl rfl rfl ?_
    refine g_getI 44 18 (gI (sI (sI s 177 0 t1) 177 18 ((gI s 177 18) - 1)) 177 18) hM rfl rfl rfl rfl rfl rfl rfl ?_
    cases h
    exact g_ret hM rfl rfl
/-- RelationFinderModel.back()I -/
def f_190 (s : zS) : Option (Int × zS) := if (gI s 177 18) = 0 then (j_190_13 1 s) else (j_190_13 0 s)
theorem w_190 {k : zK} {d : Nat} {x : am_H} {s : zS} {q : (Int × zS)} (hd : 0 ≤ d) (h : f_190 s = some q) : zgo k d 190 (0, [(0, .ref 177)], []) (hp s ++ x) (.inl (some (.int (Int32.ofInt q.1))), hp q.2 ++ x) := by
  unfold f_190 at h
  have hM := xM_190 k.1
  refine g_aload_n 1 hM rfl rfl rfl ?_
  refine g_aload_n 2 hM rfl rfl rfl ?_
  refine g_getI 5 18 (gI s 177 18) hM rfl rfl rfl rfl rfl rfl rfl ?_
  by_cases hc1 : (gI s 177 18) = 0
  · rw [if_pos hc1] at h
    refine g_if_ne_f 8 12 hM rfl rfl rfl (zR_gI _ _ _) hc1 ?_
    refine g_iconst 9 hM rfl rfl ?_
    refine g_goto 13 hM rfl rfl ?_
    refine g_lv [(0, .ref 177)] rfl ⟨rfl, trivial⟩ ?_
    exact wj_190_13 (by omega) h
  · rw [if_neg hc1] at h
    refine g_if_ne_t 12 hM rfl rfl (zR_gI _ _ _) hc1 ?_
    refine g_iconst 13 hM rfl rfl ?_
    refine g_lv [(0, .ref 177)] rfl ⟨rfl, trivial⟩ ?_
    exact wj_190_13 (by omega) h
/-- RelationFinderModel.claim()I -/
def f_191 (s : zS) : Option (Int × zS) := zb (f_156 1 (sI s 177 0 0)) (fun r2 s3 => zg (zR r2) (if r2 = 0 then (some (((-1) - (gI s3 177 5)), s3)) else (zb (f_189 16 s3) (fun r7 s8 => some (0, (sI (sI s8 177 19 1) 177 21 0))))))
theorem w_191 {k : zK} {d : Nat} {x : am_H} {s : zS} {q : (Int × zS)} (hd : 9 ≤ d) (h : f_191 s = some q) : zgo k d 191 (0, [(0, .ref 177)], []) (hp s ++ x) (.inl (some (.int (Int32.ofInt q.1))), hp q.2 ++ x) := by
  unfold f_191 at h
  have hM := xM_191 k.1
  refine g_aload_n 1 hM rfl rfl rfl ?_
  refine g_iconst 2 hM rfl rfl ?_
  refine g_putI 5 0 hM rfl rfl rfl rfl rfl rfl rfl ?_
  refine g_aload_n 6 hM rfl rfl rfl ?_
  refine g_iconst 7 hM rfl rfl ?_
  obtain ⟨r2, s3, h1, h⟩ := zb_some h
  refine g_call 10 _ [.int (Int32.ofInt r2)] hM rfl rfl rfl rfl rfl (xM_156 _) rfl (z_rcv2 rfl) rfl rfl (by omega) (w_156 (by omega) h1) rfl ?_
  obtain ⟨hg4, h⟩ := zg_some h
  by_cases hc5 : r2 = 0
  · rw [if_pos hc5] at h
    refine g_if_ne_f 13 20 hM rfl rfl rfl hg4 hc5 ?_
    refine g_iconst 14 hM rfl rfl ?_
    refine g_aload_n 15 hM rfl rfl rfl ?_
    refine g_getI 18 5 (gI s3 177 5) hM rfl rfl rfl rfl rfl rfl rfl ?_
    refine g_isub 19 hM rfl rfl ?_
    cases h
    exact g_ret hM rfl rfl
  · rw [if_neg hc5] at h
    refine g_if_ne_t 20 hM rfl rfl hg4 hc5 ?_
    refine g_aload_n 21 hM rfl rfl rfl ?_
    refine g_bipush 23 hM rfl rfl rfl ?_
    obtain ⟨r7, s8, h6, h⟩ := zb_some h
    refine g_call 26 _ [] hM rfl rfl rfl rfl rfl (xM_189 _) rfl (z_rcv2 rfl) rfl rfl (by omega) (w_189 (by omega) h6) rfl ?_
    refine g_aload_n 27 hM rfl rfl rfl ?_
    refine g_iconst 28 hM rfl rfl ?_
    refine g_putI 31 19 hM rfl rfl rfl rfl rfl rfl rfl ?_
    refine g_aload_n 32 hM rfl rfl rfl ?_
    refine g_iconst 33 hM rfl rfl ?_
    refine g_putI 36 21 hM rfl rfl rfl rfl rfl rfl rfl ?_
    refine g_iconst 37 hM rfl rfl ?_
    cases h
    exact g_ret hM rfl rfl
def G_193_7 (k : zK) (d : Nat) (x : am_H) (r : am_A × am_H) (v2 : Int) (v3 : Int) (e : (Int × zS)) : Prop := zgo k d 193 (7, [(0, .ref 177), (2, .int (Int32.ofInt v2)), (3, .int (Int32.ofInt v3)), (4, .int (Int32.ofInt e.1))], []) (hp e.2 ++ x) r
def K_193_7 (k : zK) (d : Nat) (x : am_H) (r : am_A × am_H) (v2 : Int) (v3 : Int) (t : ((zS) ⊕ (Int × zS))) : Prop := Sum.elim (fun e => zgo k d 193 (50, [], []) (hp e ++ x) r) (fun q => r = (.inl (some (.int (Int32.ofInt q.1))), hp q.2 ++ x)) t
def G_195_2 (k : zK) (d : Nat) (x : am_H) (r : am_A × am_H) (v1 : Int) (e : (Int × zS)) : Prop := zgo k d 195 (2, [(0, .ref 177), (1, .int (Int32.ofInt v1)), (2, .int (Int32.ofInt e.1))], []) (hp e.2 ++ x) r
def K_195_2 (k : zK) (d : Nat) (x : am_H) (r : am_A × am_H) (v1 : Int) (t : (zS)) : Prop := zgo k d 195 (30, [(0, .ref 177), (1, .int (Int32.ofInt v1))], []) (hp t ++ x) r
def b_195_2 (v1 : Int) (v2 : Int) (s : zS) : Option ((Int × zS) ⊕ (zS)) := zg (zR v2) (if v2 < (gI s 177 10) then (zg (0 ≤ v2 ∧ v2 < 8) (some (.inl ((v2 + 1), (sJ (sJ s 196 v2 (0#64)) 197 v2 (0#64)))))) else (some (.inr s)))
theorem wb_195_2 {k : zK} {d : Nat} {x : am_H} {r : am_A × am_H} {v1 : Int} {v2 : Int} {s : zS} {q : (Int × zS) ⊕ (zS)} (hd : 1 ≤ d) (h : b_195_2 v1 v2 s = some q) (hK : Sum.elim (G_195_2 k d x r v1) (K_195_2 k d x r v1) q) : G_195_2 k d x r v1 (v2, s) := by
  unfold b_195_2 at h
  have hM := xM_195 k.1
  show zgo k d 195 (2, [(0, .ref 177), (1, .int (Int32.ofInt v1)), (2, .int (Int32.ofInt v2))], []) (hp s ++ x) r
  refine g_iload_n 3 hM rfl rfl rfl ?_
  refine g_aload_n 4 hM rfl rfl rfl ?_
  refine g_getI 7 10 (gI s 177 10) hM rfl rfl rfl rfl rfl rfl rfl ?_
  obtain ⟨hg1, h⟩ := zg_some h
  by_cases hc2 : v2 < (gI s 177 10)
  · rw [if_pos hc2] at h
    refine g_ic_ge_f 10 30 hM rfl rfl rfl hg1 (zR_gI _ _ _) hc2 ?_
    refine g_aload_n 11 hM rfl rfl rfl ?_
    refine g_getF 14 hM rfl rfl rfl rfl rfl ?_
    refine g_iload_n 15 hM rfl rfl rfl ?_
    refine g_lconst 16 (0#64) hM rfl rfl rfl ?_
    obtain ⟨hg3, h⟩ := zg_some h
    refine g_lastore 17 hM rfl rfl rfl rfl hg3 ?_
    refine g_aload_n 18 hM rfl rfl rfl ?_
    refine g_getF 21 hM rfl rfl rfl rfl rfl ?_
    refine g_iload_n 22 hM rfl rfl rfl ?_
    refine g_lconst 23 (0#64) hM rfl rfl rfl ?_
    refine g_lastore 24 hM rfl rfl rfl rfl hg3 ?_
    refine g_iinc 27 hM rfl rfl rfl rfl ?_
    refine g_goto 2 hM rfl rfl ?_
    cases h
    exact g_lv [(0, .ref 177), (1, .int (Int32.ofInt v1)), (2, .int (Int32.ofInt (v2 + 1)))] rfl ⟨rfl, rfl, rfl, trivial⟩ hK
  · rw [if_neg hc2] at h
    refine g_ic_ge_t 30 hM rfl rfl hg1 (zR_gI _ _ _) hc2 ?_
    cases h
    exact g_lv [(0, .ref 177), (1, .int (Int32.ofInt v1))] rfl ⟨rfl, rfl, trivial⟩ hK
theorem wl_195_2 {k : zK} {d : Nat} {x : am_H} {r : am_A × am_H} {v1 : Int} {n : Nat} {e : (Int × zS)} {t : (zS)} (hd : 1 ≤ d) (h : zlp (fun (q : Int × zS) => b_195_2 v1 q.1 q.2) n e = some t) (hK : K_195_2 k d x r v1 t) : G_195_2 k d x r v1 e := zlp_go (G := fun e => G_195_2 k d x r v1 e) (K := K_195_2 k d x r v1) (fun e e1 h1 hg => wb_195_2 (q := .inl e1) hd h1 hg) (fun e t1 h1 hk => wb_195_2 (q := .inr t1) hd h1 hk) n e t h hK
def G_195_32 (k : zK) (d : Nat) (x : am_H) (r : am_A × am_H) (v1 : Int) (e : (Int × zS)) : Prop := zgo k d 195 (32, [(0, .ref 177), (1, .int (Int32.ofInt v1)), (2, .int (Int32.ofInt e.1))], []) (hp e.2 ++ x) r
def K_195_32 (k : zK) (d : Nat) (x : am_H) (r : am_A × am_H) (v1 : Int) (t : (zS)) : Prop := zgo k d 195 (71, [(0, .ref 177), (1, .int (Int32.ofInt v1))], []) (hp t ++ x) r
/-- RelationFinderModel.addTuple(II)V -/
def f_196 (v1 : Int) (v2 : Int) (s : zS) : Option (Unit × zS) := zg (zR v2) (if v2 < 64 then (zg (0 ≤ v1 ∧ v1 < 8) (some ((), (sJ s 196 v1 ((gJ s 196 v1) ||| ((1#64) <<< zshl v2)))))) else (zg (0 ≤ v1 ∧ v1 < 8) (zg (zR (v2 - 64)) (some ((), (sJ s 197 v1 ((gJ s 197 v1) ||| ((1#64) <<< zshl (v2 - 64)))))))))
theorem w_196 {k : zK} {d : Nat} {x : am_H} {v1 : Int} {v2 : Int} {s : zS} {q : (Unit × zS)} (hd : 0 ≤ d) (h : f_196 v1 v2 s = some q) : zgo k d 196 (0, [(0, .ref 177), (1, .int (Int32.ofInt v1)), (2, .int (Int32.ofInt v2))], []) (hp s ++ x) (.inl (none), hp q.2 ++ x) := by
  unfold f_196 at h
  have hM := xM_196 k.1
  refine g_iload_n 1 hM rfl rfl rfl ?_
  refine g_bipush 3 hM rfl rfl rfl ?_
  obtain ⟨hg1, h⟩ := zg_some h
  by_cases hc2 : v2 < 64
  · rw [if_pos hc2] at h
    refine g_ic_ge_f 6 25 hM rfl rfl rfl hg1 (zR_lit rfl) hc2 ?_
    refine g_aload_n 7 hM rfl rfl rfl ?_
    refine g_getF 10 hM rfl rfl rfl rfl rfl ?_
    refine g_iload_n 11 hM rfl rfl rfl ?_
    refine g_aload_n 12 hM rfl rfl rfl ?_
    refine g_getF 15 hM rfl rfl rfl rfl rfl ?_
    refine g_iload_n 16 hM rfl rfl rfl ?_
    obtain ⟨hg3, h⟩ := zg_some h
    refine g_laload 17 (gJ s 196 v1) hM rfl rfl rfl rfl hg3 rfl ?_
    refine g_lconst 18 (1#64) hM rfl rfl rfl ?_
    refine g_iload_n 19 hM rfl rfl rfl ?_
    refine g_lshl 20 hM rfl rfl hg1 ?_
    refine g_lor 21 hM rfl rfl ?_
    refine g_lastore 22 hM rfl rfl rfl rfl hg3 ?_
    refine g_goto 44 hM rfl rfl ?_
    cases h
    exact g_ret hM rfl rfl
  · rw [if_neg hc2] at h
    refine g_ic_ge_t 25 hM rfl rfl hg1 (zR_lit rfl) hc2 ?_
    refine g_aload_n 26 hM rfl rfl rfl ?_
    refine g_getF 29 hM rfl rfl rfl rfl rfl ?_
    refine g_iload_n 30 hM rfl rfl rfl ?_
    refine g_aload_n 31 hM rfl rfl rfl ?_
    refine g_getF 34 hM rfl rfl rfl rfl rfl ?_
    refine g_iload_n 35 hM rfl rfl rfl ?_
    obtain ⟨hg4, h⟩ := zg_some h
    refine g_laload 36 (gJ s 197 v1) hM rfl rfl rfl rfl hg4 rfl ?_
    refine g_lconst 37 (1#64) hM rfl rfl rfl ?_
    refine g_iload_n 38 hM rfl rfl rfl ?_
    refine g_bipush 40 hM rfl rfl rfl ?_
    refine g_isub 41 hM rfl rfl ?_
    obtain ⟨hg5, h⟩ := zg_some h
    refine g_lshl 42 hM rfl rfl hg5 ?_
    refine g_lor 43 hM rfl rfl ?_
    refine g_lastore 44 hM rfl rfl rfl rfl hg4 ?_
    cases h
    exact g_ret hM rfl rfl
def b_195_32 (v1 : Int) (v2 : Int) (s : zS) : Option ((Int × zS) ⊕ (zS)) := zg (zR v2) (zg (zR (125 * (gI s 177 10))) (if v2 < (125 * (gI s 177 10)) then (zg (0 ≤ v2 ∧ v2 < 1000) (if (gI s 181 v2) = 2 then (zg (0 ≤ v2 ∧ zR v2 ∧ (0 : Int) < 125 ∧ zR 125) (zb (f_196 (v2 / 125) (v2 % 125) s) (fun r8 s9 => some (.inl ((v2 + 1), s9))))) else (some (.inl ((v2 + 1), s))))) else (some (.inr s))))
theorem wb_195_32 {k : zK} {d : Nat} {x : am_H} {r : am_A × am_H} {v1 : Int} {v2 : Int} {s : zS} {q : (Int × zS) ⊕ (zS)} (hd : 1 ≤ d) (h : b_195_32 v1 v2 s = some q) (hK : Sum.elim (G_195_32 k d x r v1) (K_195_32 k d x r v1) q) : G_195_32 k d x r v1 (v2, s) := by
  unfold b_195_32 at h
  have hM := xM_195 k.1
  show zgo k d 195 (32, [(0, .ref 177), (1, .int (Int32.ofInt v1)), (2, .int (Int32.ofInt v2))], []) (hp s ++ x) r
  refine g_iload_n 33 hM rfl rfl rfl ?_
  refine g_bipush 35 hM rfl rfl rfl ?_
  refine g_aload_n 36 hM rfl rfl rfl ?_
  refine g_getI 39 10 (gI s 177 10) hM rfl rfl rfl rfl rfl rfl rfl ?_
  refine g_imul 40 hM rfl rfl ?_
  obtain ⟨hg1, h⟩ := zg_some h
  obtain ⟨hg2, h⟩ := zg_some h
  by_cases hc3 : v2 < (125 * (gI s 177 10))
  · rw [if_pos hc3] at h
    refine g_ic_ge_f 43 71 hM rfl rfl rfl hg1 hg2 hc3 ?_
    refine g_aload_n 44 hM rfl rfl rfl ?_
    refine g_getF 47 hM rfl rfl rfl rfl rfl ?_
    refine g_iload_n 48 hM rfl rfl rfl ?_
    obtain ⟨hg4, h⟩ := zg_some h
    refine g_iaload 49 (gI s 181 v2) hM rfl rfl rfl rfl hg4 rfl ?_
    refine g_iconst 50 hM rfl rfl ?_
    by_cases hc5 : (gI s 181 v2) = 2
    · rw [if_pos hc5] at h
      refine g_ic_ne_f 53 65 hM rfl rfl rfl (zR_gI _ _ _) (zR_lit rfl) hc5 ?_
      refine g_aload_n 54 hM rfl rfl rfl ?_
      refine g_iload_n 55 hM rfl rfl rfl ?_
      refine g_bipush 57 hM rfl rfl rfl ?_
      obtain ⟨hg6, h⟩ := zg_some h
      refine g_idiv 58 hM rfl rfl hg6 ?_
      refine g_iload_n 59 hM rfl rfl rfl ?_
      refine g_bipush 61 hM rfl rfl rfl ?_
      refine g_irem 62 hM rfl rfl hg6 ?_
      obtain ⟨r8, s9, h7, h⟩ := zb_some h
      refine g_call 65 _ [] hM rfl rfl rfl rfl rfl (xM_196 _) rfl (z_rcv2 rfl) rfl rfl (by omega) (w_196 (by omega) h7) rfl ?_
      refine g_iinc 68 hM rfl rfl rfl rfl ?_
      refine g_goto 32 hM rfl rfl ?_
      cases h
      exact g_lv [(0, .ref 177), (1, .int (Int32.ofInt v1)), (2, .int (Int32.ofInt (v2 + 1)))] rfl ⟨rfl, rfl, rfl, trivial⟩ hK
    · rw [if_neg hc5] at h
      refine g_ic_ne_t 65 hM rfl rfl (zR_gI _ _ _) (zR_lit rfl) hc5 ?_
      refine g_iinc 68 hM rfl rfl rfl rfl ?_
      refine g_goto 32 hM rfl rfl ?_
      cases h
      exact g_lv [(0, .ref 177), (1, .int (Int32.ofInt v1)), (2, .int (Int32.ofInt (v2 + 1)))] rfl ⟨rfl, rfl, rfl, trivial⟩ hK
  · rw [if_neg hc3] at h
    refine g_ic_ge_t 71 hM rfl rfl hg1 hg2 hc3 ?_
    cases h
    exact g_lv [(0, .ref 177), (1, .int (Int32.ofInt v1))] rfl ⟨rfl, rfl, trivial⟩ hK
theorem wl_195_32 {k : zK} {d : Nat} {x : am_H} {r : am_A × am_H} {v1 : Int} {n : Nat} {e : (Int × zS)} {t : (zS)} (hd : 1 ≤ d) (h : zlp (fun (q : Int × zS) => b_195_32 v1 q.1 q.2) n e = some t) (hK : K_195_32 k d x r v1 t) : G_195_32 k d x r v1 e := zlp_go (G := fun e => G_195_32 k d x r v1 e) (K := K_195_32 k d x r v1) (fun e e1 h1 hg => wb_195_32 (q := .inl e1) hd h1 hg) (fun e t1 h1 hk => wb_195_32 (q := .inr t1) hd h1 hk) n e t h hK
def G_195_73 (k : zK) (d : Nat) (x : am_H) (r : am_A × am_H) (v1 : Int) (e : (Int × zS)) : Prop := zgo k d 195 (73, [(0, .ref 177), (1, .int (Int32.ofInt v1)), (2, .int (Int32.ofInt e.1))], []) (hp e.2 ++ x) r
def K_195_73 (k : zK) (d : Nat) (x : am_H) (r : am_A × am_H) (v1 : Int) (t : (zS)) : Prop := zgo k d 195 (112, [], []) (hp t ++ x) r
/-- RelationFinderModel.isFreeIn(II)Z -/
def f_197 (v1 : Int) (v2 : Int) (s : zS) : Option Int := zg (0 ≤ v1 ∧ zR v1) (if (zand (v1 / 2 ^ zsh (((gI s 177 13) - 1) - v2)) 1) = 1 then (some 1) else (some 0))
theorem w_197 {k : zK} {d : Nat} {x : am_H} {v1 : Int} {v2 : Int} {s : zS} {q : Int} (hd : 0 ≤ d) (h : f_197 v1 v2 s = some q) : zgo k d 197 (0, [(0, .ref 177), (1, .int (Int32.ofInt v1)), (2, .int (Int32.ofInt v2))], []) (hp s ++ x) (.inl (some (.int (Int32.ofInt q))), hp s ++ x) := by
  unfold f_197 at h
  have hM := xM_197 k.1
  refine g_iload_n 1 hM rfl rfl rfl ?_
  refine g_aload_n 2 hM rfl rfl rfl ?_
  refine g_getI 5 13 (gI s 177 13) hM rfl rfl rfl rfl rfl rfl rfl ?_
  refine g_iconst 6 hM rfl rfl ?_
  refine g_isub 7 hM rfl rfl ?_
  refine g_iload_n 8 hM rfl rfl rfl ?_
  refine g_isub 9 hM rfl rfl ?_
  obtain ⟨hg1, h⟩ := zg_some h
  refine g_ishr 10 hM rfl rfl hg1 ?_
  refine g_iconst 11 hM rfl rfl ?_
  refine g_iand 12 hM rfl rfl ?_
  refine g_iconst 13 hM rfl rfl ?_
  by_cases hc2 : (zand (v1 / 2 ^ zsh (((gI s 177 13) - 1) - v2)) 1) = 1
  · rw [if_pos hc2] at h
    refine g_ic_ne_f 16 20 hM rfl rfl rfl (zR_and _ _) (zR_lit rfl) hc2 ?_
    refine g_iconst 17 hM rfl rfl ?_
    refine g_goto 21 hM rfl rfl ?_
    cases h
    exact g_ret hM rfl rfl
  · rw [if_neg hc2] at h
    refine g_ic_ne_t 20 hM rfl rfl (zR_and _ _) (zR_lit rfl) hc2 ?_
    refine g_iconst 21 hM rfl rfl ?_
    cases h
    exact g_ret hM rfl rfl
def b_195_73 (v1 : Int) (v2 : Int) (s : zS) : Option ((Int × zS) ⊕ (zS)) := zg (zR v2) (if v2 < (gI s 177 13) then (zo (f_197 v1 v2 s) (fun r4 => zg (zR r4) (if r4 = 0 then (some (.inl ((v2 + 1), s))) else (zg (0 ≤ v2 ∧ v2 < 12) (zb (f_196 (gI s 182 v2) (gI s 183 v2) s) (fun r9 s10 => some (.inl ((v2 + 1), s10)))))))) else (some (.inr s)))
theorem wb_195_73 {k : zK} {d : Nat} {x : am_H} {r : am_A × am_H} {v1 : Int} {v2 : Int} {s : zS} {q : (Int × zS) ⊕ (zS)} (hd : 1 ≤ d) (h : b_195_73 v1 v2 s = some q) (hK : Sum.elim (G_195_73 k d x r v1) (K_195_73 k d x r v1) q) : G_195_73 k d x r v1 (v2, s) := by
  unfold b_195_73 at h
  have hM := xM_195 k.1
  show zgo k d 195 (73, [(0, .ref 177), (1, .int (Int32.ofInt v1)), (2, .int (Int32.ofInt v2))], []) (hp s ++ x) r
  refine g_iload_n 74 hM rfl rfl rfl ?_
  refine g_aload_n 75 hM rfl rfl rfl ?_
  refine g_getI 78 13 (gI s 177 13) hM rfl rfl rfl rfl rfl rfl rfl ?_
  obtain ⟨hg1, h⟩ := zg_some h
  by_cases hc2 : v2 < (gI s 177 13)
  · rw [if_pos hc2] at h
    refine g_ic_ge_f 81 112 hM rfl rfl rfl hg1 (zR_gI _ _ _) hc2 ?_
    refine g_aload_n 82 hM rfl rfl rfl ?_
    refine g_iload_n 83 hM rfl rfl rfl ?_
    refine g_iload_n 84 hM rfl rfl rfl ?_
    obtain ⟨r4, h3, h⟩ := zo_some h
    refine g_call 87 _ [.int (Int32.ofInt r4)] hM rfl rfl rfl rfl rfl (xM_197 _) rfl (z_rcv2 rfl) rfl rfl (by omega) (w_197 (by omega) h3) rfl ?_
    obtain ⟨hg5, h⟩ := zg_some h
    by_cases hc6 : r4 = 0
    · rw [if_pos hc6] at h
      refine g_if_eq_t 106 hM rfl rfl hg5 hc6 ?_
      refine g_iinc 109 hM rfl rfl rfl rfl ?_
      refine g_goto 73 hM rfl rfl ?_
      cases h
      exact g_lv [(0, .ref 177), (1, .int (Int32.ofInt v1)), (2, .int (Int32.ofInt (v2 + 1)))] rfl ⟨rfl, rfl, rfl, trivial⟩ hK
    · rw [if_neg hc6] at h
      refine g_if_eq_f 90 106 hM rfl rfl rfl hg5 hc6 ?_
      refine g_aload_n 91 hM rfl rfl rfl ?_
      refine g_aload_n 92 hM rfl rfl rfl ?_
      refine g_getF 95 hM rfl rfl rfl rfl rfl ?_
      refine g_iload_n 96 hM rfl rfl rfl ?_
      obtain ⟨hg7, h⟩ := zg_some h
      refine g_iaload 97 (gI s 182 v2) hM rfl rfl rfl rfl hg7 rfl ?_
      refine g_aload_n 98 hM rfl rfl rfl ?_
      refine g_getF 101 hM rfl rfl rfl rfl rfl ?_
      refine g_iload_n 102 hM rfl rfl rfl ?_
      refine g_iaload 103 (gI s 183 v2) hM rfl rfl rfl rfl hg7 rfl ?_
      obtain ⟨r9, s10, h8, h⟩ := zb_some h
      refine g_call 106 _ [] hM rfl rfl rfl rfl rfl (xM_196 _) rfl (z_rcv2 rfl) rfl rfl (by omega) (w_196 (by omega) h8) rfl ?_
      refine g_iinc 109 hM rfl rfl rfl rfl ?_
      refine g_goto 73 hM rfl rfl ?_
      cases h
      exact g_lv [(0, .ref 177), (1, .int (Int32.ofInt v1)), (2, .int (Int32.ofInt (v2 + 1)))] rfl ⟨rfl, rfl, rfl, trivial⟩ hK
  · rw [if_neg hc2] at h
    refine g_ic_ge_t 112 hM rfl rfl hg1 (zR_gI _ _ _) hc2 ?_
    cases h
    exact g_lv [] rfl trivial hK
theorem wl_195_73 {k : zK} {d : Nat} {x : am_H} {r : am_A × am_H} {v1 : Int} {n : Nat} {e : (Int × zS)} {t : (zS)} (hd : 1 ≤ d) (h : zlp (fun (q : Int × zS) => b_195_73 v1 q.1 q.2) n e = some t) (hK : K_195_73 k d x r v1 t) : G_195_73 k d x r v1 e := zlp_go (G := fun e => G_195_73 k d x r v1 e) (K := K_195_73 k d x r v1) (fun e e1 h1 hg => wb_195_73 (q := .inl e1) hd h1 hg) (fun e t1 h1 hk => wb_195_73 (q := .inr t1) hd h1 hk) n e t h hK
/-- RelationFinderModel.assign(I)V -/
def f_195 (v1 : Int) (s : zS) : Option (Unit × zS) := zo (zlp (fun (q : Int × zS) => b_195_2 v1 q.1 q.2) zF (0, s)) (fun e1 => zo (zlp (fun (q : Int × zS) => b_195_32 v1 q.1 q.2) zF (0, e1)) (fun e3 => zo (zlp (fun (q : Int × zS) => b_195_73 v1 q.1 q.2) zF (0, e3)) (fun e5 => some ((), e5))))
theorem w_195 {k : zK} {d : Nat} {x : am_H} {v1 : Int} {s : zS} {q : (Unit × zS)} (hd : 1 ≤ d) (h : f_195 v1 s = some q) : zgo k d 195 (0, [(0, .ref 177), (1, .int (Int32.ofInt v1))], []) (hp s ++ x) (.inl (none), hp q.2 ++ x) := by
  unfold f_195 at h
  have hM := xM_195 k.1
  refine g_iconst 1 hM rfl rfl ?_
  refine g_istore_n 2 hM rfl rfl rfl ?_
  obtain ⟨e1, h2, h⟩ := zo_some h
  refine g_lv [(0, .ref 177), (1, .int (Int32.ofInt v1)), (2, .int (Int32.ofInt 0))] rfl ⟨rfl, rfl, rfl, trivial⟩ ?_
  refine wl_195_2 (by omega) h2 ?_
  show zgo k d 195 (30, [(0, .ref 177), (1, .int (Int32.ofInt v1))], []) (hp e1 ++ x) (.inl (none), hp q.2 ++ x)
  refine g_iconst 31 hM rfl rfl ?_
  refine g_istore_n 32 hM rfl rfl rfl ?_
  obtain ⟨e3, h4, h⟩ := zo_some h
  refine g_lv [(0, .ref 177), (1, .int (Int32.ofInt v1)), (2, .int (Int32.ofInt 0))] rfl ⟨rfl, rfl, rfl, trivial⟩ ?_
  refine wl_195_32 (by omega) h4 ?_
  show zgo k d 195 (71, [(0, .ref 177), (1, .int (Int32.ofInt v1))], []) (hp e3 ++ x) (.inl (none), hp q.2 ++ x)
  refine g_iconst 72 hM rfl rfl ?_
  refine g_istore_n 73 hM rfl rfl rfl ?_
  obtain ⟨e5, h6, h⟩ := zo_some h
  refine g_lv [(0, .ref 177), (1, .int (Int32.ofInt v1)), (2, .int (Int32.ofInt 0))] rfl ⟨rfl, rfl, rfl, trivial⟩ ?_
  refine wl_195_73 (by omega) h6 ?_
  show zgo k d 195 (112, [], []) (hp e5 ++ x) (.inl (none), hp q.2 ++ x)
  cases h
  exact g_ret hM rfl rfl
def G_194_10 (k : zK) (d : Nat) (x : am_H) (r : am_A × am_H) (v2 : Int) (e : (Int × Int × zS)) : Prop := zgo k d 194 (10, [(0, .ref 177), (2, .int (Int32.ofInt v2)), (3, .int (Int32.ofInt e.1)), (4, .int (Int32.ofInt e.2.1))], []) (hp e.2.2 ++ x) r
def K_194_10 (k : zK) (d : Nat) (x : am_H) (r : am_A × am_H) (v2 : Int) (t : (Int × zS)) : Prop := zgo k d 194 (53, [(3, .int (Int32.ofInt t.1))], []) (hp t.2 ++ x) r
def G_199_12 (k : zK) (d : Nat) (x : am_H) (r : am_A × am_H) (v1 : Int) (e : (Int × zS)) : Prop := zgo k d 199 (12, [(0, .ref 177), (1, .int (Int32.ofInt v1)), (2, .int (Int32.ofInt e.1))], []) (hp e.2 ++ x) r
def K_199_12 (k : zK) (d : Nat) (x : am_H) (r : am_A × am_H) (v1 : Int) (t : (zS)) : Prop := zgo k d 199 (164, [], []) (hp t ++ x) r
def G_201_2 (k : zK) (d : Nat) (x : am_H) (r : am_A × am_H) (v1 : Int) (s : zS) (e : (Int)) : Prop := zgo k d 201 (2, [(0, .ref 177), (1, .int (Int32.ofInt v1)), (3, .int (Int32.ofInt e))], []) (hp s ++ x) r
def K_201_2 (k : zK) (d : Nat) (x : am_H) (r : am_A × am_H) (v1 : Int) (s : zS) (t : (Int)) : Prop := zgo k d 201 (24, [(3, .int (Int32.ofInt t))], []) (hp s ++ x) r
def b_201_2 (v1 : Int) (s : zS) (v3 : Int) : Option ((Int) ⊕ (Int)) := zg (zR v3) (if v3 < (gI s 177 1) then (zg (0 ≤ v1 ∧ zR v1) (if (zand (v1 / 2 ^ zsh v3) 1) = 0 then (some (.inl (v3 + 1))) else (some (.inr v3)))) else (some (.inr v3)))
theorem wb_201_2 {k : zK} {d : Nat} {x : am_H} {r : am_A × am_H} {v1 : Int} {v3 : Int} {s : zS} {q : (Int) ⊕ (Int)} (hd : 0 ≤ d) (h : b_201_2 v1 s v3 = some q) (hK : Sum.elim (G_201_2 k d x r v1 s) (K_201_2 k d x r v1 s) q) : G_201_2 k d x r v1 s v3 := by
  unfold b_201_2 at h
  have hM := xM_201 k.1
  show zgo k d 201 (2, [(0, .ref 177), (1, .int (Int32.ofInt v1)), (3, .int (Int32.ofInt v3))], []) (hp s ++ x) r
  refine g_iload_n 3 hM rfl rfl rfl ?_
  refine g_aload_n 4 hM rfl rfl rfl ?_
  refine g_getI 7 1 (gI s 177 1) hM rfl rfl rfl rfl rfl rfl rfl ?_
  obtain ⟨hg1, h⟩ := zg_some h
  by_cases hc2 : v3 < (gI s 177 1)
  · rw [if_pos hc2] at h
    refine g_ic_ge_f 10 24 hM rfl rfl rfl hg1 (zR_gI _ _ _) hc2 ?_
    refine g_iload_n 11 hM rfl rfl rfl ?_
    refine g_iload_n 12 hM rfl rfl rfl ?_
    obtain ⟨hg3, h⟩ := zg_some h
    refine g_ishr 13 hM rfl rfl hg3 ?_
    refine g_iconst 14 hM rfl rfl ?_
    refine g_iand 15 hM rfl rfl ?_
    by_cases hc4 : (zand (v1 / 2 ^ zsh v3) 1) = 0
    · rw [if_pos hc4] at h
      refine g_if_ne_f 18 24 hM rfl rfl rfl (zR_and _ _) hc4 ?_
      refine g_iinc 21 hM rfl rfl rfl rfl ?_
      refine g_goto 2 hM rfl rfl ?_
      cases h
      exact g_lv [(0, .ref 177), (1, .int (Int32.ofInt v1)), (3, .int (Int32.ofInt (v3 + 1)))] rfl ⟨rfl, rfl, rfl, trivial⟩ hK
    · rw [if_neg hc4] at h
      refine g_if_ne_t 24 hM rfl rfl (zR_and _ _) hc4 ?_
      cases h
      exact g_lv [(3, .int (Int32.ofInt v3))] rfl ⟨rfl, trivial⟩ hK
  · rw [if_neg hc2] at h
    refine g_ic_ge_t 24 hM rfl rfl hg1 (zR_gI _ _ _) hc2 ?_
    cases h
    exact g_lv [(3, .int (Int32.ofInt v3))] rfl ⟨rfl, trivial⟩ hK
theorem wl_201_2 {k : zK} {d : Nat} {x : am_H} {r : am_A × am_H} {v1 : Int} {s : zS} {n : Nat} {e : (Int)} {t : (Int)} (hd : 0 ≤ d) (h : zlp (fun (q : Int) => b_201_2 v1 s q) n e = some t) (hK : K_201_2 k d x r v1 s t) : G_201_2 k d x r v1 s e := zlp_go (G := fun e => G_201_2 k d x r v1 s e) (K := K_201_2 k d x r v1 s) (fun e e1 h1 hg => wb_201_2 (q := .inl e1) hd h1 hg) (fun e t1 h1 hk => wb_201_2 (q := .inr t1) hd h1 hk) n e t h hK
/-- RelationFinderModel.nextAtom(II)I -/
def f_201 (v1 : Int) (v2 : Int) (s : zS) : Option Int := zo (zlp (fun (q : Int) => b_201_2 v1 s q) zF v2) (fun e1 => some e1)
theorem w_201 {k : zK} {d : Nat} {x : am_H} {v1 : Int} {v2 : Int} {s : zS} {q : Int} (hd : 0 ≤ d) (h : f_201 v1 v2 s = some q) : zgo k d 201 (0, [(0, .ref 177), (1, .int (Int32.ofInt v1)), (2, .int (Int32.ofInt v2))], []) (hp s ++ x) (.inl (some (.int (Int32.ofInt q))), hp s ++ x) := by
  unfold f_201 at h
  have hM := xM_201 k.1
  refine g_iload_n 1 hM rfl rfl rfl ?_
  refine g_istore_n 2 hM rfl rfl rfl ?_
  obtain ⟨e1, h2, h⟩ := zo_some h
  refine g_lv [(0, .ref 177), (1, .int (Int32.ofInt v1)), (3, .int (Int32.ofInt v2))] rfl ⟨rfl, rfl, rfl, trivial⟩ ?_
  refine wl_201_2 (by omega) h2 ?_
  show zgo k d 201 (24, [(3, .int (Int32.ofInt e1))], []) (hp s ++ x) (.inl (some (.int (Int32.ofInt q))), hp s ++ x)
  refine g_iload_n 25 hM rfl rfl rfl ?_
  cases h
  exact g_ret hM rfl rfl
/-- RelationFinderModel.give(JJ)V -/
def f_203 (w1 : BitVec 64) (w3 : BitVec 64) (s : zS) : Option (Unit × zS) := zg (0 ≤ (gI s 177 46) ∧ (gI s 177 46) < 128) (some ((), (sI (sJ (sJ s 198 (gI s 177 46) w1) 199 (gI s 177 46) w3) 177 46 ((gI s 177 46) + 1))))
theorem w_203 {k : zK} {d : Nat} {x : am_H} {w1 : BitVec 64} {w3 : BitVec 64} {s : zS} {q : (Unit × zS)} (hd : 0 ≤ d) (h : f_203 w1 w3 s = some q) : zgo k d 203 (0, [(0, .ref 177), (1, .long (Int64.ofBitVec w1)), (3, .long (Int64.ofBitVec w3))], []) (hp s ++ x) (.inl (none), hp q.2 ++ x) := by
  unfold f_203 at h
  have hM := xM_203 k.1
  refine g_aload_n 1 hM rfl rfl rfl ?_
  refine g_getF 4 hM rfl rfl rfl rfl rfl ?_
  refine g_aload_n 5 hM rfl rfl rfl ?_
  refine g_getI 8 46 (gI s 177 46) hM rfl rfl rfl rfl rfl rfl rfl ?_
  refine g_lload_n 9 hM rfl rfl rfl ?_
  obtain ⟨hg1, h⟩ := zg_some h
  refine g_lastore 10 hM rfl rfl rfl rfl hg1 ?_
  refine g_aload_n 11 hM rfl rfl rfl ?_
  refine g_getF 14 hM rfl rfl rfl rfl rfl ?_
  refine g_aload_n 15 hM rfl rfl rfl ?_
  refine g_getI 18 46 (gI s 177 46) hM rfl rfl rfl rfl rfl rfl rfl ?_
  refine g_lload_n 19 hM rfl rfl rfl ?_
  refine g_lastore 20 hM rfl rfl rfl rfl hg1 ?_
  refine g_aload_n 21 hM rfl rfl rfl ?_
  refine g_dup 22 hM rfl rfl rfl ?_
  refine g_getI 25 46 (gI s 177 46) hM rfl rfl rfl rfl rfl rfl rfl ?_
  refine g_iconst 26 hM rfl rfl ?_
  refine g_iadd 27 hM rfl rfl ?_
  refine g_putI 30 46 hM rfl rfl rfl rfl rfl rfl rfl ?_
  cases h
  exact g_ret hM rfl rfl
def G_204_4 (k : zK) (d : Nat) (x : am_H) (r : am_A × am_H) (v0 : Int) (s : zS) (e : (Int × Int)) : Prop := zgo k d 204 (4, [(0, .int (Int32.ofInt v0)), (1, .int (Int32.ofInt e.1)), (2, .int (Int32.ofInt e.2))], []) (hp s ++ x) r
def K_204_4 (k : zK) (d : Nat) (x : am_H) (r : am_A × am_H) (v0 : Int) (s : zS) (t : (Int)) : Prop := zgo k d 204 (23, [(1, .int (Int32.ofInt t))], []) (hp s ++ x) r
def b_204_4 (v0 : Int) (s : zS) (v1 : Int) (v2 : Int) : Option ((Int × Int) ⊕ (Int)) := zg (zR v2) (if v2 < 5 then (zg (0 ≤ v0 ∧ zR v0) (some (.inl ((v1 + (zand (v0 / 2 ^ zsh v2) 1)), (v2 + 1))))) else (some (.inr v1)))
theorem wb_204_4 {k : zK} {d : Nat} {x : am_H} {r : am_A × am_H} {v0 : Int} {v1 : Int} {v2 : Int} {s : zS} {q : (Int × Int) ⊕ (Int)} (hd : 0 ≤ d) (h : b_204_4 v0 s v1 v2 = some q) (hK : Sum.elim (G_204_4 k d x r v0 s) (K_204_4 k d x r v0 s) q) : G_204_4 k d x r v0 s (v1, v2) := by
  unfold b_204_4 at h
  have hM := xM_204 k.1
  show zgo k d 204 (4, [(0, .int (Int32.ofInt v0)), (1, .int (Int32.ofInt v1)), (2, .int (Int32.ofInt v2))], []) (hp s ++ x) r
  refine g_iload_n 5 hM rfl rfl rfl ?_
  refine g_iconst 6 hM rfl rfl ?_
  obtain ⟨hg1, h⟩ := zg_some h
  by_cases hc2 : v2 < 5
  · rw [if_pos hc2] at h
    refine g_ic_ge_f 9 23 hM rfl rfl rfl hg1 (zR_lit rfl) hc2 ?_
    refine g_iload_n 10 hM rfl rfl rfl ?_
    refine g_iload_n 11 hM rfl rfl rfl ?_
    refine g_iload_n 12 hM rfl rfl rfl ?_
    obtain ⟨hg3, h⟩ := zg_some h
    refine g_ishr 13 hM rfl rfl hg3 ?_
    refine g_iconst 14 hM rfl rfl ?_
    refine g_iand 15 hM rfl rfl ?_
    refine g_iadd 16 hM rfl rfl ?_
    refine g_istore_n 17 hM rfl rfl rfl ?_
    refine g_iinc 20 hM rfl rfl rfl rfl ?_
    refine g_goto 4 hM rfl rfl ?_
    cases h
    exact g_lv [(0, .int (Int32.ofInt v0)), (1, .int (Int32.ofInt (v1 + (zand (v0 / 2 ^ zsh v2) 1)))), (2, .int (Int32.ofInt (v2 + 1)))] rfl ⟨rfl, rfl, rfl, trivial⟩ hK
  · rw [if_neg hc2] at h
    refine g_ic_ge_t 23 hM rfl rfl hg1 (zR_lit rfl) hc2 ?_
    cases h
    exact g_lv [(1, .int (Int32.ofInt v1))] rfl ⟨rfl, trivial⟩ hK
theorem wl_204_4 {k : zK} {d : Nat} {x : am_H} {r : am_A × am_H} {v0 : Int} {s : zS} {n : Nat} {e : (Int × Int)} {t : (Int)} (hd : 0 ≤ d) (h : zlp (fun (q : Int × Int) => b_204_4 v0 s q.1 q.2) n e = some t) (hK : K_204_4 k d x r v0 s t) : G_204_4 k d x r v0 s e := zlp_go (G := fun e => G_204_4 k d x r v0 s e) (K := K_204_4 k d x r v0 s) (fun e e1 h1 hg => wb_204_4 (q := .inl e1) hd h1 hg) (fun e t1 h1 hk => wb_204_4 (q := .inr t1) hd h1 hk) n e t h hK
/-- RelationFinderModel.many(I)I -/
def f_204 (v0 : Int) (s : zS) : Option Int := zo (zlp (fun (q : Int × Int) => b_204_4 v0 s q.1 q.2) zF (0, 0)) (fun e1 => some e1)
theorem w_204 {k : zK} {d : Nat} {x : am_H} {v0 : Int} {s : zS} {q : Int} (hd : 0 ≤ d) (h : f_204 v0 s = some q) : zgo k d 204 (0, [(0, .int (Int32.ofInt v0))], []) (hp s ++ x) (.inl (some (.int (Int32.ofInt q))), hp s ++ x) := by
  unfold f_204 at h
  have hM := xM_204 k.1
  refine g_iconst 1 hM rfl rfl ?_
  refine g_istore_n 2 hM rfl rfl rfl ?_
  refine g_iconst 3 hM rfl rfl ?_
  refine g_istore_n 4 hM rfl rfl rfl ?_
  obtain ⟨e1, h2, h⟩ := zo_some h
  refine g_lv [(0, .int (Int32.ofInt v0)), (1, .int (Int32.ofInt 0)), (2, .int (Int32.ofInt 0))] rfl ⟨rfl, rfl, rfl, trivial⟩ ?_
  refine wl_204_4 (by omega) h2 ?_
  show zgo k d 204 (23, [(1, .int (Int32.ofInt e1))], []) (hp s ++ x) (.inl (some (.int (Int32.ofInt q))), hp s ++ x)
  refine g_iload_n 24 hM rfl rfl rfl ?_
  cases h
  exact g_ret hM rfl rfl
def t_205_1 (a : Int) : Nat := zswt 0 3 [32, 43, 53, 63] 74 a
/-- RelationFinderModel.isQuantity(III)Z -/
def f_205 (v0 : Int) (v1 : Int) (v2 : Int) : Option Int := zg (zR v0) (if t_205_1 v0 = 32 then (zg (zR v1) (zg (zR v2) (if v1 = v2 then (some 1) else (some 0)))) else (if t_205_1 v0 = 43 then (zg (zR v1) (if 0 < v1 then (some 1) else (some 0))) else (if t_205_1 v0 = 53 then (zg (zR v1) (if v1 = 0 then (some 1) else (some 0))) else (if t_205_1 v0 = 63 then (zg (zR v1) (if 1 < v1 then (some 0) else (some 1))) else (if t_205_1 v0 = 74 then (zg (zR v1) (if v1 = 1 then (some 1) else (some 0))) else (none))))))
theorem w_205 {k : zK} {d : Nat} {x : am_H} {v0 : Int} {v1 : Int} {v2 : Int} {s : zS} {q : Int} (hd : 0 ≤ d) (h : f_205 v0 v1 v2 = some q) : zgo k d 205 (0, [(0, .int (Int32.ofInt v0)), (1, .int (Int32.ofInt v1)), (2, .int (Int32.ofInt v2))], []) (hp s ++ x) (.inl (some (.int (Int32.ofInt q))), hp s ++ x) := by
  unfold f_205 at h
  have hM := xM_205 k.1
  refine g_iload_n 1 hM rfl rfl rfl ?_
  obtain ⟨hg1, h⟩ := zg_some h
  by_cases hc2 : t_205_1 v0 = 32
  · rw [if_pos hc2] at h
    refine g_tsw 32 hM rfl hg1 hc2 rfl rfl rfl ?_
    refine g_iload_n 33 hM rfl rfl rfl ?_
    refine g_iload_n 34 hM rfl rfl rfl ?_
    obtain ⟨hg3, h⟩ := zg_some h
    obtain ⟨hg4, h⟩ := zg_some h
    by_cases hc5 : v1 = v2
    · rw [if_pos hc5] at h
      refine g_ic_ne_f 37 41 hM rfl rfl rfl hg3 hg4 hc5 ?_
      refine g_iconst 38 hM rfl rfl ?_
      refine g_goto 42 hM rfl rfl ?_
      cases h
      exact g_ret hM rfl rfl
    · rw [if_neg hc5] at h
      refine g_ic_ne_t 41 hM rfl rfl hg3 hg4 hc5 ?_
      refine g_iconst 42 hM rfl rfl ?_
      cases h
      exact g_ret hM rfl rfl
  · rw [if_neg hc2] at h
    by_cases hc6 : t_205_1 v0 = 43
    · rw [if_pos hc6] at h
      refine g_tsw 43 hM rfl hg1 hc6 rfl rfl rfl ?_
      refine g_iload_n 44 hM rfl rfl rfl ?_
      obtain ⟨hg7, h⟩ := zg_some h
      by_cases hc8 : 0 < v1
      · rw [if_pos hc8] at h
        refine g_if_le_f 47 51 hM rfl rfl rfl hg7 hc8 ?_
        refine g_iconst 48 hM rfl rfl ?_
        refine g_goto 52 hM rfl rfl ?_
        cases h
        exact g_ret hM rfl rfl
      · rw [if_neg hc8] at h
        refine g_if_le_t 51 hM rfl rfl hg7 hc8 ?_
        refine g_iconst 52 hM rfl rfl ?_
        cases h
        exact g_ret hM rfl rfl
    · rw [if_neg hc6] at h
      by_cases hc9 : t_205_1 v0 = 53
      · rw [if_pos hc9] at h
        refine g_tsw 53 hM rfl hg1 hc9 rfl rfl rfl ?_
        refine g_iload_n 54 hM rfl rfl rfl ?_
        obtain ⟨hg10, h⟩ := zg_some h
        by_cases hc11 : v1 = 0
        · rw [if_pos hc11] at h
          refine g_if_ne_f 57 61 hM rfl rfl rfl hg10 hc11 ?_
          refine g_iconst 58 hM rfl rfl ?_
          refine g_goto 62 hM rfl rfl ?_
          cases h
          exact g_ret hM rfl rfl
        · rw [if_neg hc11] at h
          refine g_if_ne_t 61 hM rfl rfl hg10 hc11 ?_
          refine g_iconst 62 hM rfl rfl ?_
          cases h
          exact g_ret hM rfl rfl
      · rw [if_neg hc9] at h
        by_cases hc12 : t_205_1 v0 = 63
        · rw [if_pos hc12] at h
          refine g_tsw 63 hM rfl hg1 hc12 rfl rfl rfl ?_
          refine g_iload_n 64 hM rfl rfl rfl ?_
          refine g_iconst 65 hM rfl rfl ?_
          obtain ⟨hg13, h⟩ := zg_some h
          by_cases hc14 : 1 < v1
          · rw [if_pos hc14] at h
            refine g_ic_gt_t 72 hM rfl rfl hg13 (zR_lit rfl) hc14 ?_
            refine g_iconst 73 hM rfl rfl ?_
            cases h
            exact g_ret hM rfl rfl
          · rw [if_neg hc14] at h
            refine g_ic_gt_f 68 72 hM rfl rfl rfl hg13 (zR_lit rfl) hc14 ?_
            refine g_iconst 69 hM rfl rfl ?_
            refine g_goto 73 hM rfl rfl ?_
            cases h
            exact g_ret hM rfl rfl
        · rw [if_neg hc12] at h
          by_cases hc15 : t_205_1 v0 = 74
          · rw [if_pos hc15] at h
            refine g_tsw 74 hM rfl hg1 hc15 rfl rfl rfl ?_
            refine g_iload_n 75 hM rfl rfl rfl ?_
            refine g_iconst 76 hM rfl rfl ?_
            obtain ⟨hg16, h⟩ := zg_some h
            by_cases hc17 : v1 = 1
            · rw [if_pos hc17] at h
              refine g_ic_ne_f 79 83 hM rfl rfl rfl hg16 (zR_lit rfl) hc17 ?_
              refine g_iconst 80 hM rfl rfl ?_
              refine g_goto 84 hM rfl rfl ?_
              cases h
              exact g_ret hM rfl rfl
            · rw [if_neg hc17] at h
              refine g_ic_ne_t 83 hM rfl rfl hg16 (zR_lit rfl) hc17 ?_
              refine g_iconst 84 hM rfl rfl ?_
              cases h
              exact g_ret hM rfl rfl
          · rw [if_neg hc15] at h
            cases h
/-- RelationFinderModel.truth(Z)V -/
def f_206 (v1 : Int) (s : zS) : Option (Unit × zS) := zg (zR v1) (if v1 = 0 then (zb (f_203 (0#64) (0#64) s) (fun r4 s5 => some ((), s5))) else (zb (f_203 (1#64) (0#64) s) (fun r7 s8 => some ((), s8))))
theorem w_206 {k : zK} {d : Nat} {x : am_H} {v1 : Int} {s : zS} {q : (Unit × zS)} (hd : 1 ≤ d) (h : f_206 v1 s = some q) : zgo k d 206 (0, [(0, .ref 177), (1, .int (Int32.ofInt v1))], []) (hp s ++ x) (.inl (none), hp q.2 ++ x) := by
  unfold f_206 at h
  have hM := xM_206 k.1
  refine g_aload_n 1 hM rfl rfl rfl ?_
  refine g_iload_n 2 hM rfl rfl rfl ?_
  obtain ⟨hg1, h⟩ := zg_some h
  by_cases hc2 : v1 = 0
  · rw [if_pos hc2] at h
    refine g_if_eq_t 9 hM rfl rfl hg1 hc2 ?_
    refine g_lconst 10 (0#64) hM rfl rfl rfl ?_
    refine g_lconst 11 (0#64) hM rfl rfl rfl ?_
    obtain ⟨r4, s5, h3, h⟩ := zb_some h
    refine g_call 14 _ [] hM rfl rfl rfl rfl rfl (xM_203 _) rfl (z_rcv2 rfl) rfl rfl (by omega) (w_203 (by omega) h3) rfl ?_
    cases h
    exact g_ret hM rfl rfl
  · rw [if_neg hc2] at h
    refine g_if_eq_f 5 9 hM rfl rfl rfl hg1 hc2 ?_
    refine g_lconst 6 (1#64) hM rfl rfl rfl ?_
    refine g_goto 10 hM rfl rfl ?_
    refine g_lconst 11 (0#64) hM rfl rfl rfl ?_
    obtain ⟨r7, s8, h6, h⟩ := zb_some h
    refine g_call 14 _ [] hM rfl rfl rfl rfl rfl (xM_203 _) rfl (z_rcv2 rfl) rfl rfl (by omega) (w_203 (by omega) h6) rfl ?_
    cases h
    exact g_ret hM rfl rfl
/-- RelationFinderModel.endLoop(I)V -/
def f_202 (v1 : Int) (s : zS) : Option (Unit × zS) := zg (0 ≤ (gI (sI s 177 53 ((gI s 177 53) - 1)) 177 53) ∧ (gI (sI s 177 53 ((gI s 177 53) - 1)) 177 53) < 32) (zg (zR v1) (if v1 = 5 then (zb (f_203 (BitVec.ofInt 64 (gI s 203 (gI (sI s 177 53 ((gI s 177 53) - 1)) 177 53))) (0#64) (sI s 177 53 ((gI s 177 53) - 1))) (fun r5 s6 => some ((), s6))) else (zo (f_204 (gI s 203 (gI (sI s 177 53 ((gI s 177 53) - 1)) 177 53)) (sI s 177 53 ((gI s 177 53) - 1))) (fun r8 => zo (f_204 (gI s 202 (gI (sI s 177 53 ((gI s 177 53) - 1)) 177 53)) (sI s 177 53 ((gI s 177 53) - 1))) (fun r10 => zo (f_205 v1 r8 r10) (fun r12 => zb (f_206 r12 (sI s 177 53 ((gI s 177 53) - 1))) (fun r14 s15 => some ((), s15))))))))
theorem w_202 {k : zK} {d : Nat} {x : am_H} {v1 : Int} {s : zS} {q : (Unit × zS)} (hd : 2 ≤ d) (h : f_202 v1 s = some q) : zgo k d 202 (0, [(0, .ref 177), (1, .int (Int32.ofInt v1))], []) (hp s ++ x) (.inl (none), hp q.2 ++ x) := by
  unfold f_202 at h
  have hM := xM_202 k.1
  refine g_aload_n 1 hM rfl rfl rfl ?_
  refine g_dup 2 hM rfl rfl rfl ?_
  refine g_getI 5 53 (gI s 177 53) hM rfl rfl rfl rfl rfl rfl rfl ?_
  refine g_iconst 6 hM rfl rfl ?_
  refine g_isub 7 hM rfl rfl ?_
  refine g_putI 10 53 hM rfl rfl rfl rfl rfl rfl rfl ?_
  refine g_aload_n 11 hM rfl rfl rfl ?_
  refine g_getF 14 hM rfl rfl rfl rfl rfl ?_
  refine g_aload_n 15 hM rfl rfl rfl ?_
  refine g_getI 18 53 (gI (sI s 177 53 ((gI s 177 53) - 1)) 177 53) hM rfl rfl rfl rfl rfl rfl rfl ?_
  obtain ⟨hg1, h⟩ := zg_some h
  refine g_iaload 19 (gI s 203 (gI (sI s 177 53 ((gI s 177 53) - 1)) 177 53)) hM rfl rfl rfl rfl hg1 rfl ?_
  refine g_istore_n 20 hM rfl rfl rfl ?_
  refine g_iload_n 21 hM rfl rfl rfl ?_
  refine g_iconst 22 hM rfl rfl ?_
  obtain ⟨hg2, h⟩ := zg_some h
  by_cases hc3 : v1 = 5
  · rw [if_pos hc3] at h
    refine g_ic_ne_f 25 35 hM rfl rfl rfl hg2 (zR_lit rfl) hc3 ?_
    refine g_aload_n 26 hM rfl rfl rfl ?_
    refine g_iload_n 27 hM rfl rfl rfl ?_
    refine g_i2l 28 hM rfl rfl (zR_gI _ _ _) ?_
    refine g_lconst 29 (0#64) hM rfl rfl rfl ?_
    obtain ⟨r5, s6, h4, h⟩ := zb_some h
    refine g_call 32 _ [] hM rfl rfl rfl rfl rfl (xM_203 _) rfl (z_rcv2 rfl) rfl rfl (by omega) (w_203 (by omega) h4) rfl ?_
    refine g_goto 59 hM rfl rfl ?_
    cases h
    exact g_ret hM rfl rfl
  · rw [if_neg hc3] at h
    refine g_ic_ne_t 35 hM rfl rfl hg2 (zR_lit rfl) hc3 ?_
    refine g_aload_n 36 hM rfl rfl rfl ?_
    refine g_iload_n 37 hM rfl rfl rfl ?_
    refine g_iload_n 38 hM rfl rfl rfl ?_
    obtain ⟨r8, h7, h⟩ := zo_some h
    refine g_call 41 _ [.int (Int32.ofInt r8), .int (Int32.ofInt v1), .ref 177] hM rfl rfl rfl rfl rfl (xM_204 _) rfl rfl rfl rfl (by omega) (w_204 (by omega) h7) rfl ?_
    refine g_aload_n 42 hM rfl rfl rfl ?_
    refine g_getF 45 hM rfl rfl rfl rfl rfl ?_
    refine g_aload_n 46 hM rfl rfl rfl ?_
    refine g_getI 49 53 (gI (sI s 177 53 ((gI s 177 53) - 1)) 177 53) hM rfl rfl rfl rfl rfl rfl rfl ?_
    refine g_iaload 50 (gI s 202 (gI (sI s 177 53 ((gI s 177 53) - 1)) 177 53)) hM rfl rfl rfl rfl hg1 rfl ?_
    obtain ⟨r10, h9, h⟩ := zo_some h
    refine g_call 53 _ [.int (Int32.ofInt r10), .int (Int32.ofInt r8), .int (Int32.ofInt v1), .ref 177] hM rfl rfl rfl rfl rfl (xM_204 _) rfl rfl rfl rfl (by omega) (w_204 (by omega) h9) rfl ?_
    obtain ⟨r12, h11, h⟩ := zo_some h
    refine g_call 56 _ [.int (Int32.ofInt r12), .ref 177] hM rfl rfl rfl rfl rfl (xM_205 _) rfl rfl rfl rfl (by omega) (w_205 (by omega) h11) rfl ?_
    obtain ⟨r14, s15, h13, h⟩ := zb_some h
    refine g_call 59 _ [] hM rfl rfl rfl rfl rfl (xM_206 _) rfl (z_rcv2 rfl) rfl rfl (by omega) (w_206 (by omega) h13) rfl ?_
    cases h
    exact g_ret hM rfl rfl
/-- RelationFinderModel.loop(II)I -/
def f_200 (v1 : Int) (v2 : Int) (s : zS) : Option (Int × zS) := zg (0 ≤ (gI (sI s 177 46 ((gI s 177 46) - 1)) 177 46) ∧ (gI (sI s 177 46 ((gI s 177 46) - 1)) 177 46) < 128) (zg (0 ≤ (gI s 177 53) ∧ (gI s 177 53) < 32) (zo (f_201 ((BitVec.toNat (gJ s 198 (gI (sI s 177 46 ((gI s 177 46) - 1)) 177 46)) : Nat) : Int) 0 (sI (sI (sI (sI s 177 46 ((gI s 177 46) - 1)) 202 (gI s 177 53) ((BitVec.toNat (gJ s 198 (gI (sI s 177 46 ((gI s 177 46) - 1)) 177 46)) : Nat) : Int)) 203 (gI s 177 53) 0) 200 (gI s 177 53) (v2 + 1))) (fun r4 => zg (0 ≤ ((gI (sI (sI (sI (sI (sI (sI s 177 46 ((gI s 177 46) - 1)) 202 (gI s 177 53) ((BitVec.toNat (gJ s 198 (gI (sI s 177 46 ((gI s 177 46) - 1)) 177 46)) : Nat) : Int)) 203 (gI s 177 53) 0) 200 (gI s 177 53) (v2 + 1)) 201 (gI s 177 53) r4) 177 53 ((gI s 177 53) + 1)) 177 53) - 1) ∧ ((gI (sI (sI (sI (sI (sI (sI s 177 46 ((gI s 177 46) - 1)) 202 (gI s 177 53) ((BitVec.toNat (gJ s 198 (gI (sI s 177 46 ((gI s 177 46) - 1)) 177 46)) : Nat) : Int)) 203 (gI s 177 53) 0) 200 (gI s 177 53) (v2 + 1)) 201 (gI s 177 53) r4) 177 53 ((gI s 177 53) + 1)) 177 53) - 1) < 32) (if (gI (sI (sI (sI (sI (sI s 177 46 ((gI s 177 46) - 1)) 202 (gI s 177 53) ((BitVec.toNat (gJ s 198 (gI (sI s 177 46 ((gI s 177 46) - 1)) 177 46)) : Nat) : Int)) 203 (gI s 177 53) 0) 200 (gI s 177 53) (v2 + 1)) 201 (gI s 177 53) r4) 201 ((gI (sI (sI (sI (sI (sI (sI s 177 46 ((gI s 177 46) - 1)) 202 (gI s 177 53) ((BitVec.toNat (gJ s 198 (gI (sI s 177 46 ((gI s 177 46) - 1)) 177 46)) : Nat) : Int)) 203 (gI s 177 53) 0) 200 (gI s 177 53) (v2 + 1)) 201 (gI s 177 53) r4) 177 53 ((gI s 177 53) + 1)) 177 53) - 1)) < (gI s 177 1) then (some ((v2 + 1), (sI (sI (sI (sI (sI (sI s 177 46 ((gI s 177 46) - 1)) 202 (gI s 177 53) ((BitVec.toNat (gJ s 198 (gI (sI s 177 46 ((gI s 177 46) - 1)) 177 46)) : Nat) : Int)) 203 (gI s 177 53) 0) 200 (gI s 177 53) (v2 + 1)) 201 (gI s 177 53) r4) 177 53 ((gI s 177 53) + 1)))) else (zg (0 ≤ ((320 * v1) + v2) ∧ ((320 * v1) + v2) < 5760) (zg (0 ≤ (((320 * v1) + (gI s 185 ((320 * v1) + v2))) - 1) ∧ (((320 * v1) + (gI s 185 ((320 * v1) + v2))) - 1) < 5760) (zb (f_202 (gI s 185 (((320 * v1) + (gI s 185 ((320 * v1) + v2))) - 1)) (sI (sI (sI (sI (sI (sI s 177 46 ((gI s 177 46) - 1)) 202 (gI s 177 53) ((BitVec.toNat (gJ s 198 (gI (sI s 177 46 ((gI s 177 46) - 1)) 177 46)) : Nat) : Int)) 203 (gI s 177 53) 0) 200 (gI s 177 53) (v2 + 1)) 201 (gI s 177 53) r4) 177 53 ((gI s 177 53) + 1))) (fun r10 s11 => some ((gI s 185 ((320 * v1) + v2)), s11)))))))))
theorem w_200 {k : zK} {d : Nat} {x : am_H} {v1 : Int} {v2 : Int} {s : zS} {q : (Int × zS)} (hd : 3 ≤ d) (h : f_200 v1 v2 s = some q) : zgo k d 200 (0, [(0, .ref 177), (1, .int (Int32.ofInt v1)), (2, .int (Int32.ofInt v2))], []) (hp s ++ x) (.inl (some (.int (Int32.ofInt q.1))), hp q.2 ++ x) := by
  unfold f_200 at h
  have hM := xM_200 k.1
  refine g_aload_n 1 hM rfl rfl rfl ?_
  refine g_dup 2 hM rfl rfl rfl ?_
  refine g_getI 5 46 (gI s 177 46) hM rfl rfl rfl rfl rfl rfl rfl ?_
  refine g_iconst 6 hM rfl rfl ?_
  refine g_isub 7 hM rfl rfl ?_
  refine g_putI 10 46 hM rfl rfl rfl rfl rfl rfl rfl ?_
  refine g_aload_n 11 hM rfl rfl rfl ?_
  refine g_getF 14 hM rfl rfl rfl rfl rfl ?_
  refine g_aload_n 15 hM rfl rfl rfl ?_
  refine g_getI 18 46 (gI (sI s 177 46 ((gI s 177 46) - 1)) 177 46) hM rfl rfl rfl rfl rfl rfl rfl ?_
  obtain ⟨hg1, h⟩ := zg_some h
  refine g_laload 19 (gJ s 198 (gI (sI s 177 46 ((gI s 177 46) - 1)) 177 46)) hM rfl rfl rfl rfl hg1 rfl ?_
  refine g_l2i 20 hM rfl rfl ?_
  refine g_istore_n 21 hM rfl rfl rfl ?_
  refine g_aload_n 22 hM rfl rfl rfl ?_
  refine g_getF 25 hM rfl rfl rfl rfl rfl ?_
  refine g_aload_n 26 hM rfl rfl rfl ?_
  refine g_getI 29 53 (gI s 177 53) hM rfl rfl rfl rfl rfl rfl rfl ?_
  refine g_iload_n 30 hM rfl rfl rfl ?_
  obtain ⟨hg2, h⟩ := zg_some h
  refine g_iastore 31 hM rfl rfl rfl rfl hg2 ?_
  refine g_aload_n 32 hM rfl rfl rfl ?_
  refine g_getF 35 hM rfl rfl rfl rfl rfl ?_
  refine g_aload_n 36 hM rfl rfl rfl ?_
  refine g_getI 39 53 (gI s 177 53) hM rfl rfl rfl rfl rfl rfl rfl ?_
  refine g_iconst 40 hM rfl rfl ?_
  refine g_iastore 41 hM rfl rfl rfl rfl hg2 ?_
  refine g_aload_n 42 hM rfl rfl rfl ?_
  refine g_getF 45 hM rfl rfl rfl rfl rfl ?_
  refine g_aload_n 46 hM rfl rfl rfl ?_
  refine g_getI 49 53 (gI s 177 53) hM rfl rfl rfl rfl rfl rfl rfl ?_
  refine g_iload_n 50 hM rfl rfl rfl ?_
  refine g_iconst 51 hM rfl rfl ?_
  refine g_iadd 52 hM rfl rfl ?_
  refine g_iastore 53 hM rfl rfl rfl rfl hg2 ?_
  refine g_aload_n 54 hM rfl rfl rfl ?_
  refine g_getF 57 hM rfl rfl rfl rfl rfl ?_
  refine g_aload_n 58 hM rfl rfl rfl ?_
  refine g_getI 61 53 (gI s 177 53) hM rfl rfl rfl rfl rfl rfl rfl ?_
  refine g_aload_n 62 hM rfl rfl rfl ?_
  refine g_iload_n 63 hM rfl rfl rfl ?_
  refine g_iconst 64 hM rfl rfl ?_
  obtain ⟨r4, h3, h⟩ := zo_some h
  refine g_call 67 _ [.int (Int32.ofInt r4), .int (Int32.ofInt (gI s 177 53)), .ref 201] hM rfl rfl rfl rfl rfl (xM_201 _) rfl (z_rcv2 rfl) rfl rfl (by omega) (w_201 (by omega) h3) rfl ?_
  refine g_iastore 68 hM rfl rfl rfl rfl hg2 ?_
  refine g_aload_n 69 hM rfl rfl rfl ?_
  refine g_dup 70 hM rfl rfl rfl ?_
  refine g_getI 73 53 (gI s 177 53) hM rfl rfl rfl rfl rfl rfl rfl ?_
  refine g_iconst 74 hM rfl rfl ?_
  refine g_iadd 75 hM rfl rfl ?_
  refine g_putI 78 53 hM rfl rfl rfl rfl rfl rfl rfl ?_
  refine g_aload_n 79 hM rfl rfl rfl ?_
  refine g_getF 82 hM rfl rfl rfl rfl rfl ?_
  refine g_aload_n 83 hM rfl rfl rfl ?_
  refine g_getI 86 53 (gI (sI (sI (sI (sI (sI (sI s 177 46 ((gI s 177 46) - 1)) 202 (gI s 177 53) ((BitVec.toNat (gJ s 198 (gI (sI s 177 46 ((gI s 177 46) - 1)) 177 46)) : Nat) : Int)) 203 (gI s 177 53) 0) 200 (gI s 177 53) (v2 + 1)) 201 (gI s 177 53) r4) 177 53 ((gI s 177 53) + 1)) 177 53) hM rfl rfl rfl rfl rfl rfl rfl ?_
  refine g_iconst 87 hM rfl rfl ?_
  refine g_isub 88 hM rfl rfl ?_
  obtain ⟨hg5, h⟩ := zg_some h
  refine g_iaload 89 (gI (sI (sI (sI (sI (sI s 177 46 ((gI s 177 46) - 1)) 202 (gI s 177 53) ((BitVec.toNat (gJ s 198 (gI (sI s 177 46 ((gI s 177 46) - 1)) 177 46)) : Nat) : Int)) 203 (gI s 177 53) 0) 200 (gI s 177 53) (v2 + 1)) 201 (gI s 177 53) r4) 201 ((gI (sI (sI (sI (sI (sI (sI s 177 46 ((gI s 177 46) - 1)) 202 (gI s 177 53) ((BitVec.toNat (gJ s 198 (gI (sI s 177 46 ((gI s 177 46) - 1)) 177 46)) : Nat) : Int)) 203 (gI s 177 53) 0) 200 (gI s 177 53) (v2 + 1)) 201 (gI s 177 53) r4) 177 53 ((gI s 177 53) + 1)) 177 53) - 1)) hM rfl rfl rfl rfl hg5 rfl ?_
  refine g_aload_n 90 hM rfl rfl rfl ?_
  refine g_getI 93 1 (gI s 177 1) hM rfl rfl rfl rfl rfl rfl rfl ?_
  by_cases hc6 : (gI (sI (sI (sI (sI (sI s 177 46 ((gI s 177 46) - 1)) 202 (gI s 177 53) ((BitVec.toNat (gJ s 198 (gI (sI s 177 46 ((gI s 177 46) - 1)) 177 46)) : Nat) : Int)) 203 (gI s 177 53) 0) 200 (gI s 177 53) (v2 + 1)) 201 (gI s 177 53) r4) 201 ((gI (sI (sI (sI (sI (sI (sI s 177 46 ((gI s 177 46) - 1)) 202 (gI s 177 53) ((BitVec.toNat (gJ s 198 (gI (sI s 177 46 ((gI s 177 46) - 1)) 177 46)) : Nat) : Int)) 203 (gI s 177 53) 0) 200 (gI s 177 53) (v2 + 1)) 201 (gI s 177 53) r4) 177 53 ((gI s 177 53) + 1)) 177 53) - 1)) < (gI s 177 1)
  · rw [if_pos hc6] at h
    refine g_ic_ge_f 96 100 hM rfl rfl rfl (zR_gI _ _ _) (zR_gI _ _ _) hc6 ?_
    refine g_iload_n 97 hM rfl rfl rfl ?_
    refine g_iconst 98 hM rfl rfl ?_
    refine g_iadd 99 hM rfl rfl ?_
    cases h
    exact g_ret hM rfl rfl
  · rw [if_neg hc6] at h
    refine g_ic_ge_t 100 hM rfl rfl (zR_gI _ _ _) (zR_gI _ _ _) hc6 ?_
    refine g_aload_n 101 hM rfl rfl rfl ?_
    refine g_getF 104 hM rfl rfl rfl rfl rfl ?_
    refine g_sipush 107 hM rfl rfl rfl ?_
    refine g_iload_n 108 hM rfl rfl rfl ?_
    refine g_imul 109 hM rfl rfl ?_
    refine g_iload_n 110 hM rfl rfl rfl ?_
    refine g_iadd 111 hM rfl rfl ?_
    obtain ⟨hg7, h⟩ := zg_some h
    refine g_iaload 112 (gI s 185 ((320 * v1) + v2)) hM rfl rfl rfl rfl hg7 rfl ?_
    refine g_istore 114 hM rfl rfl rfl ?_
    refine g_aload_n 115 hM rfl rfl rfl ?_
    refine g_aload_n 116 hM rfl rfl rfl ?_
    refine g_getF 119 hM rfl rfl rfl rfl rfl ?_
    refine g_sipush 122 hM rfl rfl rfl ?_
    refine g_iload_n 123 hM rfl rfl rfl ?_
    refine g_imul 124 hM rfl rfl ?_
    refine g_iload 126 hM rfl rfl rfl ?_
    refine g_iadd 127 hM rfl rfl ?_
    refine g_iconst 128 hM rfl rfl ?_
    refine g_isub 129 hM rfl rfl ?_
    obtain ⟨hg8, h⟩ := zg_some h
    refine g_iaload 130 (gI s 185 (((320 * v1) + (gI s 185 ((320 * v1) + v2))) - 1)) hM rfl rfl rfl rfl hg8 rfl ?_
    obtain ⟨r10, s11, h9, h⟩ := zb_some h
    refine g_call 133 _ [] hM rfl rfl rfl rfl rfl (xM_202 _) rfl (z_rcv2 rfl) rfl rfl (by omega) (w_202 (by omega) h9) rfl ?_
    refine g_iload 135 hM rfl rfl rfl ?_
    cases h
    exact g_ret hM rfl rfl
def j_207_60 (v1 : Int) (v2 : Int) (v3 : Int) (t1 : Int) (t2 : Int) (s : zS) : Option (Int × zS) := zg (0 ≤ t1 ∧ t1 < 32) (zg (0 ≤ v3 ∧ v3 < 32) (zo (f_201 (gI s 202 v3) ((gI s 201 v3) + 1) (sI s 203 t1 t2)) (fun r4 => if (gI (sI (sI s 203 t1 t2) 201 v3 r4) 201 v3) < (gI s 177 1) then (some ((gI s 200 v3), (sI (sI s 203 t1 t2) 201 v3 r4))) else (zb (f_202 v1 (sI (sI s 203 t1 t2) 201 v3 r4)) (fun r7 s8 => some ((v2 + 1), s8))))))
theorem wj_207_60 {k : zK} {d : Nat} {x : am_H} {v1 : Int} {v2 : Int} {v3 : Int} {t1 : Int} {t2 : Int} {s : zS} {q : (Int × zS)} (hd : 3 ≤ d) (h : j_207_60 v1 v2 v3 t1 t2 s = some q) : zgo k d 207 (60, [(0, .ref 177), (1, .int (Int32.ofInt v1)), (2, .int (Int32.ofInt v2)), (3, .int (Int32.ofInt v3))], [.int (Int32.ofInt t2), .int (Int32.ofInt t1), .ref 203]) (hp s ++ x) (.inl (some (.int (Int32.ofInt q.1))), hp q.2 ++ x) := by
  unfold j_207_60 at h
  have hM := xM_207 k.1
  obtain ⟨hg1, h⟩ := zg_some h
  refine g_iastore 61 hM rfl rfl rfl rfl hg1 ?_
  refine g_aload_n 62 hM rfl rfl rfl ?_
  refine g_getF 65 hM rfl rfl rfl rfl rfl ?_
  refine g_iload_n 66 hM rfl rfl rfl ?_
  refine g_aload_n 67 hM rfl rfl rfl ?_
  refine g_aload_n 68 hM rfl rfl rfl ?_
  refine g_getF 71 hM rfl rfl rfl rfl rfl ?_
  refine g_iload_n 72 hM rfl rfl rfl ?_
  obtain ⟨hg2, h⟩ := zg_some h
  refine g_iaload 73 (gI s 202 v3) hM rfl rfl rfl rfl hg2 rfl ?_
  refine g_aload_n 74 hM rfl rfl rfl ?_
  refine g_getF 77 hM rfl rfl rfl rfl rfl ?_
  refine g_iload_n 78 hM rfl rfl rfl ?_
  refine g_iaload 79 (gI s 201 v3) hM rfl rfl rfl rfl hg2 rfl ?_
  refine g_iconst 80 hM rfl rfl ?_
  refine g_iadd 81 hM rfl rfl ?_
  obtain ⟨r4, h3, h⟩ := zo_some h
  refine g_call 84 _ [.int (Int32.ofInt r4), .int (Int32.ofInt v3), .ref 201] hM rfl rfl rfl rfl rfl (xM_201 _) rfl (z_rcv2 rfl) rfl rfl (by omega) (w_201 (by omega) h3) rfl ?_
  refine g_iastore 85 hM rfl rfl rfl rfl hg2 ?_
  refine g_aload_n 86 hM rfl rfl rfl ?_
  refine g_getF 89 hM rfl rfl rfl rfl rfl ?_
  refine g_iload_n 90 hM rfl rfl rfl ?_
  refine g_iaload 91 (gI (sI (sI s 203 t1 t2) 201 v3 r4) 201 v3) hM rfl rfl rfl rfl hg2 rfl ?_
  refine g_aload_n 92 hM rfl rfl rfl ?_
  refine g_getI 95 1 (gI s 177 1) hM rfl rfl rfl rfl rfl rfl rfl ?_
  by_cases hc5 : (gI (sI (sI s 203 t1 t2) 201 v3 r4) 201 v3) < (gI s 177 1)
  · rw [if_pos hc5] at h
    refine g_ic_ge_f 98 105 hM rfl rfl rfl (zR_gI _ _ _) (zR_gI _ _ _) hc5 ?_
    refine g_aload_n 99 hM rfl rfl rfl ?_
    refine g_getF 102 hM rfl rfl rfl rfl rfl ?_
    refine g_iload_n 103 hM rfl rfl rfl ?_
    refine g_iaload 104 (gI s 200 v3) hM rfl rfl rfl rfl hg2 rfl ?_
    cases h
    exact g_ret hM rfl rfl
  · rw [if_neg hc5] at h
    refine g_ic_ge_t 105 hM rfl rfl (zR_gI _ _ _) (zR_gI _ _ _) hc5 ?_
    refine g_aload_n 106 hM rfl rfl rfl ?_
    refine g_iload_n 107 hM rfl rfl rfl ?_
    obtain ⟨r7, s8, h6, h⟩ := zb_some h
    refine g_call 110 _ [] hM rfl rfl rfl rfl rfl (xM_202 _) rfl (z_rcv2 rfl) rfl rfl (by omega) (w_202 (by omega) h6) rfl ?_
    refine g_iload_n 111 hM rfl rfl rfl ?_
    refine g_iconst 112 hM rfl rfl ?_
    refine g_iadd 113 hM rfl rfl ?_
    cases h
    exact g_ret hM rfl rfl
/-- RelationFinderModel.loopOn(II)I -/
def f_207 (v1 : Int) (v2 : Int) (s : zS) : Option (Int × zS) := zg (0 ≤ (gI (sI s 177 46 ((gI s 177 46) - 1)) 177 46) ∧ (gI (sI s 177 46 ((gI s 177 46) - 1)) 177 46) < 128) (if (gJ s 198 (gI (sI s 177 46 ((gI s 177 46) - 1)) 177 46)) = (1#64) then (zg (0 ≤ ((gI s 177 53) - 1) ∧ ((gI s 177 53) - 1) < 32) (j_207_60 v1 v2 ((gI s 177 53) - 1) ((gI s 177 53) - 1) (zor (gI s 203 ((gI s 177 53) - 1)) (1 * 2 ^ zsh (gI s 201 ((gI s 177 53) - 1)))) (sI s 177 46 ((gI s 177 46) - 1)))) else (zg (0 ≤ ((gI s 177 53) - 1) ∧ ((gI s 177 53) - 1) < 32) (j_207_60 v1 v2 ((gI s 177 53) - 1) ((gI s 177 53) - 1) (gI s 203 ((gI s 177 53) - 1)) (sI s 177 46 ((gI s 177 46) - 1)))))
theorem w_207 {k : zK} {d : Nat} {x : am_H} {v1 : Int} {v2 : Int} {s : zS} {q : (Int × zS)} (hd : 3 ≤ d) (h : f_207 v1 v2 s = some q) : zgo k d 207 (0, [(0, .ref 177), (1, .int (Int32.ofInt v1)), (2, .int (Int32.ofInt v2))], []) (hp s ++ x) (.inl (some (.int (Int32.ofInt q.1))), hp q.2 ++ x) := by
  unfold f_207 at h
  have hM := xM_207 k.1
  refine g_aload_n 1 hM rfl rfl rfl ?_
  refine g_getI 4 53 (gI s 177 53) hM rfl rfl rfl rfl rfl rfl rfl ?_
  refine g_iconst 5 hM rfl rfl ?_
  refine g_isub 6 hM rfl rfl ?_
  refine g_istore_n 7 hM rfl rfl rfl ?_
  refine g_aload_n 8 hM rfl rfl rfl ?_
  refine g_dup 9 hM rfl rfl rfl ?_
  refine g_getI 12 46 (gI s 177 46) hM rfl rfl rfl rfl rfl rfl rfl ?_
  refine g_iconst 13 hM rfl rfl ?_
  refine g_isub 14 hM rfl rfl ?_
  refine g_putI 17 46 hM rfl rfl rfl rfl rfl rfl rfl ?_
  refine g_aload_n 18 hM rfl rfl rfl ?_
  refine g_getF 21 hM rfl rfl rfl rfl rfl ?_
  refine g_iload_n 22 hM rfl rfl rfl ?_
  refine g_aload_n 23 hM rfl rfl rfl ?_
  refine g_getF 26 hM rfl rfl rfl rfl rfl ?_
  refine g_aload_n 27 hM rfl rfl rfl ?_
  refine g_getI 30 46 (gI (sI s 177 46 ((gI s 177 46) - 1)) 177 46) hM rfl rfl rfl rfl rfl rfl rfl ?_
  obtain ⟨hg1, h⟩ := zg_some h
  refine g_laload 31 (gJ s 198 (gI (sI s 177 46 ((gI s 177 46) - 1)) 177 46)) hM rfl rfl rfl rfl hg1 rfl ?_
  refine g_lconst 32 (1#64) hM rfl rfl rfl ?_
  by_cases hc2 : (gJ s 198 (gI (sI s 177 46 ((gI s 177 46) - 1)) 177 46)) = (1#64)
  · rw [if_pos hc2] at h
    refine g_lc_ne_f 33 36 54 hM rfl rfl rfl rfl rfl hc2 ?_
    refine g_aload_n 37 hM rfl rfl rfl ?_
    refine g_getF 40 hM rfl rfl rfl rfl rfl ?_
    refine g_iload_n 41 hM rfl rfl rfl ?_
    obtain ⟨hg3, h⟩ := zg_some h
    refine g_iaload 42 (gI s 203 ((gI s 177 53) - 1)) hM rfl rfl rfl rfl hg3 rfl ?_
    refine g_iconst 43 hM rfl rfl ?_
    refine g_aload_n 44 hM rfl rfl rfl ?_
    refine g_getF 47 hM rfl rfl rfl rfl rfl ?_
    refine g_iload_n 48 hM rfl rfl rfl ?_
    refine g_iaload 49 (gI s 201 ((gI s 177 53) - 1)) hM rfl rfl rfl rfl hg3 rfl ?_
    refine g_ishl 50 hM rfl rfl ?_
    refine g_ior 51 hM rfl rfl ?_
    refine g_goto 60 hM rfl rfl ?_
    refine g_lv [(0, .ref 177), (1, .int (Int32.ofInt v1)), (2, .int (Int32.ofInt v2)), (3, .int (Int32.ofInt ((gI s 177 53) - 1)))] rfl ⟨rfl, rfl, rfl, rfl, trivial⟩ ?_
    exact wj_207_60 (by omega) h
  · rw [if_neg hc2] at h
    refine g_lc_ne_t 33 54 hM rfl rfl rfl rfl hc2 ?_
    refine g_aload_n 55 hM rfl rfl rfl ?_
    refine g_getF 58 hM rfl rfl rfl rfl rfl ?_
    refine g_iload_n 59 hM rfl rfl rfl ?_
    obtain ⟨hg4, h⟩ := zg_some h
    refine g_iaload 60 (gI s 203 ((gI s 177 53) - 1)) hM rfl rfl rfl rfl hg4 rfl ?_
    refine g_lv [(0, .ref 177), (1, .int (Int32.ofInt v1)), (2, .int (Int32.ofInt v2)), (3, .int (Int32.ofInt ((gI s 177 53) - 1)))] rfl ⟨rfl, rfl, rfl, rfl, trivial⟩ ?_
    exact wj_207_60 (by omega) h
def G_217_24 (k : zK) (d : Nat) (x : am_H) (r : am_A × am_H) (w2 : BitVec 64) (s : zS) (e : (BitVec 64 × Int)) : Prop := zgo k d 217 (24, [(0, .ref 177), (2, .long (Int64.ofBitVec w2)), (4, .long (Int64.ofBitVec e.1)), (6, .int (Int32.ofInt e.2))], []) (hp s ++ x) r
def K_217_24 (k : zK) (d : Nat) (x : am_H) (r : am_A × am_H) (w2 : BitVec 64) (s : zS) (t : (BitVec 64)) : Prop := zgo k d 217 (86, [(0, .ref 177), (4, .long (Int64.ofBitVec t))], []) (hp s ++ x) r
/-- RelationFinderModel.bit(JJI)Z -/
def f_211 (w0 : BitVec 64) (w2 : BitVec 64) (v4 : Int) : Option Int := zg (zR v4) (if v4 < 64 then (if ((w0 >>> zshl v4) &&& (1#64)) = (1#64) then (some 1) else (some 0)) else (zg (zR (v4 - 64)) (if ((w2 >>> zshl (v4 - 64)) &&& (1#64)) = (1#64) then (some 1) else (some 0))))
theorem w_211 {k : zK} {d : Nat} {x : am_H} {w0 : BitVec 64} {w2 : BitVec 64} {v4 : Int} {s : zS} {q : Int} (hd : 0 ≤ d) (h : f_211 w0 w2 v4 = some q) : zgo k d 211 (0, [(0, .long (Int64.ofBitVec w0)), (2, .long (Int64.ofBitVec w2)), (4, .int (Int32.ofInt v4))], []) (hp s ++ x) (.inl (some (.int (Int32.ofInt q))), hp s ++ x) := by
  unfold f_211 at h
  have hM := xM_211 k.1
  refine g_iload 2 hM rfl rfl rfl ?_
  refine g_bipush 4 hM rfl rfl rfl ?_
  obtain ⟨hg1, h⟩ := zg_some h
  by_cases hc2 : v4 < 64
  · rw [if_pos hc2] at h
    refine g_ic_ge_f 7 14 hM rfl rfl rfl hg1 (zR_lit rfl) hc2 ?_
    refine g_lload_n 8 hM rfl rfl rfl ?_
    refine g_iload 10 hM rfl rfl rfl ?_
    refine g_lushr 11 hM rfl rfl hg1 ?_
    refine g_goto 21 hM rfl rfl ?_
    refine g_lconst 22 (1#64) hM rfl rfl rfl ?_
    refine g_land 23 hM rfl rfl ?_
    refine g_lconst 24 (1#64) hM rfl rfl rfl ?_
    by_cases hc3 : ((w0 >>> zshl v4) &&& (1#64)) = (1#64)
    · rw [if_pos hc3] at h
      refine g_lc_ne_f 25 28 32 hM rfl rfl rfl rfl rfl hc3 ?_
      refine g_iconst 29 hM rfl rfl ?_
      refine g_goto 33 hM rfl rfl ?_
      cases h
      exact g_ret hM rfl rfl
    · rw [if_neg hc3] at h
      refine g_lc_ne_t 25 32 hM rfl rfl rfl rfl hc3 ?_
      refine g_iconst 33 hM rfl rfl ?_
      cases h
      exact g_ret hM rfl rfl
  · rw [if_neg hc2] at h
    refine g_ic_ge_t 14 hM rfl rfl hg1 (zR_lit rfl) hc2 ?_
    refine g_lload_n 15 hM rfl rfl rfl ?_
    refine g_iload 17 hM rfl rfl rfl ?_
    refine g_bipush 19 hM rfl rfl rfl ?_
    refine g_isub 20 hM rfl rfl ?_
    obtain ⟨hg4, h⟩ := zg_some h
    refine g_lushr 21 hM rfl rfl hg4 ?_
    refine g_lconst 22 (1#64) hM rfl rfl rfl ?_
    refine g_land 23 hM rfl rfl ?_
    refine g_lconst 24 (1#64) hM rfl rfl rfl ?_
    by_cases hc5 : ((w2 >>> zshl (v4 - 64)) &&& (1#64)) = (1#64)
    · rw [if_pos hc5] at h
      refine g_lc_ne_f 25 28 32 hM rfl rfl rfl rfl rfl hc5 ?_
      refine g_iconst 29 hM rfl rfl ?_
      refine g_goto 33 hM rfl rfl ?_
      cases h
      exact g_ret hM rfl rfl
    · rw [if_neg hc5] at h
      refine g_lc_ne_t 25 32 hM rfl rfl rfl rfl hc5 ?_
      refine g_iconst 33 hM rfl rfl ?_
      cases h
      exact g_ret hM rfl rfl
def b_217_24 (w2 : BitVec 64) (s : zS) (w4 : BitVec 64) (v6 : Int) : Option ((BitVec 64 × Int) ⊕ (BitVec 64)) := zg (zR v6) (zg (zR ((gI s 177 1) * (gI s 177 1))) (if v6 < ((gI s 177 1) * (gI s 177 1)) then (zo (f_211 w2 (0#64) v6) (fun r5 => zg (zR r5) (if r5 = 0 then (some (.inl (w4, (v6 + 1)))) else (zg (0 ≤ v6 ∧ zR v6 ∧ 0 < (gI s 177 1) ∧ zR (gI s 177 1)) (zg (zR (((v6 % (gI s 177 1)) * (gI s 177 1)) + (v6 / (gI s 177 1)))) (some (.inl ((w4 ||| ((1#64) <<< zshl (((v6 % (gI s 177 1)) * (gI s 177 1)) + (v6 / (gI s 177 1))))), (v6 + 1))))))))) else (some (.inr w4))))
theorem wb_217_24 {k : zK} {d : Nat} {x : am_H} {r : am_A × am_H} {w2 : BitVec 64} {w4 : BitVec 64} {v6 : Int} {s : zS} {q : (BitVec 64 × Int) ⊕ (BitVec 64)} (hd : 1 ≤ d) (h : b_217_24 w2 s w4 v6 = some q) (hK : Sum.elim (G_217_24 k d x r w2 s) (K_217_24 k d x r w2 s) q) : G_217_24 k d x r w2 s (w4, v6) := by
  unfold b_217_24 at h
  have hM := xM_217 k.1
  show zgo k d 217 (24, [(0, .ref 177), (2, .long (Int64.ofBitVec w2)), (4, .long (Int64.ofBitVec w4)), (6, .int (Int32.ofInt v6))], []) (hp s ++ x) r
  refine g_iload 26 hM rfl rfl rfl ?_
  refine g_aload_n 27 hM rfl rfl rfl ?_
  refine g_getI 30 1 (gI s 177 1) hM rfl rfl rfl rfl rfl rfl rfl ?_
  refine g_aload_n 31 hM rfl rfl rfl ?_
  refine g_getI 34 1 (gI s 177 1) hM rfl rfl rfl rfl rfl rfl rfl ?_
  refine g_imul 35 hM rfl rfl ?_
  obtain ⟨hg1, h⟩ := zg_some h
  obtain ⟨hg2, h⟩ := zg_some h
  by_cases hc3 : v6 < ((gI s 177 1) * (gI s 177 1))
  · rw [if_pos hc3] at h
    refine g_ic_ge_f 38 86 hM rfl rfl rfl hg1 hg2 hc3 ?_
    refine g_lload_n 39 hM rfl rfl rfl ?_
    refine g_lconst 40 (0#64) hM rfl rfl rfl ?_
    refine g_iload 42 hM rfl rfl rfl ?_
    obtain ⟨r5, h4, h⟩ := zo_some h
    refine g_call 45 _ [.int (Int32.ofInt r5)] hM rfl rfl rfl rfl rfl (xM_211 _) rfl rfl rfl rfl (by omega) (w_211 (by omega) h4) rfl ?_
    obtain ⟨hg6, h⟩ := zg_some h
    by_cases hc7 : r5 = 0
    · rw [if_pos hc7] at h
      refine g_if_eq_t 76 hM rfl rfl hg6 hc7 ?_
      refine g_lload 78 hM rfl rfl rfl ?_
      refine g_lstore 80 hM rfl rfl rfl ?_
      refine g_iinc 83 hM rfl rfl rfl rfl ?_
      refine g_goto 24 hM rfl rfl ?_
      cases h
      exact g_lv [(0, .ref 177), (2, .long (Int64.ofBitVec w2)), (4, .long (Int64.ofBitVec w4)), (6, .int (Int32.ofInt (v6 + 1)))] rfl ⟨rfl, rfl, rfl, rfl, trivial⟩ hK
    · rw [if_neg hc7] at h
      refine g_if_eq_f 48 76 hM rfl rfl rfl hg6 hc7 ?_
      refine g_lload 50 hM rfl rfl rfl ?_
      refine g_lconst 51 (1#64) hM rfl rfl rfl ?_
      refine g_iload 53 hM rfl rfl rfl ?_
      refine g_aload_n 54 hM rfl rfl rfl ?_
      refine g_getI 57 1 (gI s 177 1) hM rfl rfl rfl rfl rfl rfl rfl ?_
      obtain ⟨hg8, h⟩ := zg_some h
      refine g_irem 58 hM rfl rfl hg8 ?_
      refine g_aload_n 59 hM rfl rfl rfl ?_
      refine g_getI 62 1 (gI s 177 1) hM rfl rfl rfl rfl rfl rfl rfl ?_
      refine g_imul 63 hM rfl rfl ?_
      refine g_iload 65 hM rfl rfl rfl ?_
      refine g_aload_n 66 hM rfl rfl rfl ?_
      refine g_getI 69 1 (gI s 177 1) hM rfl rfl rfl rfl rfl rfl rfl ?_
      refine g_idiv 70 hM rfl rfl hg8 ?_
      refine g_iadd 71 hM rfl rfl ?_
      obtain ⟨hg9, h⟩ := zg_some h
      refine g_lshl 72 hM rfl rfl hg9 ?_
      refine g_lor 73 hM rfl rfl ?_
      refine g_goto 78 hM rfl rfl ?_
      refine g_lstore 80 hM rfl rfl rfl ?_
      refine g_iinc 83 hM rfl rfl rfl rfl ?_
      refine g_goto 24 hM rfl rfl ?_
      cases h
      exact g_lv [(0, .ref 177), (2, .long (Int64.ofBitVec w2)), (4, .long (Int64.ofBitVec (w4 ||| ((1#64) <<< zshl (((v6 % (gI s 177 1)) * (gI s 177 1)) + (v6 / (gI s 177 1))))))), (6, .int (Int32.ofInt (v6 + 1)))] rfl ⟨rfl, rfl, rfl, rfl, trivial⟩ hK
  · rw [if_neg hc3] at h
    refine g_ic_ge_t 86 hM rfl rfl hg1 hg2 hc3 ?_
    cases h
    exact g_lv [(0, .ref 177), (4, .long (Int64.ofBitVec w4))] rfl ⟨rfl, rfl, trivial⟩ hK
theorem wl_217_24 {k : zK} {d : Nat} {x : am_H} {r : am_A × am_H} {w2 : BitVec 64} {s : zS} {n : Nat} {e : (BitVec 64 × Int)} {t : (BitVec 64)} (hd : 1 ≤ d) (h : zlp (fun (q : BitVec 64 × Int) => b_217_24 w2 s q.1 q.2) n e = some t) (hK : K_217_24 k d x r w2 s t) : G_217_24 k d x r w2 s e := zlp_go (G := fun e => G_217_24 k d x r w2 s e) (K := K_217_24 k d x r w2 s) (fun e e1 h1 hg => wb_217_24 (q := .inl e1) hd h1 hg) (fun e t1 h1 hk => wb_217_24 (q := .inr t1) hd h1 hk) n e t h hK
def j_217_197 (w4 : BitVec 64) (s : zS) : Option (Unit × zS) := zg (0 ≤ ((gI s 177 46) - 1) ∧ ((gI s 177 46) - 1) < 128) (some ((), (sJ (sJ s 198 ((gI s 177 46) - 1) w4) 199 ((gI s 177 46) - 1) (0#64))))
theorem wj_217_197 {k : zK} {d : Nat} {x : am_H} {w4 : BitVec 64} {s : zS} {q : (Unit × zS)} (hd : 1 ≤ d) (h : j_217_197 w4 s = some q) : zgo k d 217 (197, [(0, .ref 177), (4, .long (Int64.ofBitVec w4))], []) (hp s ++ x) (.inl (none), hp q.2 ++ x) := by
  unfold j_217_197 at h
  have hM := xM_217 k.1
  refine g_aload_n 198 hM rfl rfl rfl ?_
  refine g_getF 201 hM rfl rfl rfl rfl rfl ?_
  refine g_aload_n 202 hM rfl rfl rfl ?_
  refine g_getI 205 46 (gI s 177 46) hM rfl rfl rfl rfl rfl rfl rfl ?_
  refine g_iconst 206 hM rfl rfl ?_
  refine g_isub 207 hM rfl rfl ?_
  refine g_lload 209 hM rfl rfl rfl ?_
  obtain ⟨hg1, h⟩ := zg_some h
  refine g_lastore 210 hM rfl rfl rfl rfl hg1 ?_
  refine g_aload_n 211 hM rfl rfl rfl ?_
  refine g_getF 214 hM rfl rfl rfl rfl rfl ?_
  refine g_aload_n 215 hM rfl rfl rfl ?_
  refine g_getI 218 46 (gI s 177 46) hM rfl rfl rfl rfl rfl rfl rfl ?_
  refine g_iconst 219 hM rfl rfl ?_
  refine g_isub 220 hM rfl rfl ?_
  refine g_lconst 221 (0#64) hM rfl rfl rfl ?_
  refine g_lastore 222 hM rfl rfl rfl rfl hg1 ?_
  cases h
  exact g_ret hM rfl rfl
def G_217_95 (k : zK) (d : Nat) (x : am_H) (r : am_A × am_H) (v1 : Int) (s : zS) (e : (BitVec 64 × Int)) : Prop := zgo k d 217 (95, [(0, .ref 177), (1, .int (Int32.ofInt v1)), (4, .long (Int64.ofBitVec e.1)), (6, .int (Int32.ofInt e.2))], []) (hp s ++ x) r
def K_217_95 (k : zK) (d : Nat) (x : am_H) (r : am_A × am_H) (v1 : Int) (s : zS) (t : (BitVec 64)) : Prop := zgo k d 217 (177, [(0, .ref 177), (1, .int (Int32.ofInt v1)), (4, .long (Int64.ofBitVec t))], []) (hp s ++ x) r
def G_217_107 (k : zK) (d : Nat) (x : am_H) (r : am_A × am_H) (v1 : Int) (v6 : Int) (s : zS) (e : (BitVec 64 × Int)) : Prop := zgo k d 217 (107, [(0, .ref 177), (1, .int (Int32.ofInt v1)), (4, .long (Int64.ofBitVec e.1)), (6, .int (Int32.ofInt v6)), (7, .int (Int32.ofInt e.2))], []) (hp s ++ x) r
def K_217_107 (k : zK) (d : Nat) (x : am_H) (r : am_A × am_H) (v1 : Int) (v6 : Int) (s : zS) (t : (BitVec 64)) : Prop := zgo k d 217 (171, [(0, .ref 177), (1, .int (Int32.ofInt v1)), (4, .long (Int64.ofBitVec t)), (6, .int (Int32.ofInt v6))], []) (hp s ++ x) r
/-- RelationFinderModel.part(JJII)J -/
def f_210 (w0 : BitVec 64) (w2 : BitVec 64) (v4 : Int) (v5 : Int) : Option (BitVec 64) := zg (zR v4) (if v4 < 64 then (if v4 = 0 then (zg (zR v5) (some (w0 &&& (((1#64) <<< zshl v5) - (1#64))))) else (zg (zR (64 - v4)) (zg (zR v5) (some (((w0 >>> zshl v4) ||| (w2 <<< zshl (64 - v4))) &&& (((1#64) <<< zshl v5) - (1#64))))))) else (zg (zR (v4 - 64)) (zg (zR v5) (some ((w2 >>> zshl (v4 - 64)) &&& (((1#64) <<< zshl v5) - (1#64)))))))
theorem w_210 {k : zK} {d : Nat} {x : am_H} {w0 : BitVec 64} {w2 : BitVec 64} {v4 : Int} {v5 : Int} {s : zS} {q : (BitVec 64)} (hd : 0 ≤ d) (h : f_210 w0 w2 v4 v5 = some q) : zgo k d 210 (0, [(0, .long (Int64.ofBitVec w0)), (2, .long (Int64.ofBitVec w2)), (4, .int (Int32.ofInt v4)), (5, .int (Int32.ofInt v5))], []) (hp s ++ x) (.inl (some (.long (Int64.ofBitVec q))), hp s ++ x) := by
  unfold f_210 at h
  have hM := xM_210 k.1
  refine g_iload 2 hM rfl rfl rfl ?_
  refine g_bipush 4 hM rfl rfl rfl ?_
  obtain ⟨hg1, h⟩ := zg_some h
  by_cases hc2 : v4 < 64
  · rw [if_pos hc2] at h
    refine g_ic_lt_t 17 hM rfl rfl hg1 (zR_lit rfl) hc2 ?_
    refine g_iload 19 hM rfl rfl rfl ?_
    by_cases hc3 : v4 = 0
    · rw [if_pos hc3] at h
      refine g_if_ne_f 22 26 hM rfl rfl rfl hg1 hc3 ?_
      refine g_lload_n 23 hM rfl rfl rfl ?_
      refine g_goto 38 hM rfl rfl ?_
      refine g_lstore 40 hM rfl rfl rfl ?_
      refine g_lload 42 hM rfl rfl rfl ?_
      refine g_lconst 43 (1#64) hM rfl rfl rfl ?_
      refine g_iload 45 hM rfl rfl rfl ?_
      obtain ⟨hg4, h⟩ := zg_some h
      refine g_lshl 46 hM rfl rfl hg4 ?_
      refine g_lconst 47 (1#64) hM rfl rfl rfl ?_
      refine g_lsub 48 hM rfl rfl ?_
      refine g_land 49 hM rfl rfl ?_
      cases h
      exact g_ret hM rfl rfl
    · rw [if_neg hc3] at h
      refine g_if_ne_t 26 hM rfl rfl hg1 hc3 ?_
      refine g_lload_n 27 hM rfl rfl rfl ?_
      refine g_iload 29 hM rfl rfl rfl ?_
      refine g_lushr 30 hM rfl rfl hg1 ?_
      refine g_lload_n 31 hM rfl rfl rfl ?_
      refine g_bipush 33 hM rfl rfl rfl ?_
      refine g_iload 35 hM rfl rfl rfl ?_
      refine g_isub 36 hM rfl rfl ?_
      obtain ⟨hg5, h⟩ := zg_some h
      refine g_lshl 37 hM rfl rfl hg5 ?_
      refine g_lor 38 hM rfl rfl ?_
      refine g_lstore 40 hM rfl rfl rfl ?_
      refine g_lload 42 hM rfl rfl rfl ?_
      refine g_lconst 43 (1#64) hM rfl rfl rfl ?_
      refine g_iload 45 hM rfl rfl rfl ?_
      obtain ⟨hg6, h⟩ := zg_some h
      refine g_lshl 46 hM rfl rfl hg6 ?_
      refine g_lconst 47 (1#64) hM rfl rfl rfl ?_
      refine g_lsub 48 hM rfl rfl ?_
      refine g_land 49 hM rfl rfl ?_
      cases h
      exact g_ret hM rfl rfl
  · rw [if_neg hc2] at h
    refine g_ic_lt_f 7 17 hM rfl rfl rfl hg1 (zR_lit rfl) hc2 ?_
    refine g_lload_n 8 hM rfl rfl rfl ?_
    refine g_iload 10 hM rfl rfl rfl ?_
    refine g_bipush 12 hM rfl rfl rfl ?_
    refine g_isub 13 hM rfl rfl ?_
    obtain ⟨hg7, h⟩ := zg_some h
    refine g_lushr 14 hM rfl rfl hg7 ?_
    refine g_goto 38 hM rfl rfl ?_
    refine g_lstore 40 hM rfl rfl rfl ?_
    refine g_lload 42 hM rfl rfl rfl ?_
    refine g_lconst 43 (1#64) hM rfl rfl rfl ?_
    refine g_iload 45 hM rfl rfl rfl ?_
    obtain ⟨hg8, h⟩ := zg_some h
    refine g_lshl 46 hM rfl rfl hg8 ?_
    refine g_lconst 47 (1#64) hM rfl rfl rfl ?_
    refine g_lsub 48 hM rfl rfl ?_
    refine g_land 49 hM rfl rfl ?_
    cases h
    exact g_ret hM rfl rfl
def b_217_107 (v1 : Int) (v6 : Int) (s : zS) (w4 : BitVec 64) (v7 : Int) : Option ((BitVec 64 × Int) ⊕ (BitVec 64)) := zg (zR v7) (if v7 < (gI s 177 1) then (zo (f_211 w4 (0#64) ((v7 * (gI s 177 1)) + v6)) (fun r4 => zg (zR r4) (if r4 = 0 then (some (.inl (w4, (v7 + 1)))) else (zo (f_210 w4 (0#64) (v6 * (gI s 177 1)) (gI s 177 1)) (fun r8 => zg (zR (v7 * (gI s 177 1))) (some (.inl ((w4 ||| (r8 <<< zshl (v7 * (gI s 177 1)))), (v7 + 1))))))))) else (some (.inr w4)))
theorem wb_217_107 {k : zK} {d : Nat} {x : am_H} {r : am_A × am_H} {v1 : Int} {v6 : Int} {w4 : BitVec 64} {v7 : Int} {s : zS} {q : (BitVec 64 × Int) ⊕ (BitVec 64)} (hd : 1 ≤ d) (h : b_217_107 v1 v6 s w4 v7 = some q) (hK : Sum.elim (G_217_107 k d x r v1 v6 s) (K_217_107 k d x r v1 v6 s) q) : G_217_107 k d x r v1 v6 s (w4, v7) := by
  unfold b_217_107 at h
  have hM := xM_217 k.1
  show zgo k d 217 (107, [(0, .ref 177), (1, .int (Int32.ofInt v1)), (4, .long (Int64.ofBitVec w4)), (6, .int (Int32.ofInt v6)), (7, .int (Int32.ofInt v7))], []) (hp s ++ x) r
  refine g_iload 109 hM rfl rfl rfl ?_
  refine g_aload_n 110 hM rfl rfl rfl ?_
  refine g_getI 113 1 (gI s 177 1) hM rfl rfl rfl rfl rfl rfl rfl ?_
  obtain ⟨hg1, h⟩ := zg_some h
  by_cases hc2 : v7 < (gI s 177 1)
  · rw [if_pos hc2] at h
    refine g_ic_ge_f 116 171 hM rfl rfl rfl hg1 (zR_gI _ _ _) hc2 ?_
    refine g_lload 118 hM rfl rfl rfl ?_
    refine g_lconst 119 (0#64) hM rfl rfl rfl ?_
    refine g_iload 121 hM rfl rfl rfl ?_
    refine g_aload_n 122 hM rfl rfl rfl ?_
    refine g_getI 125 1 (gI s 177 1) hM rfl rfl rfl rfl rfl rfl rfl ?_
    refine g_imul 126 hM rfl rfl ?_
    refine g_iload 128 hM rfl rfl rfl ?_
    refine g_iadd 129 hM rfl rfl ?_
    obtain ⟨r4, h3, h⟩ := zo_some h
    refine g_call 132 _ [.int (Int32.ofInt r4)] hM rfl rfl rfl rfl rfl (xM_211 _) rfl rfl rfl rfl (by omega) (w_211 (by omega) h3) rfl ?_
    obtain ⟨hg5, h⟩ := zg_some h
    by_cases hc6 : r4 = 0
    · rw [if_pos hc6] at h
      refine g_if_eq_t 165 hM rfl rfl hg5 hc6 ?_
      refine g_iinc 168 hM rfl rfl rfl rfl ?_
      refine g_goto 107 hM rfl rfl ?_
      cases h
      exact g_lv [(0, .ref 177), (1, .int (Int32.ofInt v1)), (4, .long (Int64.ofBitVec w4)), (6, .int (Int32.ofInt v6)), (7, .int (Int32.ofInt (v7 + 1)))] rfl ⟨rfl, rfl, rfl, rfl, rfl, trivial⟩ hK
    · rw [if_neg hc6] at h
      refine g_if_eq_f 135 165 hM rfl rfl rfl hg5 hc6 ?_
      refine g_lload 137 hM rfl rfl rfl ?_
      refine g_lload 139 hM rfl rfl rfl ?_
      refine g_lconst 140 (0#64) hM rfl rfl rfl ?_
      refine g_iload 142 hM rfl rfl rfl ?_
      refine g_aload_n 143 hM rfl rfl rfl ?_
      refine g_getI 146 1 (gI s 177 1) hM rfl rfl rfl rfl rfl rfl rfl ?_
      refine g_imul 147 hM rfl rfl ?_
      refine g_aload_n 148 hM rfl rfl rfl ?_
      refine g_getI 151 1 (gI s 177 1) hM rfl rfl rfl rfl rfl rfl rfl ?_
      obtain ⟨r8, h7, h⟩ := zo_some h
      refine g_call 154 _ [.long (Int64.ofBitVec r8), .long (Int64.ofBitVec w4)] hM rfl rfl rfl rfl rfl (xM_210 _) rfl rfl rfl rfl (by omega) (w_210 (by omega) h7) rfl ?_
      refine g_iload 156 hM rfl rfl rfl ?_
      refine g_aload_n 157 hM rfl rfl rfl ?_
      refine g_getI 160 1 (gI s 177 1) hM rfl rfl rfl rfl rfl rfl rfl ?_
      refine g_imul 161 hM rfl rfl ?_
      obtain ⟨hg9, h⟩ := zg_some h
      refine g_lshl 162 hM rfl rfl hg9 ?_
      refine g_lor 163 hM rfl rfl ?_
      refine g_lstore 165 hM rfl rfl rfl ?_
      refine g_iinc 168 hM rfl rfl rfl rfl ?_
      refine g_goto 107 hM rfl rfl ?_
      cases h
      exact g_lv [(0, .ref 177), (1, .int (Int32.ofInt v1)), (4, .long (Int64.ofBitVec (w4 ||| (r8 <<< zshl (v7 * (gI s 177 1)))))), (6, .int (Int32.ofInt v6)), (7, .int (Int32.ofInt (v7 + 1)))] rfl ⟨rfl, rfl, rfl, rfl, rfl, trivial⟩ hK
  · rw [if_neg hc2] at h
    refine g_ic_ge_t 171 hM rfl rfl hg1 (zR_gI _ _ _) hc2 ?_
    cases h
    exact g_lv [(0, .ref 177), (1, .int (Int32.ofInt v1)), (4, .long (Int64.ofBitVec w4)), (6, .int (Int32.ofInt v6))] rfl ⟨rfl, rfl, rfl, rfl, trivial⟩ hK
theorem wl_217_107 {k : zK} {d : Nat} {x : am_H} {r : am_A × am_H} {v1 : Int} {v6 : Int} {s : zS} {n : Nat} {e : (BitVec 64 × Int)} {t : (BitVec 64)} (hd : 1 ≤ d) (h : zlp (fun (q : BitVec 64 × Int) => b_217_107 v1 v6 s q.1 q.2) n e = some t) (hK : K_217_107 k d x r v1 v6 s t) : G_217_107 k d x r v1 v6 s e := zlp_go (G := fun e => G_217_107 k d x r v1 v6 s e) (K := K_217_107 k d x r v1 v6 s) (fun e e1 h1 hg => wb_217_107 (q := .inl e1) hd h1 hg) (fun e t1 h1 hk => wb_217_107 (q := .inr t1) hd h1 hk) n e t h hK
def b_217_95 (v1 : Int) (s : zS) (w4 : BitVec 64) (v6 : Int) : Option ((BitVec 64 × Int) ⊕ (BitVec 64)) := zg (zR v6) (if v6 < (gI s 177 1) then (zo (zlp (fun (q : BitVec 64 × Int) => b_217_107 v1 v6 s q.1 q.2) zF (w4, 0)) (fun e3 => some (.inl (e3, (v6 + 1))))) else (some (.inr w4)))
theorem wb_217_95 {k : zK} {d : Nat} {x : am_H} {r : am_A × am_H} {v1 : Int} {w4 : BitVec 64} {v6 : Int} {s : zS} {q : (BitVec 64 × Int) ⊕ (BitVec 64)} (hd : 1 ≤ d) (h : b_217_95 v1 s w4 v6 = some q) (hK : Sum.elim (G_217_95 k d x r v1 s) (K_217_95 k d x r v1 s) q) : G_217_95 k d x r v1 s (w4, v6) := by
  unfold b_217_95 at h
  have hM := xM_217 k.1
  show zgo k d 217 (95, [(0, .ref 177), (1, .int (Int32.ofInt v1)), (4, .long (Int64.ofBitVec w4)), (6, .int (Int32.ofInt v6))], []) (hp s ++ x) r
  refine g_iload 97 hM rfl rfl rfl ?_
  refine g_aload_n 98 hM rfl rfl rfl ?_
  refine g_getI 101 1 (gI s 177 1) hM rfl rfl rfl rfl rfl rfl rfl ?_
  obtain ⟨hg1, h⟩ := zg_some h
  by_cases hc2 : v6 < (gI s 177 1)
  · rw [if_pos hc2] at h
    refine g_ic_ge_f 104 177 hM rfl rfl rfl hg1 (zR_gI _ _ _) hc2 ?_
    refine g_iconst 105 hM rfl rfl ?_
    refine g_istore 107 hM rfl rfl rfl ?_
    obtain ⟨e3, h4, h⟩ := zo_some h
    refine g_lv [(0, .ref 177), (1, .int (Int32.ofInt v1)), (4, .long (Int64.ofBitVec w4)), (6, .int (Int32.ofInt v6)), (7, .int (Int32.ofInt 0))] rfl ⟨rfl, rfl, rfl, rfl, rfl, trivial⟩ ?_
    refine wl_217_107 (by omega) h4 ?_
    show zgo k d 217 (171, [(0, .ref 177), (1, .int (Int32.ofInt v1)), (4, .long (Int64.ofBitVec e3)), (6, .int (Int32.ofInt v6))], []) (hp s ++ x) r
    refine g_iinc 174 hM rfl rfl rfl rfl ?_
    refine g_goto 95 hM rfl rfl ?_
    cases h
    exact g_lv [(0, .ref 177), (1, .int (Int32.ofInt v1)), (4, .long (Int64.ofBitVec e3)), (6, .int (Int32.ofInt (v6 + 1)))] rfl ⟨rfl, rfl, rfl, rfl, trivial⟩ hK
  · rw [if_neg hc2] at h
    refine g_ic_ge_t 177 hM rfl rfl hg1 (zR_gI _ _ _) hc2 ?_
    cases h
    exact g_lv [(0, .ref 177), (1, .int (Int32.ofInt v1)), (4, .long (Int64.ofBitVec w4))] rfl ⟨rfl, rfl, rfl, trivial⟩ hK
theorem wl_217_95 {k : zK} {d : Nat} {x : am_H} {r : am_A × am_H} {v1 : Int} {s : zS} {n : Nat} {e : (BitVec 64 × Int)} {t : (BitVec 64)} (hd : 1 ≤ d) (h : zlp (fun (q : BitVec 64 × Int) => b_217_95 v1 s q.1 q.2) n e = some t) (hK : K_217_95 k d x r v1 s t) : G_217_95 k d x r v1 s e := zlp_go (G := fun e => G_217_95 k d x r v1 s e) (K := K_217_95 k d x r v1 s) (fun e e1 h1 hg => wb_217_95 (q := .inl e1) hd h1 hg) (fun e t1 h1 hk => wb_217_95 (q := .inr t1) hd h1 hk) n e t h hK
def G_218_4 (k : zK) (d : Nat) (x : am_H) (r : am_A × am_H) (s : zS) (e : (BitVec 64 × Int)) : Prop := zgo k d 218 (4, [(0, .ref 177), (1, .long (Int64.ofBitVec e.1)), (3, .int (Int32.ofInt e.2))], []) (hp s ++ x) r
def K_218_4 (k : zK) (d : Nat) (x : am_H) (r : am_A × am_H) (s : zS) (t : (BitVec 64)) : Prop := zgo k d 218 (31, [(1, .long (Int64.ofBitVec t))], []) (hp s ++ x) r
def b_218_4 (s : zS) (w1 : BitVec 64) (v3 : Int) : Option ((BitVec 64 × Int) ⊕ (BitVec 64)) := zg (zR v3) (if v3 < (gI s 177 1) then (zg (zR ((v3 * (gI s 177 1)) + v3)) (some (.inl ((w1 ||| ((1#64) <<< zshl ((v3 * (gI s 177 1)) + v3))), (v3 + 1))))) else (some (.inr w1)))
theorem wb_218_4 {k : zK} {d : Nat} {x : am_H} {r : am_A × am_H} {w1 : BitVec 64} {v3 : Int} {s : zS} {q : (BitVec 64 × Int) ⊕ (BitVec 64)} (hd : 0 ≤ d) (h : b_218_4 s w1 v3 = some q) (hK : Sum.elim (G_218_4 k d x r s) (K_218_4 k d x r s) q) : G_218_4 k d x r s (w1, v3) := by
  unfold b_218_4 at h
  have hM := xM_218 k.1
  show zgo k d 218 (4, [(0, .ref 177), (1, .long (Int64.ofBitVec w1)), (3, .int (Int32.ofInt v3))], []) (hp s ++ x) r
  refine g_iload_n 5 hM rfl rfl rfl ?_
  refine g_aload_n 6 hM rfl rfl rfl ?_
  refine g_getI 9 1 (gI s 177 1) hM rfl rfl rfl rfl rfl rfl rfl ?_
  obtain ⟨hg1, h⟩ := zg_some h
  by_cases hc2 : v3 < (gI s 177 1)
  · rw [if_pos hc2] at h
    refine g_ic_ge_f 12 31 hM rfl rfl rfl hg1 (zR_gI _ _ _) hc2 ?_
    refine g_lload_n 13 hM rfl rfl rfl ?_
    refine g_lconst 14 (1#64) hM rfl rfl rfl ?_
    refine g_iload_n 15 hM rfl rfl rfl ?_
    refine g_aload_n 16 hM rfl rfl rfl ?_
    refine g_getI 19 1 (gI s 177 1) hM rfl rfl rfl rfl rfl rfl rfl ?_
    refine g_imul 20 hM rfl rfl ?_
    refine g_iload_n 21 hM rfl rfl rfl ?_
    refine g_iadd 22 hM rfl rfl ?_
    obtain ⟨hg3, h⟩ := zg_some h
    refine g_lshl 23 hM rfl rfl hg3 ?_
    refine g_lor 24 hM rfl rfl ?_
    refine g_lstore_n 25 hM rfl rfl rfl ?_
    refine g_iinc 28 hM rfl rfl rfl rfl ?_
    refine g_goto 4 hM rfl rfl ?_
    cases h
    exact g_lv [(0, .ref 177), (1, .long (Int64.ofBitVec (w1 ||| ((1#64) <<< zshl ((v3 * (gI s 177 1)) + v3))))), (3, .int (Int32.ofInt (v3 + 1)))] rfl ⟨rfl, rfl, rfl, trivial⟩ hK
  · rw [if_neg hc2] at h
    refine g_ic_ge_t 31 hM rfl rfl hg1 (zR_gI _ _ _) hc2 ?_
    cases h
    exact g_lv [(1, .long (Int64.ofBitVec w1))] rfl ⟨rfl, trivial⟩ hK
theorem wl_218_4 {k : zK} {d : Nat} {x : am_H} {r : am_A × am_H} {s : zS} {n : Nat} {e : (BitVec 64 × Int)} {t : (BitVec 64)} (hd : 0 ≤ d) (h : zlp (fun (q : BitVec 64 × Int) => b_218_4 s q.1 q.2) n e = some t) (hK : K_218_4 k d x r s t) : G_218_4 k d x r s e := zlp_go (G := fun e => G_218_4 k d x r s e) (K := K_218_4 k d x r s) (fun e e1 h1 hg => wb_218_4 (q := .inl e1) hd h1 hg) (fun e t1 h1 hk => wb_218_4 (q := .inr t1) hd h1 hk) n e t h hK
/-- RelationFinderModel.identity()J -/
def f_218 (s : zS) : Option (BitVec 64) := zo (zlp (fun (q : BitVec 64 × Int) => b_218_4 s q.1 q.2) zF ((0#64), 0)) (fun e1 => some e1)
theorem w_218 {k : zK} {d : Nat} {x : am_H} {s : zS} {q : (BitVec 64)} (hd : 0 ≤ d) (h : f_218 s = some q) : zgo k d 218 (0, [(0, .ref 177)], []) (hp s ++ x) (.inl (some (.long (Int64.ofBitVec q))), hp s ++ x) := by
  unfold f_218 at h
  have hM := xM_218 k.1
  refine g_lconst 1 (0#64) hM rfl rfl rfl ?_
  refine g_lstore_n 2 hM rfl rfl rfl ?_
  refine g_iconst 3 hM rfl rfl ?_
  refine g_istore_n 4 hM rfl rfl rfl ?_
  obtain ⟨e1, h2, h⟩ := zo_some h
  refine g_lv [(0, .ref 177), (1, .long (Int64.ofBitVec (0#64))), (3, .int (Int32.ofInt 0))] rfl ⟨rfl, rfl, rfl, trivial⟩ ?_
  refine wl_218_4 (by omega) h2 ?_
  show zgo k d 218 (31, [(1, .long (Int64.ofBitVec e1))], []) (hp s ++ x) (.inl (some (.long (Int64.ofBitVec q))), hp s ++ x)
  refine g_lload_n 32 hM rfl rfl rfl ?_
  cases h
  exact g_ret hM rfl rfl
def j_217_195 (u0 : BitVec 64) (s : zS) : Option (Unit × zS) := j_217_197 u0 s
theorem wj_217_195 {k : zK} {d : Nat} {x : am_H} {u0 : BitVec 64} {s : zS} {q : (Unit × zS)} (hd : 1 ≤ d) (h : j_217_195 u0 s = some q) : zgo k d 217 (195, [(0, .ref 177)], [.long (Int64.ofBitVec u0)]) (hp s ++ x) (.inl (none), hp q.2 ++ x) := by
  unfold j_217_195 at h
  have hM := xM_217 k.1
  refine g_lstore 197 hM rfl rfl rfl ?_
  refine g_lv [(0, .ref 177), (4, .long (Int64.ofBitVec u0))] rfl ⟨rfl, rfl, trivial⟩ ?_
  exact wj_217_197 (by omega) h
/-- RelationFinderModel.pairs(I)V -/
def f_217 (v1 : Int) (s : zS) : Option (Unit × zS) := zg (0 ≤ ((gI s 177 46) - 1) ∧ ((gI s 177 46) - 1) < 128) (zg (zR v1) (if v1 = 38 then (zo (zlp (fun (q : BitVec 64 × Int) => b_217_24 (gJ s 198 ((gI s 177 46) - 1)) s q.1 q.2) zF ((0#64), 0)) (fun e4 => j_217_197 e4 s)) else (zo (zlp (fun (q : BitVec 64 × Int) => b_217_95 v1 s q.1 q.2) zF ((gJ s 198 ((gI s 177 46) - 1)), 0)) (fun e6 => if v1 = 40 then (zo (f_218 s) (fun r10 => j_217_195 (e6 ||| r10) s)) else (j_217_195 e6 s)))))
theorem w_217 {k : zK} {d : Nat} {x : am_H} {v1 : Int} {s : zS} {q : (Unit × zS)} (hd : 1 ≤ d) (h : f_217 v1 s = some q) : zgo k d 217 (0, [(0, .ref 177), (1, .int (Int32.ofInt v1))], []) (hp s ++ x) (.inl (none), hp q.2 ++ x) := by
  unfold f_217 at h
  have hM := xM_217 k.1
  refine g_aload_n 1 hM rfl rfl rfl ?_
  refine g_getF 4 hM rfl rfl rfl rfl rfl ?_
  refine g_aload_n 5 hM rfl rfl rfl ?_
  refine g_getI 8 46 (gI s 177 46) hM rfl rfl rfl rfl rfl rfl rfl ?_
  refine g_iconst 9 hM rfl rfl ?_
  refine g_isub 10 hM rfl rfl ?_
  obtain ⟨hg1, h⟩ := zg_some h
  refine g_laload 11 (gJ s 198 ((gI s 177 46) - 1)) hM rfl rfl rfl rfl hg1 rfl ?_
  refine g_lstore_n 12 hM rfl rfl rfl ?_
  refine g_lconst 13 (0#64) hM rfl rfl rfl ?_
  refine g_lstore 15 hM rfl rfl rfl ?_
  refine g_iload_n 16 hM rfl rfl rfl ?_
  refine g_bipush 18 hM rfl rfl rfl ?_
  obtain ⟨hg2, h⟩ := zg_some h
  by_cases hc3 : v1 = 38
  · rw [if_pos hc3] at h
    refine g_ic_ne_f 21 89 hM rfl rfl rfl hg2 (zR_lit rfl) hc3 ?_
    refine g_iconst 22 hM rfl rfl ?_
    refine g_istore 24 hM rfl rfl rfl ?_
    obtain ⟨e4, h5, h⟩ := zo_some h
    refine g_lv [(0, .ref 177), (2, .long (Int64.ofBitVec (gJ s 198 ((gI s 177 46) - 1)))), (4, .long (Int64.ofBitVec (0#64))), (6, .int (Int32.ofInt 0))] rfl ⟨rfl, rfl, rfl, rfl, trivial⟩ ?_
    refine wl_217_24 (by omega) h5 ?_
    show zgo k d 217 (86, [(0, .ref 177), (4, .long (Int64.ofBitVec e4))], []) (hp s ++ x) (.inl (none), hp q.2 ++ x)
    refine g_goto 197 hM rfl rfl ?_
    refine g_lv [(0, .ref 177), (4, .long (Int64.ofBitVec e4))] rfl ⟨rfl, rfl, trivial⟩ ?_
    exact wj_217_197 (by omega) h
  · rw [if_neg hc3] at h
    refine g_ic_ne_t 89 hM rfl rfl hg2 (zR_lit rfl) hc3 ?_
    refine g_lload_n 90 hM rfl rfl rfl ?_
    refine g_lstore 92 hM rfl rfl rfl ?_
    refine g_iconst 93 hM rfl rfl ?_
    refine g_istore 95 hM rfl rfl rfl ?_
    obtain ⟨e6, h7, h⟩ := zo_some h
    refine g_lv [(0, .ref 177), (1, .int (Int32.ofInt v1)), (4, .long (Int64.ofBitVec (gJ s 198 ((gI s 177 46) - 1)))), (6, .int (Int32.ofInt 0))] rfl ⟨rfl, rfl, rfl, rfl, trivial⟩ ?_
    refine wl_217_95 (by omega) h7 ?_
    show zgo k d 217 (177, [(0, .ref 177), (1, .int (Int32.ofInt v1)), (4, .long (Int64.ofBitVec e6))], []) (hp s ++ x) (.inl (none), hp q.2 ++ x)
    refine g_iload_n 178 hM rfl rfl rfl ?_
    refine g_bipush 180 hM rfl rfl rfl ?_
    by_cases hc8 : v1 = 40
    · rw [if_pos hc8] at h
      refine g_ic_ne_f 183 193 hM rfl rfl rfl hg2 (zR_lit rfl) hc8 ?_
      refine g_lload 185 hM rfl rfl rfl ?_
      refine g_aload_n 186 hM rfl rfl rfl ?_
      obtain ⟨r10, h9, h⟩ := zo_some h
      refine g_call 189 _ [.long (Int64.ofBitVec r10), .long (Int64.ofBitVec e6)] hM rfl rfl rfl rfl rfl (xM_218 _) rfl (z_rcv2 rfl) rfl rfl (by omega) (w_218 (by omega) h9) rfl ?_
      refine g_lor 190 hM rfl rfl ?_
      refine g_goto 195 hM rfl rfl ?_
      refine g_lv [(0, .ref 177)] rfl ⟨rfl, trivial⟩ ?_
      exact wj_217_195 (by omega) h
    · rw [if_neg hc8] at h
      refine g_ic_ne_t 193 hM rfl rfl hg2 (zR_lit rfl) hc8 ?_
      refine g_lload 195 hM rfl rfl rfl ?_
      refine g_lv [(0, .ref 177)] rfl ⟨rfl, trivial⟩ ?_
      exact wj_217_195 (by omega) h
def t_220_1 (a : Int) : Nat := zswt 1 42 [184, 203, 505, 505, 505, 462, 505, 505, 505, 505, 505, 505, 505, 505, 274, 505, 505, 505, 505, 310, 219, 228, 244, 256, 256, 505, 505, 505, 505, 505, 505, 505, 505, 505, 505, 505, 505, 505, 505, 505, 505, 392] 505 a
def G_221_6 (k : zK) (d : Nat) (x : am_H) (r : am_A × am_H) (w0 : BitVec 64) (w2 : BitVec 64) (s : zS) (e : (Int × Int)) : Prop := zgo k d 221 (6, [(0, .long (Int64.ofBitVec w0)), (2, .long (Int64.ofBitVec w2)), (4, .int (Int32.ofInt e.1)), (5, .int (Int32.ofInt e.2))], []) (hp s ++ x) r
def K_221_6 (k : zK) (d : Nat) (x : am_H) (r : am_A × am_H) (w0 : BitVec 64) (w2 : BitVec 64) (s : zS) (t : (Int)) : Prop := zgo k d 221 (40, [(4, .int (Int32.ofInt t))], []) (hp s ++ x) r
def b_221_6 (w0 : BitVec 64) (w2 : BitVec 64) (s : zS) (v4 : Int) (v5 : Int) : Option ((Int × Int) ⊕ (Int)) := zg (zR v5) (if v5 < 125 then (zo (f_211 w0 w2 v5) (fun r4 => zg (zR r4) (if r4 = 0 then (some (.inl (v4, (v5 + 1)))) else (some (.inl ((v4 + 1), (v5 + 1))))))) else (some (.inr v4)))
theorem wb_221_6 {k : zK} {d : Nat} {x : am_H} {r : am_A × am_H} {w0 : BitVec 64} {w2 : BitVec 64} {v4 : Int} {v5 : Int} {s : zS} {q : (Int × Int) ⊕ (Int)} (hd : 1 ≤ d) (h : b_221_6 w0 w2 s v4 v5 = some q) (hK : Sum.elim (G_221_6 k d x r w0 w2 s) (K_221_6 k d x r w0 w2 s) q) : G_221_6 k d x r w0 w2 s (v4, v5) := by
  unfold b_221_6 at h
  have hM := xM_221 k.1
  show zgo k d 221 (6, [(0, .long (Int64.ofBitVec w0)), (2, .long (Int64.ofBitVec w2)), (4, .int (Int32.ofInt v4)), (5, .int (Int32.ofInt v5))], []) (hp s ++ x) r
  refine g_iload 8 hM rfl rfl rfl ?_
  refine g_bipush 10 hM rfl rfl rfl ?_
  obtain ⟨hg1, h⟩ := zg_some h
  by_cases hc2 : v5 < 125
  · rw [if_pos hc2] at h
    refine g_ic_ge_f 13 40 hM rfl rfl rfl hg1 (zR_lit rfl) hc2 ?_
    refine g_lload_n 14 hM rfl rfl rfl ?_
    refine g_lload_n 15 hM rfl rfl rfl ?_
    refine g_iload 17 hM rfl rfl rfl ?_
    obtain ⟨r4, h3, h⟩ := zo_some h
    refine g_call 20 _ [.int (Int32.ofInt r4)] hM rfl rfl rfl rfl rfl (xM_211 _) rfl rfl rfl rfl (by omega) (w_211 (by omega) h3) rfl ?_
    obtain ⟨hg5, h⟩ := zg_some h
    by_cases hc6 : r4 = 0
    · rw [if_pos hc6] at h
      refine g_if_eq_t 30 hM rfl rfl hg5 hc6 ?_
      refine g_iload 32 hM rfl rfl rfl ?_
      refine g_istore 34 hM rfl rfl rfl ?_
      refine g_iinc 37 hM rfl rfl rfl rfl ?_
      refine g_goto 6 hM rfl rfl ?_
      cases h
      exact g_lv [(0, .long (Int64.ofBitVec w0)), (2, .long (Int64.ofBitVec w2)), (4, .int (Int32.ofInt v4)), (5, .int (Int32.ofInt (v5 + 1)))] rfl ⟨rfl, rfl, rfl, rfl, trivial⟩ hK
    · rw [if_neg hc6] at h
      refine g_if_eq_f 23 30 hM rfl rfl rfl hg5 hc6 ?_
      refine g_iload 25 hM rfl rfl rfl ?_
      refine g_iconst 26 hM rfl rfl ?_
      refine g_iadd 27 hM rfl rfl ?_
      refine g_goto 32 hM rfl rfl ?_
      refine g_istore 34 hM rfl rfl rfl ?_
      refine g_iinc 37 hM rfl rfl rfl rfl ?_
      refine g_goto 6 hM rfl rfl ?_
      cases h
      exact g_lv [(0, .long (Int64.ofBitVec w0)), (2, .long (Int64.ofBitVec w2)), (4, .int (Int32.ofInt (v4 + 1))), (5, .int (Int32.ofInt (v5 + 1)))] rfl ⟨rfl, rfl, rfl, rfl, trivial⟩ hK
  · rw [if_neg hc2] at h
    refine g_ic_ge_t 40 hM rfl rfl hg1 (zR_lit rfl) hc2 ?_
    cases h
    exact g_lv [(4, .int (Int32.ofInt v4))] rfl ⟨rfl, trivial⟩ hK
theorem wl_221_6 {k : zK} {d : Nat} {x : am_H} {r : am_A × am_H} {w0 : BitVec 64} {w2 : BitVec 64} {s : zS} {n : Nat} {e : (Int × Int)} {t : (Int)} (hd : 1 ≤ d) (h : zlp (fun (q : Int × Int) => b_221_6 w0 w2 s q.1 q.2) n e = some t) (hK : K_221_6 k d x r w0 w2 s t) : G_221_6 k d x r w0 w2 s e := zlp_go (G := fun e => G_221_6 k d x r w0 w2 s e) (K := K_221_6 k d x r w0 w2 s) (fun e e1 h1 hg => wb_221_6 (q := .inl e1) hd h1 hg) (fun e t1 h1 hk => wb_221_6 (q := .inr t1) hd h1 hk) n e t h hK
/-- RelationFinderModel.amount(JJ)I -/
def f_221 (w0 : BitVec 64) (w2 : BitVec 64) (s : zS) : Option Int := zo (zlp (fun (q : Int × Int) => b_221_6 w0 w2 s q.1 q.2) zF (0, 0)) (fun e1 => some e1)
theorem w_221 {k : zK} {d : Nat} {x : am_H} {w0 : BitVec 64} {w2 : BitVec 64} {s : zS} {q : Int} (hd : 1 ≤ d) (h : f_221 w0 w2 s = some q) : zgo k d 221 (0, [(0, .long (Int64.ofBitVec w0)), (2, .long (Int64.ofBitVec w2))], []) (hp s ++ x) (.inl (some (.int (Int32.ofInt q))), hp s ++ x) := by
  unfold f_221 at h
  have hM := xM_221 k.1
  refine g_iconst 1 hM rfl rfl ?_
  refine g_istore 3 hM rfl rfl rfl ?_
  refine g_iconst 4 hM rfl rfl ?_
  refine g_istore 6 hM rfl rfl rfl ?_
  obtain ⟨e1, h2, h⟩ := zo_some h
  refine g_lv [(0, .long (Int64.ofBitVec w0)), (2, .long (Int64.ofBitVec w2)), (4, .int (Int32.ofInt 0)), (5, .int (Int32.ofInt 0))] rfl ⟨rfl, rfl, rfl, rfl, trivial⟩ ?_
  refine wl_221_6 (by omega) h2 ?_
  show zgo k d 221 (40, [(4, .int (Int32.ofInt e1))], []) (hp s ++ x) (.inl (some (.int (Int32.ofInt q))), hp s ++ x)
  refine g_iload 42 hM rfl rfl rfl ?_
  cases h
  exact g_ret hM rfl rfl
/-- RelationFinderModel.simple(III)V -/
def f_220 (v1 : Int) (v2 : Int) (v3 : Int) (s : zS) : Option (Unit × zS) := zg (zR v1) (if t_220_1 v1 = 184 then (zg (0 ≤ v2 ∧ v2 < 8) (zb (f_203 (gJ s 196 v2) (gJ s 197 v2) s) (fun r5 s6 => some ((), s6)))) else (if t_220_1 v1 = 203 then (zg (0 ≤ v2 ∧ v2 < 32) (zb (f_203 ((1#64) <<< zshl (gI s 201 v2)) (0#64) s) (fun r10 s11 => some ((), s11)))) else (if t_220_1 v1 = 219 then (zb (f_203 (0#64) (0#64) s) (fun r14 s15 => some ((), s15))) else (if t_220_1 v1 = 228 then (zb (f_203 (((1#64) <<< zshl (gI s 177 1)) - (1#64)) (0#64) s) (fun r18 s19 => some ((), s19))) else (if t_220_1 v1 = 244 then (zo (f_218 s) (fun r22 => zb (f_203 r22 (0#64) s) (fun r24 s25 => some ((), s25)))) else (if t_220_1 v1 = 256 then (if v1 = 24 then (zb (f_206 1 s) (fun r29 s30 => some ((), s30))) else (zb (f_206 0 s) (fun r32 s33 => some ((), s33)))) else (if t_220_1 v1 = 274 then (zg (0 ≤ (gI (sI s 177 46 ((gI s 177 46) - 1)) 177 46) ∧ (gI (sI s 177 46 ((gI s 177 46) - 1)) 177 46) < 128) (if (gJ s 198 (gI (sI s 177 46 ((gI s 177 46) - 1)) 177 46)) = (0#64) then (zb (f_206 1 (sI s 177 46 ((gI s 177 46) - 1))) (fun r38 s39 => some ((), s39))) else (zb (f_206 0 (sI s 177 46 ((gI s 177 46) - 1))) (fun r41 s42 => some ((), s42))))) else (if t_220_1 v1 = 310 then (zg (0 ≤ (gI (sI s 177 46 ((gI s 177 46) - 2)) 177 46) ∧ (gI (sI s 177 46 ((gI s 177 46) - 2)) 177 46) < 128) (zg (0 ≤ ((gI (sI s 177 46 ((gI s 177 46) - 2)) 177 46) + 1) ∧ ((gI (sI s 177 46 ((gI s 177 46) - 2)) 177 46) + 1) < 128) (if ((gJ s 198 (gI (sI s 177 46 ((gI s 177 46) - 2)) 177 46)) &&& ((gJ s 198 ((gI (sI s 177 46 ((gI s 177 46) - 2)) 177 46) + 1)) ^^^ (18446744073709551615#64))) = (0#64) then (if ((gJ s 199 (gI (sI s 177 46 ((gI s 177 46) - 2)) 177 46)) &&& ((gJ s 199 ((gI (sI s 177 46 ((gI s 177 46) - 2)) 177 46) + 1)) ^^^ (18446744073709551615#64))) = (0#64) then (zb (f_206 1 (sI s 177 46 ((gI s 177 46) - 2))) (fun r49 s50 => some ((), s50))) else (zb (f_206 0 (sI s 177 46 ((gI s 177 46) - 2))) (fun r52 s53 => some ((), s53)))) else (zb (f_206 0 (sI s 177 46 ((gI s 177 46) - 2))) (fun r55 s56 => some ((), s56)))))) else (if t_220_1 v1 = 392 then (zg (0 ≤ (gI (sI s 177 46 ((gI s 177 46) - 2)) 177 46) ∧ (gI (sI s 177 46 ((gI s 177 46) - 2)) 177 46) < 128) (zg (0 ≤ ((gI (sI s 177 46 ((gI s 177 46) - 2)) 177 46) + 1) ∧ ((gI (sI s 177 46 ((gI s 177 46) - 2)) 177 46) + 1) < 128) (if (gJ s 198 (gI (sI s 177 46 ((gI s 177 46) - 2)) 177 46)) = (gJ s 198 ((gI (sI s 177 46 ((gI s 177 46) - 2)) 177 46) + 1)) then (if (gJ s 199 (gI (sI s 177 46 ((gI s 177 46) - 2)) 177 46)) = (gJ s 199 ((gI (sI s 177 46 ((gI s 177 46) - 2)) 177 46) + 1)) then (zb (f_206 1 (sI s 177 46 ((gI s 177 46) - 2))) (fun r63 s64 => some ((), s64))) else (zb (f_206 0 (sI s 177 46 ((gI s 177 46) - 2))) (fun r66 s67 => some ((), s67)))) else (zb (f_206 0 (sI s 177 46 ((gI s 177 46) - 2))) (fun r69 s70 => some ((), s70)))))) else (if t_220_1 v1 = 462 then (zg (0 ≤ (gI (sI s 177 46 ((gI s 177 46) - 1)) 177 46) ∧ (gI (sI s 177 46 ((gI s 177 46) - 1)) 177 46) < 128) (zo (f_221 (gJ s 198 (gI (sI s 177 46 ((gI s 177 46) - 1)) 177 46)) (gJ s 199 (gI (sI s 177 46 ((gI s 177 46) - 1)) 177 46)) (sI s 177 46 ((gI s 177 46) - 1))) (fun r74 => zo (f_205 v2 r74 (-1)) (fun r76 => zb (f_206 r76 (sI s 177 46 ((gI s 177 46) - 1))) (fun r78 s79 => some ((), s79)))))) else (if t_220_1 v1 = 505 then (zg (0 ≤ (gI (sI s 177 46 ((gI s 177 46) - 1)) 177 46) ∧ (gI (sI s 177 46 ((gI s 177 46) - 1)) 177 46) < 128) (zo (f_221 (gJ s 198 (gI (sI s 177 46 ((gI s 177 46) - 1)) 177 46)) (gJ s 199 (gI (sI s 177 46 ((gI s 177 46) - 1)) 177 46)) (sI s 177 46 ((gI s 177 46) - 1))) (fun r83 => zg (zR v2) (if v2 = 42 then (zg (zR r83) (zg (zR v3) (if r83 = v3 then (zb (f_206 1 (sI s 177 46 ((gI s 177 46) - 1))) (fun r90 s91 => some ((), s91))) else (zb (f_206 0 (sI s 177 46 ((gI s 177 46) - 1))) (fun r93 s94 => some ((), s94)))))) else (if v2 = 43 then (zg (zR r83) (zg (zR v3) (if r83 < v3 then (zb (f_206 1 (sI s 177 46 ((gI s 177 46) - 1))) (fun r100 s101 => some ((), s101))) else (zb (f_206 0 (sI s 177 46 ((gI s 177 46) - 1))) (fun r103 s104 => some ((), s104)))))) else (zg (zR r83) (zg (zR v3) (if v3 < r83 then (zb (f_206 1 (sI s 177 46 ((gI s 177 46) - 1))) (fun r109 s110 => some ((), s110))) else (zb (f_206 0 (sI s 177 46 ((gI s 177 46) - 1))) (fun r112 s113 => some ((), s113))))))))))) else (none))))))))))))
theorem w_220 {k : zK} {d : Nat} {x : am_H} {v1 : Int} {v2 : Int} {v3 : Int} {s : zS} {q : (Unit × zS)} (hd : 2 ≤ d) (h : f_220 v1 v2 v3 s = some q) : zgo k d 220 (0, [(0, .ref 177), (1, .int (Int32.ofInt v1)), (2, .int (Int32.ofInt v2)), (3, .int (Int32.ofInt v3))], []) (hp s ++ x) (.inl (none), hp q.2 ++ x) := by
  unfold f_220 at h
  have hM := xM_220 k.1
  refine g_iload_n 1 hM rfl rfl rfl ?_
  obtain ⟨hg1, h⟩ := zg_some h
  by_cases hc2 : t_220_1 v1 = 184
  · rw [if_pos hc2] at h
    refine g_tsw 184 hM rfl hg1 hc2 rfl rfl rfl ?_
    refine g_aload_n 185 hM rfl rfl rfl ?_
    refine g_aload_n 186 hM rfl rfl rfl ?_
    refine g_getF 189 hM rfl rfl rfl rfl rfl ?_
    refine g_iload_n 190 hM rfl rfl rfl ?_
    obtain ⟨hg3, h⟩ := zg_some h
    refine g_laload 191 (gJ s 196 v2) hM rfl rfl rfl rfl hg3 rfl ?_
    refine g_aload_n 192 hM rfl rfl rfl ?_
    refine g_getF 195 hM rfl rfl rfl rfl rfl ?_
    refine g_iload_n 196 hM rfl rfl rfl ?_
    refine g_laload 197 (gJ s 197 v2) hM rfl rfl rfl rfl hg3 rfl ?_
    obtain ⟨r5, s6, h4, h⟩ := zb_some h
    refine g_call 200 _ [] hM rfl rfl rfl rfl rfl (xM_203 _) rfl (z_rcv2 rfl) rfl rfl (by omega) (w_203 (by omega) h4) rfl ?_
    refine g_goto 593 hM rfl rfl ?_
    cases h
    exact g_ret hM rfl rfl
  · rw [if_neg hc2] at h
    by_cases hc7 : t_220_1 v1 = 203
    · rw [if_pos hc7] at h
      refine g_tsw 203 hM rfl hg1 hc7 rfl rfl rfl ?_
      refine g_aload_n 204 hM rfl rfl rfl ?_
      refine g_lconst 205 (1#64) hM rfl rfl rfl ?_
      refine g_aload_n 206 hM rfl rfl rfl ?_
      refine g_getF 209 hM rfl rfl rfl rfl rfl ?_
      refine g_iload_n 210 hM rfl rfl rfl ?_
      obtain ⟨hg8, h⟩ := zg_some h
      refine g_iaload 211 (gI s 201 v2) hM rfl rfl rfl rfl hg8 rfl ?_
      refine g_lshl 212 hM rfl rfl (zR_gI _ _ _) ?_
      refine g_lconst 213 (0#64) hM rfl rfl rfl ?_
      obtain ⟨r10, s11, h9, h⟩ := zb_some h
      refine g_call 216 _ [] hM rfl rfl rfl rfl rfl (xM_203 _) rfl (z_rcv2 rfl) rfl rfl (by omega) (w_203 (by omega) h9) rfl ?_
      refine g_goto 593 hM rfl rfl ?_
      cases h
      exact g_ret hM rfl rfl
    · rw [if_neg hc7] at h
      by_cases hc12 : t_220_1 v1 = 219
      · rw [if_pos hc12] at h
        refine g_tsw 219 hM rfl hg1 hc12 rfl rfl rfl ?_
        refine g_aload_n 220 hM rfl rfl rfl ?_
        refine g_lconst 221 (0#64) hM rfl rfl rfl ?_
        refine g_lconst 222 (0#64) hM rfl rfl rfl ?_
        obtain ⟨r14, s15, h13, h⟩ := zb_some h
        refine g_call 225 _ [] hM rfl rfl rfl rfl rfl (xM_203 _) rfl (z_rcv2 rfl) rfl rfl (by omega) (w_203 (by omega) h13) rfl ?_
        refine g_goto 593 hM rfl rfl ?_
        cases h
        exact g_ret hM rfl rfl
      · rw [if_neg hc12] at h
        by_cases hc16 : t_220_1 v1 = 228
        · rw [if_pos hc16] at h
          refine g_tsw 228 hM rfl hg1 hc16 rfl rfl rfl ?_
          refine g_aload_n 229 hM rfl rfl rfl ?_
          refine g_lconst 230 (1#64) hM rfl rfl rfl ?_
          refine g_aload_n 231 hM rfl rfl rfl ?_
          refine g_getI 234 1 (gI s 177 1) hM rfl rfl rfl rfl rfl rfl rfl ?_
          refine g_lshl 235 hM rfl rfl (zR_gI _ _ _) ?_
          refine g_lconst 236 (1#64) hM rfl rfl rfl ?_
          refine g_lsub 237 hM rfl rfl ?_
          refine g_lconst 238 (0#64) hM rfl rfl rfl ?_
          obtain ⟨r18, s19, h17, h⟩ := zb_some h
          refine g_call 241 _ [] hM rfl rfl rfl rfl rfl (xM_203 _) rfl (z_rcv2 rfl) rfl rfl (by omega) (w_203 (by omega) h17) rfl ?_
          refine g_goto 593 hM rfl rfl ?_
          cases h
          exact g_ret hM rfl rfl
        · rw [if_neg hc16] at h
          by_cases hc20 : t_220_1 v1 = 244
          · rw [if_pos hc20] at h
            refine g_tsw 244 hM rfl hg1 hc20 rfl rfl rfl ?_
            refine g_aload_n 245 hM rfl rfl rfl ?_
            refine g_aload_n 246 hM rfl rfl rfl ?_
            obtain ⟨r22, h21, h⟩ := zo_some h
            refine g_call 249 _ [.long (Int64.ofBitVec r22), .ref 177] hM rfl rfl rfl rfl rfl (xM_218 _) rfl (z_rcv2 rfl) rfl rfl (by omega) (w_218 (by omega) h21) rfl ?_
            refine g_lconst 250 (0#64) hM rfl rfl rfl ?_
            obtain ⟨r24, s25, h23, h⟩ := zb_some h
            refine g_call 253 _ [] hM rfl rfl rfl rfl rfl (xM_203 _) rfl (z_rcv2 rfl) rfl rfl (by omega) (w_203 (by omega) h23) rfl ?_
            refine g_goto 593 hM rfl rfl ?_
            cases h
            exact g_ret hM rfl rfl
          · rw [if_neg hc20] at h
            by_cases hc26 : t_220_1 v1 = 256
            · rw [if_pos hc26] at h
              refine g_tsw 256 hM rfl hg1 hc26 rfl rfl rfl ?_
              refine g_aload_n 257 hM rfl rfl rfl ?_
              refine g_iload_n 258 hM rfl rfl rfl ?_
              refine g_bipush 260 hM rfl rfl rfl ?_
              by_cases hc27 : v1 = 24
              · rw [if_pos hc27] at h
                refine g_ic_ne_f 263 267 hM rfl rfl rfl hg1 (zR_lit rfl) hc27 ?_
                refine g_iconst 264 hM rfl rfl ?_
                refine g_goto 268 hM rfl rfl ?_
                obtain ⟨r29, s30, h28, h⟩ := zb_some h
                refine g_call 271 _ [] hM rfl rfl rfl rfl rfl (xM_206 _) rfl (z_rcv2 rfl) rfl rfl (by omega) (w_206 (by omega) h28) rfl ?_
                refine g_goto 593 hM rfl rfl ?_
                cases h
                exact g_ret hM rfl rfl
              · rw [if_neg hc27] at h
                refine g_ic_ne_t 267 hM rfl rfl hg1 (zR_lit rfl) hc27 ?_
                refine g_iconst 268 hM rfl rfl ?_
                obtain ⟨r32, s33, h31, h⟩ := zb_some h
                refine g_call 271 _ [] hM rfl rfl rfl rfl rfl (xM_206 _) rfl (z_rcv2 rfl) rfl rfl (by omega) (w_206 (by omega) h31) rfl ?_
                refine g_goto 593 hM rfl rfl ?_
                cases h
                exact g_ret hM rfl rfl
            · rw [if_neg hc26] at h
              by_cases hc34 : t_220_1 v1 = 274
              · rw [if_pos hc34] at h
                refine g_tsw 274 hM rfl hg1 hc34 rfl rfl rfl ?_
                refine g_aload_n 275 hM rfl rfl rfl ?_
                refine g_dup 276 hM rfl rfl rfl ?_
                refine g_getI 279 46 (gI s 177 46) hM rfl rfl rfl rfl rfl rfl rfl ?_
                refine g_iconst 280 hM rfl rfl ?_
                refine g_isub 281 hM rfl rfl ?_
                refine g_putI 284 46 hM rfl rfl rfl rfl rfl rfl rfl ?_
                refine g_aload_n 285 hM rfl rfl rfl ?_
                refine g_aload_n 286 hM rfl rfl rfl ?_
                refine g_getF 289 hM rfl rfl rfl rfl rfl ?_
                refine g_aload_n 290 hM rfl rfl rfl ?_
                refine g_getI 293 46 (gI (sI s 177 46 ((gI s 177 46) - 1)) 177 46) hM rfl rfl rfl rfl rfl rfl rfl ?_
                obtain ⟨hg35, h⟩ := zg_some h
                refine g_laload 294 (gJ s 198 (gI (sI s 177 46 ((gI s 177 46) - 1)) 177 46)) hM rfl rfl rfl rfl hg35 rfl ?_
                refine g_lconst 295 (0#64) hM rfl rfl rfl ?_
                by_cases hc36 : (gJ s 198 (gI (sI s 177 46 ((gI s 177 46) - 1)) 177 46)) = (0#64)
                · rw [if_pos hc36] at h
                  refine g_lc_ne_f 296 299 303 hM rfl rfl rfl rfl rfl hc36 ?_
                  refine g_iconst 300 hM rfl rfl ?_
                  refine g_goto 304 hM rfl rfl ?_
                  obtain ⟨r38, s39, h37, h⟩ := zb_some h
                  refine g_call 307 _ [] hM rfl rfl rfl rfl rfl (xM_206 _) rfl (z_rcv2 rfl) rfl rfl (by omega) (w_206 (by omega) h37) rfl ?_
                  refine g_goto 593 hM rfl rfl ?_
                  cases h
                  exact g_ret hM rfl rfl
                · rw [if_neg hc36] at h
                  refine g_lc_ne_t 296 303 hM rfl rfl rfl rfl hc36 ?_
                  refine g_iconst 304 hM rfl rfl ?_
                  obtain ⟨r41, s42, h40, h⟩ := zb_some h
                  refine g_call 307 _ [] hM rfl rfl rfl rfl rfl (xM_206 _) rfl (z_rcv2 rfl) rfl rfl (by omega) (w_206 (by omega) h40) rfl ?_
                  refine g_goto 593 hM rfl rfl ?_
                  cases h
                  exact g_ret hM rfl rfl
              · rw [if_neg hc34] at h
                by_cases hc43 : t_220_1 v1 = 310
                · rw [if_pos hc43] at h
                  refine g_tsw 310 hM rfl hg1 hc43 rfl rfl rfl ?_
                  refine g_aload_n 311 hM rfl rfl rfl ?_
                  refine g_aload_n 312 hM rfl rfl rfl ?_
                  refine g_getI 315 46 (gI s 177 46) hM rfl rfl rfl rfl rfl rfl rfl ?_
                  refine g_iconst 316 hM rfl rfl ?_
                  refine g_isub 317 hM rfl rfl ?_
                  refine g_putI 320 46 hM rfl rfl rfl rfl rfl rfl rfl ?_
                  refine g_aload_n 321 hM rfl rfl rfl ?_
                  refine g_aload_n 322 hM rfl rfl rfl ?_
                  refine g_getF 325 hM rfl rfl rfl rfl rfl ?_
                  refine g_aload_n 326 hM rfl rfl rfl ?_
                  refine g_getI 329 46 (gI (sI s 177 46 ((gI s 177 46) - 2)) 177 46) hM rfl rfl rfl rfl rfl rfl rfl ?_
                  obtain ⟨hg44, h⟩ := zg_some h
                  refine g_laload 330 (gJ s 198 (gI (sI s 177 46 ((gI s 177 46) - 2)) 177 46)) hM rfl rfl rfl rfl hg44 rfl ?_
                  refine g_aload_n 331 hM rfl rfl rfl ?_
                  refine g_getF 334 hM rfl rfl rfl rfl rfl ?_
                  refine g_aload_n 335 hM rfl rfl rfl ?_
                  refine g_getI 338 46 (gI (sI s 177 46 ((gI s 177 46) - 2)) 177 46) hM rfl rfl rfl rfl rfl rfl rfl ?_
                  refine g_iconst 339 hM rfl rfl ?_
                  refine g_iadd 340 hM rfl rfl ?_
                  obtain ⟨hg45, h⟩ := zg_some h
                  refine g_laload 341 (gJ s 198 ((gI (sI s 177 46 ((gI s 177 46) - 2)) 177 46) + 1)) hM rfl rfl rfl rfl hg45 rfl ?_
                  refine g_ldc2 344 (18446744073709551615#64) hM rfl rfl rfl (by decide) ?_
                  refine g_lxor 345 hM rfl rfl ?_
                  refine g_land 346 hM rfl rfl ?_
                  refine g_lconst 347 (0#64) hM rfl rfl rfl ?_
                  by_cases hc46 : ((gJ s 198 (gI (sI s 177 46 ((gI s 177 46) - 2)) 177 46)) &&& ((gJ s 198 ((gI (sI s 177 46 ((gI s 177 46) - 2)) 177 46) + 1)) ^^^ (18446744073709551615#64))) = (0#64)
                  · rw [if_pos hc46] at h
                    refine g_lc_ne_f 348 351 385 hM rfl rfl rfl rfl rfl hc46 ?_
                    refine g_aload_n 352 hM rfl rfl rfl ?_
                    refine g_getF 355 hM rfl rfl rfl rfl rfl ?_
                    refine g_aload_n 356 hM rfl rfl rfl ?_
                    refine g_getI 359 46 (gI (sI s 177 46 ((gI s 177 46) - 2)) 177 46) hM rfl rfl rfl rfl rfl rfl rfl ?_
                    refine g_laload 360 (gJ s 199 (gI (sI s 177 46 ((gI s 177 46) - 2)) 177 46)) hM rfl rfl rfl rfl hg44 rfl ?_
                    refine g_aload_n 361 hM rfl rfl rfl ?_
                    refine g_getF 364 hM rfl rfl rfl rfl rfl ?_
                    refine g_aload_n 365 hM rfl rfl rfl ?_
                    refine g_getI 368 46 (gI (sI s 177 46 ((gI s 177 46) - 2)) 177 46) hM rfl rfl rfl rfl rfl rfl rfl ?_
                    refine g_iconst 369 hM rfl rfl ?_
                    refine g_iadd 370 hM rfl rfl ?_
                    refine g_laload 371 (gJ s 199 ((gI (sI s 177 46 ((gI s 177 46) - 2)) 177 46) + 1)) hM rfl rfl rfl rfl hg45 rfl ?_
                    refine g_ldc2 374 (18446744073709551615#64) hM rfl rfl rfl (by decide) ?_
                    refine g_lxor 375 hM rfl rfl ?_
                    refine g_land 376 hM rfl rfl ?_
                    refine g_lconst 377 (0#64) hM rfl rfl rfl ?_
                    by_cases hc47 : ((gJ s 199 (gI (sI s 177 46 ((gI s 177 46) - 2)) 177 46)) &&& ((gJ s 199 ((gI (sI s 177 46 ((gI s 177 46) - 2)) 177 46) + 1)) ^^^ (18446744073709551615#64))) = (0#64)
                    · rw [if_pos hc47] at h
                      refine g_lc_ne_f 378 381 385 hM rfl rfl rfl rfl rfl hc47 ?_
                      refine g_iconst 382 hM rfl rfl ?_
                      refine g_goto 386 hM rfl rfl ?_
                      obtain ⟨r49, s50, h48, h⟩ := zb_some h
                      refine g_call 389 _ [] hM rfl rfl rfl rfl rfl (xM_206 _) rfl (z_rcv2 rfl) rfl rfl (by omega) (w_206 (by omega) h48) rfl ?_
                      refine g_goto 593 hM rfl rfl ?_
                      cases h
                      exact g_ret hM rfl rfl
                    · rw [if_neg hc47] at h
                      refine g_lc_ne_t 378 385 hM rfl rfl rfl rfl hc47 ?_
                      refine g_iconst 386 hM rfl rfl ?_
                      obtain ⟨r52, s53, h51, h⟩ := zb_some h
                      refine g_call 389 _ [] hM rfl rfl rfl rfl rfl (xM_206 _) rfl (z_rcv2 rfl) rfl rfl (by omega) (w_206 (by omega) h51) rfl ?_
                      refine g_goto 593 hM rfl rfl ?_
                      cases h
                      exact g_ret hM rfl rfl
                  · rw [if_neg hc46] at h
                    refine g_lc_ne_t 348 385 hM rfl rfl rfl rfl hc46 ?_
                    refine g_iconst 386 hM rfl rfl ?_
                    obtain ⟨r55, s56, h54, h⟩ := zb_some h
                    refine g_call 389 _ [] hM rfl rfl rfl rfl rfl (xM_206 _) rfl (z_rcv2 rfl) rfl rfl (by omega) (w_206 (by omega) h54) rfl ?_
                    refine g_goto 593 hM rfl rfl ?_
                    cases h
                    exact g_ret hM rfl rfl
                · rw [if_neg hc43] at h
                  by_cases hc57 : t_220_1 v1 = 392
                  · rw [if_pos hc57] at h
                    refine g_tsw 392 hM rfl hg1 hc57 rfl rfl rfl ?_
                    refine g_aload_n 393 hM rfl rfl rfl ?_
                    refine g_aload_n 394 hM rfl rfl rfl ?_
                    refine g_getI 397 46 (gI s 177 46) hM rfl rfl rfl rfl rfl rfl rfl ?_
                    refine g_iconst 398 hM rfl rfl ?_
                    refine g_isub 399 hM rfl rfl ?_
                    refine g_putI 402 46 hM rfl rfl rfl rfl rfl rfl rfl ?_
                    refine g_aload_n 403 hM rfl rfl rfl ?_
                    refine g_aload_n 404 hM rfl rfl rfl ?_
                    refine g_getF 407 hM rfl rfl rfl rfl rfl ?_
                    refine g_aload_n 408 hM rfl rfl rfl ?_
                    refine g_getI 411 46 (gI (sI s 177 46 ((gI s 177 46) - 2)) 177 46) hM rfl rfl rfl rfl rfl rfl rfl ?_
                    obtain ⟨hg58, h⟩ := zg_some h
                    refine g_laload 412 (gJ s 198 (gI (sI s 177 46 ((gI s 177 46) - 2)) 177 46)) hM rfl rfl rfl rfl hg58 rfl ?_
                    refine g_aload_n 413 hM rfl rfl rfl ?_
                    refine g_getF 416 hM rfl rfl rfl rfl rfl ?_
                    refine g_aload_n 417 hM rfl rfl rfl ?_
                    refine g_getI 420 46 (gI (sI s 177 46 ((gI s 177 46) - 2)) 177 46) hM rfl rfl rfl rfl rfl rfl rfl ?_
                    refine g_iconst 421 hM rfl rfl ?_
                    refine g_iadd 422 hM rfl rfl ?_
                    obtain ⟨hg59, h⟩ := zg_some h
                    refine g_laload 423 (gJ s 198 ((gI (sI s 177 46 ((gI s 177 46) - 2)) 177 46) + 1)) hM rfl rfl rfl rfl hg59 rfl ?_
                    by_cases hc60 : (gJ s 198 (gI (sI s 177 46 ((gI s 177 46) - 2)) 177 46)) = (gJ s 198 ((gI (sI s 177 46 ((gI s 177 46) - 2)) 177 46) + 1))
                    · rw [if_pos hc60] at h
                      refine g_lc_ne_f 424 427 455 hM rfl rfl rfl rfl rfl hc60 ?_
                      refine g_aload_n 428 hM rfl rfl rfl ?_
                      refine g_getF 431 hM rfl rfl rfl rfl rfl ?_
                      refine g_aload_n 432 hM rfl rfl rfl ?_
                      refine g_getI 435 46 (gI (sI s 177 46 ((gI s 177 46) - 2)) 177 46) hM rfl rfl rfl rfl rfl rfl rfl ?_
                      refine g_laload 436 (gJ s 199 (gI (sI s 177 46 ((gI s 177 46) - 2)) 177 46)) hM rfl rfl rfl rfl hg58 rfl ?_
                      refine g_aload_n 437 hM rfl rfl rfl ?_
                      refine g_getF 440 hM rfl rfl rfl rfl rfl ?_
                      refine g_aload_n 441 hM rfl rfl rfl ?_
                      refine g_getI 444 46 (gI (sI s 177 46 ((gI s 177 46) - 2)) 177 46) hM rfl rfl rfl rfl rfl rfl rfl ?_
                      refine g_iconst 445 hM rfl rfl ?_
                      refine g_iadd 446 hM rfl rfl ?_
                      refine g_laload 447 (gJ s 199 ((gI (sI s 177 46 ((gI s 177 46) - 2)) 177 46) + 1)) hM rfl rfl rfl rfl hg59 rfl ?_
                      by_cases hc61 : (gJ s 199 (gI (sI s 177 46 ((gI s 177 46) - 2)) 177 46)) = (gJ s 199 ((gI (sI s 177 46 ((gI s 177 46) - 2)) 177 46) + 1))
                      · rw [if_pos hc61] at h
                        refine g_lc_ne_f 448 451 455 hM rfl rfl rfl rfl rfl hc61 ?_
                        refine g_iconst 452 hM rfl rfl ?_
                        refine g_goto 456 hM rfl rfl ?_
                        obtain ⟨r63, s64, h62, h⟩ := zb_some h
                        refine g_call 459 _ [] hM rfl rfl rfl rfl rfl (xM_206 _) rfl (z_rcv2 rfl) rfl rfl (by omega) (w_206 (by omega) h62) rfl ?_
                        refine g_goto 593 hM rfl rfl ?_
                        cases h
                        exact g_ret hM rfl rfl
                      · rw [if_neg hc61] at h
                        refine g_lc_ne_t 448 455 hM rfl rfl rfl rfl hc61 ?_
                        refine g_iconst 456 hM rfl rfl ?_
                        obtain ⟨r66, s67, h65, h⟩ := zb_some h
                        refine g_call 459 _ [] hM rfl rfl rfl rfl rfl (xM_206 _) rfl (z_rcv2 rfl) rfl rfl (by omega) (w_206 (by omega) h65) rfl ?_
                        refine g_goto 593 hM rfl rfl ?_
                        cases h
                        exact g_ret hM rfl rfl
                    · rw [if_neg hc60] at h
                      refine g_lc_ne_t 424 455 hM rfl rfl rfl rfl hc60 ?_
                      refine g_iconst 456 hM rfl rfl ?_
                      obtain ⟨r69, s70, h68, h⟩ := zb_some h
                      refine g_call 459 _ [] hM rfl rfl rfl rfl rfl (xM_206 _) rfl (z_rcv2 rfl) rfl rfl (by omega) (w_206 (by omega) h68) rfl ?_
                      refine g_goto 593 hM rfl rfl ?_
                      cases h
                      exact g_ret hM rfl rfl
                  · rw [if_neg hc57] at h
                    by_cases hc71 : t_220_1 v1 = 462
                    · rw [if_pos hc71] at h
                      refine g_tsw 462 hM rfl hg1 hc71 rfl rfl rfl ?_
                      refine g_aload_n 463 hM rfl rfl rfl ?_
                      refine g_dup 464 hM rfl rfl rfl ?_
                      refine g_getI 467 46 (gI s 177 46) hM rfl rfl rfl rfl rfl rfl rfl ?_
                      refine g_iconst 468 hM rfl rfl ?_
                      refine g_isub 469 hM rfl rfl ?_
                      refine g_putI 472 46 hM rfl rfl rfl rfl rfl rfl rfl ?_
                      refine g_aload_n 473 hM rfl rfl rfl ?_
                      refine g_iload_n 474 hM rfl rfl rfl ?_
                      refine g_aload_n 475 hM rfl rfl rfl ?_
                      refine g_getF 478 hM rfl rfl rfl rfl rfl ?_
                      refine g_aload_n 479 hM rfl rfl rfl ?_
                      refine g_getI 482 46 (gI (sI s 177 46 ((gI s 177 46) - 1)) 177 46) hM rfl rfl rfl rfl rfl rfl rfl ?_
                      obtain ⟨hg72, h⟩ := zg_some h
                      refine g_laload 483 (gJ s 198 (gI (sI s 177 46 ((gI s 177 46) - 1)) 177 46)) hM rfl rfl rfl rfl hg72 rfl ?_
                      refine g_aload_n 484 hM rfl rfl rfl ?_
                      refine g_getF 487 hM rfl rfl rfl rfl rfl ?_
                      refine g_aload_n 488 hM rfl rfl rfl ?_
                      refine g_getI 491 46 (gI (sI s 177 46 ((gI s 177 46) - 1)) 177 46) hM rfl rfl rfl rfl rfl rfl rfl ?_
                      refine g_laload 492 (gJ s 199 (gI (sI s 177 46 ((gI s 177 46) - 1)) 177 46)) hM rfl rfl rfl rfl hg72 rfl ?_
                      obtain ⟨r74, h73, h⟩ := zo_some h
                      refine g_call 495 _ [.int (Int32.ofInt r74), .int (Int32.ofInt v2), .ref 177] hM rfl rfl rfl rfl rfl (xM_221 _) rfl rfl rfl rfl (by omega) (w_221 (by omega) h73) rfl ?_
                      refine g_iconst 496 hM rfl rfl ?_
                      obtain ⟨r76, h75, h⟩ := zo_some h
                      refine g_call 499 _ [.int (Int32.ofInt r76), .ref 177] hM rfl rfl rfl rfl rfl (xM_205 _) rfl rfl rfl rfl (by omega) (w_205 (by omega) h75) rfl ?_
                      obtain ⟨r78, s79, h77, h⟩ := zb_some h
                      refine g_call 502 _ [] hM rfl rfl rfl rfl rfl (xM_206 _) rfl (z_rcv2 rfl) rfl rfl (by omega) (w_206 (by omega) h77) rfl ?_
                      refine g_goto 593 hM rfl rfl ?_
                      cases h
                      exact g_ret hM rfl rfl
                    · rw [if_neg hc71] at h
                      by_cases hc80 : t_220_1 v1 = 505
                      · rw [if_pos hc80] at h
                        refine g_tsw 505 hM rfl hg1 hc80 rfl rfl rfl ?_
                        refine g_aload_n 506 hM rfl rfl rfl ?_
                        refine g_dup 507 hM rfl rfl rfl ?_
                        refine g_getI 510 46 (gI s 177 46) hM rfl rfl rfl rfl rfl rfl rfl ?_
                        refine g_iconst 511 hM rfl rfl ?_
                        refine g_isub 512 hM rfl rfl ?_
                        refine g_putI 515 46 hM rfl rfl rfl rfl rfl rfl rfl ?_
                        refine g_aload_n 516 hM rfl rfl rfl ?_
                        refine g_getF 519 hM rfl rfl rfl rfl rfl ?_
                        refine g_aload_n 520 hM rfl rfl rfl ?_
                        refine g_getI 523 46 (gI (sI s 177 46 ((gI s 177 46) - 1)) 177 46) hM rfl rfl rfl rfl rfl rfl rfl ?_
                        obtain ⟨hg81, h⟩ := zg_some h
                        refine g_laload 524 (gJ s 198 (gI (sI s 177 46 ((gI s 177 46) - 1)) 177 46)) hM rfl rfl rfl rfl hg81 rfl ?_
                        refine g_aload_n 525 hM rfl rfl rfl ?_
                        refine g_getF 528 hM rfl rfl rfl rfl rfl ?_
                        refine g_aload_n 529 hM rfl rfl rfl ?_
                        refine g_getI 532 46 (gI (sI s 177 46 ((gI s 177 46) - 1)) 177 46) hM rfl rfl rfl rfl rfl rfl rfl ?_
                        refine g_laload 533 (gJ s 199 (gI (sI s 177 46 ((gI s 177 46) - 1)) 177 46)) hM rfl rfl rfl rfl hg81 rfl ?_
                        obtain ⟨r83, h82, h⟩ := zo_some h
                        refine g_call 536 _ [.int (Int32.ofInt r83)] hM rfl rfl rfl rfl rfl (xM_221 _) rfl rfl rfl rfl (by omega) (w_221 (by omega) h82) rfl ?_
                        refine g_istore 538 hM rfl rfl rfl ?_
                        refine g_aload_n 539 hM rfl rfl rfl ?_
                        refine g_iload_n 540 hM rfl rfl rfl ?_
                        refine g_bipush 542 hM rfl rfl rfl ?_
                        obtain ⟨hg84, h⟩ := zg_some h
                        by_cases hc85 : v2 = 42
                        · rw [if_pos hc85] at h
                          refine g_ic_ne_f 545 559 hM rfl rfl rfl hg84 (zR_lit rfl) hc85 ?_
                          refine g_iload 547 hM rfl rfl rfl ?_
                          refine g_iload_n 548 hM rfl rfl rfl ?_
                          obtain ⟨hg86, h⟩ := zg_some h
                          obtain ⟨hg87, h⟩ := zg_some h
                          by_cases hc88 : r83 = v3
                          · rw [if_pos hc88] at h
                            refine g_ic_ne_f 551 555 hM rfl rfl rfl hg86 hg87 hc88 ?_
                            refine g_iconst 552 hM rfl rfl ?_
                            refine g_goto 590 hM rfl rfl ?_
                            obtain ⟨r90, s91, h89, h⟩ := zb_some h
                            refine g_call 593 _ [] hM rfl rfl rfl rfl rfl (xM_206 _) rfl (z_rcv2 rfl) rfl rfl (by omega) (w_206 (by omega) h89) rfl ?_
                            cases h
                            exact g_ret hM rfl rfl
                          · rw [if_neg hc88] at h
                            refine g_ic_ne_t 555 hM rfl rfl hg86 hg87 hc88 ?_
                            refine g_iconst 556 hM rfl rfl ?_
                            refine g_goto 590 hM rfl rfl ?_
                            obtain ⟨r93, s94, h92, h⟩ := zb_some h
                            refine g_call 593 _ [] hM rfl rfl rfl rfl rfl (xM_206 _) rfl (z_rcv2 rfl) rfl rfl (by omega) (w_206 (by omega) h92) rfl ?_
                            cases h
                            exact g_ret hM rfl rfl
                        · rw [if_neg hc85] at h
                          refine g_ic_ne_t 559 hM rfl rfl hg84 (zR_lit rfl) hc85 ?_
                          refine g_iload_n 560 hM rfl rfl rfl ?_
                          refine g_bipush 562 hM rfl rfl rfl ?_
                          by_cases hc95 : v2 = 43
                          · rw [if_pos hc95] at h
                            refine g_ic_ne_f 565 579 hM rfl rfl rfl hg84 (zR_lit rfl) hc95 ?_
                            refine g_iload 567 hM rfl rfl rfl ?_
                            refine g_iload_n 568 hM rfl rfl rfl ?_
                            obtain ⟨hg96, h⟩ := zg_some h
                            obtain ⟨hg97, h⟩ := zg_some h
                            by_cases hc98 : r83 < v3
                            · rw [if_pos hc98] at h
                              refine g_ic_ge_f 571 575 hM rfl rfl rfl hg96 hg97 hc98 ?_
                              refine g_iconst 572 hM rfl rfl ?_
                              refine g_goto 590 hM rfl rfl ?_
                              obtain ⟨r100, s101, h99, h⟩ := zb_some h
                              refine g_call 593 _ [] hM rfl rfl rfl rfl rfl (xM_206 _) rfl (z_rcv2 rfl) rfl rfl (by omega) (w_206 (by omega) h99) rfl ?_
                              cases h
                              exact g_ret hM rfl rfl
                            · rw [if_neg hc98] at h
                              refine g_ic_ge_t 575 hM rfl rfl hg96 hg97 hc98 ?_
                              refine g_iconst 576 hM rfl rfl ?_
                              refine g_goto 590 hM rfl rfl ?_
                              obtain ⟨r103, s104, h102, h⟩ := zb_some h
                              refine g_call 593 _ [] hM rfl rfl rfl rfl rfl (xM_206 _) rfl (z_rcv2 rfl) rfl rfl (by omega) (w_206 (by omega) h102) rfl ?_
                              cases h
                              exact g_ret hM rfl rfl
                          · rw [if_neg hc95] at h
                            refine g_ic_ne_t 579 hM rfl rfl hg84 (zR_lit rfl) hc95 ?_
                            refine g_iload 581 hM rfl rfl rfl ?_
                            refine g_iload_n 582 hM rfl rfl rfl ?_
                            obtain ⟨hg105, h⟩ := zg_some h
                            obtain ⟨hg106, h⟩ := zg_some h
                            by_cases hc107 : v3 < r83
                            · rw [if_pos hc107] at h
                              refine g_ic_le_f 585 589 hM rfl rfl rfl hg105 hg106 hc107 ?_
                              refine g_iconst 586 hM rfl rfl ?_
                              refine g_goto 590 hM rfl rfl ?_
                              obtain ⟨r109, s110, h108, h⟩ := zb_some h
                              refine g_call 593 _ [] hM rfl rfl rfl rfl rfl (xM_206 _) rfl (z_rcv2 rfl) rfl rfl (by omega) (w_206 (by omega) h108) rfl ?_
                              cases h
                              exact g_ret hM rfl rfl
                            · rw [if_neg hc107] at h
                              refine g_ic_le_t 589 hM rfl rfl hg105 hg106 hc107 ?_
                              refine g_iconst 590 hM rfl rfl ?_
                              obtain ⟨r112, s113, h111, h⟩ := zb_some h
                              refine g_call 593 _ [] hM rfl rfl rfl rfl rfl (xM_206 _) rfl (z_rcv2 rfl) rfl rfl (by omega) (w_206 (by omega) h111) rfl ?_
                              cases h
                              exact g_ret hM rfl rfl
                      · rw [if_neg hc80] at h
                        cases h
def j_219_51 (v1 : Int) (v2 : Int) (t0 : Int) (s : zS) : Option (Unit × zS) := zg (zR v1) (if v1 = 16 then (zg (zR t0) (if t0 = 0 then (zb (f_206 0 (sI s 177 46 ((gI s 177 46) - 1))) (fun r6 s7 => some ((), s7))) else (zg (zR v2) (if v2 = 0 then (zb (f_206 0 (sI s 177 46 ((gI s 177 46) - 1))) (fun r11 s12 => some ((), s12))) else (zb (f_206 1 (sI s 177 46 ((gI s 177 46) - 1))) (fun r14 s15 => some ((), s15))))))) else (if v1 = 17 then (zg (zR t0) (if t0 = 0 then (zg (zR v2) (if v2 = 0 then (zb (f_206 0 (sI s 177 46 ((gI s 177 46) - 1))) (fun r22 s23 => some ((), s23))) else (zb (f_206 1 (sI s 177 46 ((gI s 177 46) - 1))) (fun r25 s26 => some ((), s26))))) else (zb (f_206 1 (sI s 177 46 ((gI s 177 46) - 1))) (fun r28 s29 => some ((), s29))))) else (if v1 = 18 then (zg (zR t0) (if t0 = 0 then (zb (f_206 1 (sI s 177 46 ((gI s 177 46) - 1))) (fun r34 s35 => some ((), s35))) else (zg (zR v2) (if v2 = 0 then (zb (f_206 0 (sI s 177 46 ((gI s 177 46) - 1))) (fun r39 s40 => some ((), s40))) else (zb (f_206 1 (sI s 177 46 ((gI s 177 46) - 1))) (fun r42 s43 => some ((), s43))))))) else (zg (zR t0) (zg (zR v2) (if t0 = v2 then (zb (f_206 1 (sI s 177 46 ((gI s 177 46) - 1))) (fun r48 s49 => some ((), s49))) else (zb (f_206 0 (sI s 177 46 ((gI s 177 46) - 1))) (fun r51 s52 => some ((), s52)))))))))
theorem wj_219_51 {k : zK} {d : Nat} {x : am_H} {v1 : Int} {v2 : Int} {t0 : Int} {s : zS} {q : (Unit × zS)} (hd : 2 ≤ d) (h : j_219_51 v1 v2 t0 s = some q) : zgo k d 219 (51, [(0, .ref 177), (1, .int (Int32.ofInt v1)), (2, .int (Int32.ofInt v2))], [.int (Int32.ofInt t0)]) (hp s ++ x) (.inl (none), hp q.2 ++ x) := by
  unfold j_219_51 at h
  have hM := xM_219 k.1
  refine g_istore_n 52 hM rfl rfl rfl ?_
  refine g_aload_n 53 hM rfl rfl rfl ?_
  refine g_dup 54 hM rfl rfl rfl ?_
  refine g_getI 57 46 (gI s 177 46) hM rfl rfl rfl rfl rfl rfl rfl ?_
  refine g_iconst 58 hM rfl rfl ?_
  refine g_isub 59 hM rfl rfl ?_
  refine g_putI 62 46 hM rfl rfl rfl rfl rfl rfl rfl ?_
  refine g_aload_n 63 hM rfl rfl rfl ?_
  refine g_iload_n 64 hM rfl rfl rfl ?_
  refine g_bipush 66 hM rfl rfl rfl ?_
  obtain ⟨hg1, h⟩ := zg_some h
  by_cases hc2 : v1 = 16
  · rw [if_pos hc2] at h
    refine g_ic_ne_f 69 85 hM rfl rfl rfl hg1 (zR_lit rfl) hc2 ?_
    refine g_iload_n 70 hM rfl rfl rfl ?_
    obtain ⟨hg3, h⟩ := zg_some h
    by_cases hc4 : t0 = 0
    · rw [if_pos hc4] at h
      refine g_if_eq_t 81 hM rfl rfl hg3 hc4 ?_
      refine g_iconst 82 hM rfl rfl ?_
      refine g_goto 139 hM rfl rfl ?_
      obtain ⟨r6, s7, h5, h⟩ := zb_some h
      refine g_call 142 _ [] hM rfl rfl rfl rfl rfl (xM_206 _) rfl (z_rcv2 rfl) rfl rfl (by omega) (w_206 (by omega) h5) rfl ?_
      cases h
      exact g_ret hM rfl rfl
    · rw [if_neg hc4] at h
      refine g_if_eq_f 73 81 hM rfl rfl rfl hg3 hc4 ?_
      refine g_iload_n 74 hM rfl rfl rfl ?_
      obtain ⟨hg8, h⟩ := zg_some h
      by_cases hc9 : v2 = 0
      · rw [if_pos hc9] at h
        refine g_if_eq_t 81 hM rfl rfl hg8 hc9 ?_
        refine g_iconst 82 hM rfl rfl ?_
        refine g_goto 139 hM rfl rfl ?_
        obtain ⟨r11, s12, h10, h⟩ := zb_some h
        refine g_call 142 _ [] hM rfl rfl rfl rfl rfl (xM_206 _) rfl (z_rcv2 rfl) rfl rfl (by omega) (w_206 (by omega) h10) rfl ?_
        cases h
        exact g_ret hM rfl rfl
      · rw [if_neg hc9] at h
        refine g_if_eq_f 77 81 hM rfl rfl rfl hg8 hc9 ?_
        refine g_iconst 78 hM rfl rfl ?_
        refine g_goto 139 hM rfl rfl ?_
        obtain ⟨r14, s15, h13, h⟩ := zb_some h
        refine g_call 142 _ [] hM rfl rfl rfl rfl rfl (xM_206 _) rfl (z_rcv2 rfl) rfl rfl (by omega) (w_206 (by omega) h13) rfl ?_
        cases h
        exact g_ret hM rfl rfl
  · rw [if_neg hc2] at h
    refine g_ic_ne_t 85 hM rfl rfl hg1 (zR_lit rfl) hc2 ?_
    refine g_iload_n 86 hM rfl rfl rfl ?_
    refine g_bipush 88 hM rfl rfl rfl ?_
    by_cases hc16 : v1 = 17
    · rw [if_pos hc16] at h
      refine g_ic_ne_f 91 107 hM rfl rfl rfl hg1 (zR_lit rfl) hc16 ?_
      refine g_iload_n 92 hM rfl rfl rfl ?_
      obtain ⟨hg17, h⟩ := zg_some h
      by_cases hc18 : t0 = 0
      · rw [if_pos hc18] at h
        refine g_if_ne_f 95 99 hM rfl rfl rfl hg17 hc18 ?_
        refine g_iload_n 96 hM rfl rfl rfl ?_
        obtain ⟨hg19, h⟩ := zg_some h
        by_cases hc20 : v2 = 0
        · rw [if_pos hc20] at h
          refine g_if_eq_t 103 hM rfl rfl hg19 hc20 ?_
          refine g_iconst 104 hM rfl rfl ?_
          refine g_goto 139 hM rfl rfl ?_
          obtain ⟨r22, s23, h21, h⟩ := zb_some h
          refine g_call 142 _ [] hM rfl rfl rfl rfl rfl (xM_206 _) rfl (z_rcv2 rfl) rfl rfl (by omega) (w_206 (by omega) h21) rfl ?_
          cases h
          exact g_ret hM rfl rfl
        · rw [if_neg hc20] at h
          refine g_if_eq_f 99 103 hM rfl rfl rfl hg19 hc20 ?_
          refine g_iconst 100 hM rfl rfl ?_
          refine g_goto 139 hM rfl rfl ?_
          obtain ⟨r25, s26, h24, h⟩ := zb_some h
          refine g_call 142 _ [] hM rfl rfl rfl rfl rfl (xM_206 _) rfl (z_rcv2 rfl) rfl rfl (by omega) (w_206 (by omega) h24) rfl ?_
          cases h
          exact g_ret hM rfl rfl
      · rw [if_neg hc18] at h
        refine g_if_ne_t 99 hM rfl rfl hg17 hc18 ?_
        refine g_iconst 100 hM rfl rfl ?_
        refine g_goto 139 hM rfl rfl ?_
        obtain ⟨r28, s29, h27, h⟩ := zb_some h
        refine g_call 142 _ [] hM rfl rfl rfl rfl rfl (xM_206 _) rfl (z_rcv2 rfl) rfl rfl (by omega) (w_206 (by omega) h27) rfl ?_
        cases h
        exact g_ret hM rfl rfl
    · rw [if_neg hc16] at h
      refine g_ic_ne_t 107 hM rfl rfl hg1 (zR_lit rfl) hc16 ?_
      refine g_iload_n 108 hM rfl rfl rfl ?_
      refine g_bipush 110 hM rfl rfl rfl ?_
      by_cases hc30 : v1 = 18
      · rw [if_pos hc30] at h
        refine g_ic_ne_f 113 129 hM rfl rfl rfl hg1 (zR_lit rfl) hc30 ?_
        refine g_iload_n 114 hM rfl rfl rfl ?_
        obtain ⟨hg31, h⟩ := zg_some h
        by_cases hc32 : t0 = 0
        · rw [if_pos hc32] at h
          refine g_if_eq_t 121 hM rfl rfl hg31 hc32 ?_
          refine g_iconst 122 hM rfl rfl ?_
          refine g_goto 139 hM rfl rfl ?_
          obtain ⟨r34, s35, h33, h⟩ := zb_some h
          refine g_call 142 _ [] hM rfl rfl rfl rfl rfl (xM_206 _) rfl (z_rcv2 rfl) rfl rfl (by omega) (w_206 (by omega) h33) rfl ?_
          cases h
          exact g_ret hM rfl rfl
        · rw [if_neg hc32] at h
          refine g_if_eq_f 117 121 hM rfl rfl rfl hg31 hc32 ?_
          refine g_iload_n 118 hM rfl rfl rfl ?_
          obtain ⟨hg36, h⟩ := zg_some h
          by_cases hc37 : v2 = 0
          · rw [if_pos hc37] at h
            refine g_if_eq_t 125 hM rfl rfl hg36 hc37 ?_
            refine g_iconst 126 hM rfl rfl ?_
            refine g_goto 139 hM rfl rfl ?_
            obtain ⟨r39, s40, h38, h⟩ := zb_some h
            refine g_call 142 _ [] hM rfl rfl rfl rfl rfl (xM_206 _) rfl (z_rcv2 rfl) rfl rfl (by omega) (w_206 (by omega) h38) rfl ?_
            cases h
            exact g_ret hM rfl rfl
          · rw [if_neg hc37] at h
            refine g_if_eq_f 121 125 hM rfl rfl rfl hg36 hc37 ?_
            refine g_iconst 122 hM rfl rfl ?_
            refine g_goto 139 hM rfl rfl ?_
            obtain ⟨r42, s43, h41, h⟩ := zb_some h
            refine g_call 142 _ [] hM rfl rfl rfl rfl rfl (xM_206 _) rfl (z_rcv2 rfl) rfl rfl (by omega) (w_206 (by omega) h41) rfl ?_
            cases h
            exact g_ret hM rfl rfl
      · rw [if_neg hc30] at h
        refine g_ic_ne_t 129 hM rfl rfl hg1 (zR_lit rfl) hc30 ?_
        refine g_iload_n 130 hM rfl rfl rfl ?_
        refine g_iload_n 131 hM rfl rfl rfl ?_
        obtain ⟨hg44, h⟩ := zg_some h
        obtain ⟨hg45, h⟩ := zg_some h
        by_cases hc46 : t0 = v2
        · rw [if_pos hc46] at h
          refine g_ic_ne_f 134 138 hM rfl rfl rfl hg44 hg45 hc46 ?_
          refine g_iconst 135 hM rfl rfl ?_
          refine g_goto 139 hM rfl rfl ?_
          obtain ⟨r48, s49, h47, h⟩ := zb_some h
          refine g_call 142 _ [] hM rfl rfl rfl rfl rfl (xM_206 _) rfl (z_rcv2 rfl) rfl rfl (by omega) (w_206 (by omega) h47) rfl ?_
          cases h
          exact g_ret hM rfl rfl
        · rw [if_neg hc46] at h
          refine g_ic_ne_t 138 hM rfl rfl hg44 hg45 hc46 ?_
          refine g_iconst 139 hM rfl rfl ?_
          obtain ⟨r51, s52, h50, h⟩ := zb_some h
          refine g_call 142 _ [] hM rfl rfl rfl rfl rfl (xM_206 _) rfl (z_rcv2 rfl) rfl rfl (by omega) (w_206 (by omega) h50) rfl ?_
          cases h
          exact g_ret hM rfl rfl
def j_219_29 (v1 : Int) (t0 : Int) (s : zS) : Option (Unit × zS) := zg (0 ≤ ((gI s 177 46) - 1) ∧ ((gI s 177 46) - 1) < 128) (if (gJ s 198 ((gI s 177 46) - 1)) = (1#64) then (j_219_51 v1 t0 1 s) else (j_219_51 v1 t0 0 s))
theorem wj_219_29 {k : zK} {d : Nat} {x : am_H} {v1 : Int} {t0 : Int} {s : zS} {q : (Unit × zS)} (hd : 2 ≤ d) (h : j_219_29 v1 t0 s = some q) : zgo k d 219 (29, [(0, .ref 177), (1, .int (Int32.ofInt v1))], [.int (Int32.ofInt t0)]) (hp s ++ x) (.inl (none), hp q.2 ++ x) := by
  unfold j_219_29 at h
  have hM := xM_219 k.1
  refine g_istore_n 30 hM rfl rfl rfl ?_
  refine g_aload_n 31 hM rfl rfl rfl ?_
  refine g_getF 34 hM rfl rfl rfl rfl rfl ?_
  refine g_aload_n 35 hM rfl rfl rfl ?_
  refine g_getI 38 46 (gI s 177 46) hM rfl rfl rfl rfl rfl rfl rfl ?_
  refine g_iconst 39 hM rfl rfl ?_
  refine g_isub 40 hM rfl rfl ?_
  obtain ⟨hg1, h⟩ := zg_some h
  refine g_laload 41 (gJ s 198 ((gI s 177 46) - 1)) hM rfl rfl rfl rfl hg1 rfl ?_
  refine g_lconst 42 (1#64) hM rfl rfl rfl ?_
  by_cases hc2 : (gJ s 198 ((gI s 177 46) - 1)) = (1#64)
  · rw [if_pos hc2] at h
    refine g_lc_ne_f 43 46 50 hM rfl rfl rfl rfl rfl hc2 ?_
    refine g_iconst 47 hM rfl rfl ?_
    refine g_goto 51 hM rfl rfl ?_
    refine g_lv [(0, .ref 177), (1, .int (Int32.ofInt v1)), (2, .int (Int32.ofInt t0))] rfl ⟨rfl, rfl, rfl, trivial⟩ ?_
    exact wj_219_51 (by omega) h
  · rw [if_neg hc2] at h
    refine g_lc_ne_t 43 50 hM rfl rfl rfl rfl hc2 ?_
    refine g_iconst 51 hM rfl rfl ?_
    refine g_lv [(0, .ref 177), (1, .int (Int32.ofInt v1)), (2, .int (Int32.ofInt t0))] rfl ⟨rfl, rfl, rfl, trivial⟩ ?_
    exact wj_219_51 (by omega) h
/-- RelationFinderModel.twoTruths(I)V -/
def f_219 (v1 : Int) (s : zS) : Option (Unit × zS) := zg (0 ≤ (gI (sI s 177 46 ((gI s 177 46) - 1)) 177 46) ∧ (gI (sI s 177 46 ((gI s 177 46) - 1)) 177 46) < 128) (if (gJ s 198 (gI (sI s 177 46 ((gI s 177 46) - 1)) 177 46)) = (1#64) then (j_219_29 v1 1 (sI s 177 46 ((gI s 177 46) - 1))) else (j_219_29 v1 0 (sI s 177 46 ((gI s 177 46) - 1))))
theorem w_219 {k : zK} {d : Nat} {x : am_H} {v1 : Int} {s : zS} {q : (Unit × zS)} (hd : 2 ≤ d) (h : f_219 v1 s = some q) : zgo k d 219 (0, [(0, .ref 177), (1, .int (Int32.ofInt v1))], []) (hp s ++ x) (.inl (none), hp q.2 ++ x) := by
  unfold f_219 at h
  have hM := xM_219 k.1
  refine g_aload_n 1 hM rfl rfl rfl ?_
  refine g_dup 2 hM rfl rfl rfl ?_
  refine g_getI 5 46 (gI s 177 46) hM rfl rfl rfl rfl rfl rfl rfl ?_
  refine g_iconst 6 hM rfl rfl ?_
  refine g_isub 7 hM rfl rfl ?_
  refine g_putI 10 46 hM rfl rfl rfl rfl rfl rfl rfl ?_
  refine g_aload_n 11 hM rfl rfl rfl ?_
  refine g_getF 14 hM rfl rfl rfl rfl rfl ?_
  refine g_aload_n 15 hM rfl rfl rfl ?_
  refine g_getI 18 46 (gI (sI s 177 46 ((gI s 177 46) - 1)) 177 46) hM rfl rfl rfl rfl rfl rfl rfl ?_
  obtain ⟨hg1, h⟩ := zg_some h
  refine g_laload 19 (gJ s 198 (gI (sI s 177 46 ((gI s 177 46) - 1)) 177 46)) hM rfl rfl rfl rfl hg1 rfl ?_
  refine g_lconst 20 (1#64) hM rfl rfl rfl ?_
  by_cases hc2 : (gJ s 198 (gI (sI s 177 46 ((gI s 177 46) - 1)) 177 46)) = (1#64)
  · rw [if_pos hc2] at h
    refine g_lc_ne_f 21 24 28 hM rfl rfl rfl rfl rfl hc2 ?_
    refine g_iconst 25 hM rfl rfl ?_
    refine g_goto 29 hM rfl rfl ?_
    refine g_lv [(0, .ref 177), (1, .int (Int32.ofInt v1))] rfl ⟨rfl, rfl, trivial⟩ ?_
    exact wj_219_29 (by omega) h
  · rw [if_neg hc2] at h
    refine g_lc_ne_t 21 28 hM rfl rfl rfl rfl hc2 ?_
    refine g_iconst 29 hM rfl rfl ?_
    refine g_lv [(0, .ref 177), (1, .int (Int32.ofInt v1))] rfl ⟨rfl, rfl, trivial⟩ ?_
    exact wj_219_29 (by omega) h
def t_208_47 (a : Int) : Nat := zswt 30 36 [201, 210, 217, 225, 88, 123, 166] 233 a
def j_208_239 (s : zS) : Option (Unit × zS) := zg (0 ≤ ((gI s 177 46) - 1) ∧ ((gI s 177 46) - 1) < 128) (some ((), (sJ (sJ s 198 ((gI s 177 46) - 1) (gJ s 177 47)) 199 ((gI s 177 46) - 1) (gJ s 177 48))))
theorem wj_208_239 {k : zK} {d : Nat} {x : am_H} {s : zS} {q : (Unit × zS)} (hd : 2 ≤ d) (h : j_208_239 s = some q) : zgo k d 208 (239, [(0, .ref 177)], []) (hp s ++ x) (.inl (none), hp q.2 ++ x) := by
  unfold j_208_239 at h
  have hM := xM_208 k.1
  refine g_aload_n 240 hM rfl rfl rfl ?_
  refine g_getF 243 hM rfl rfl rfl rfl rfl ?_
  refine g_aload_n 244 hM rfl rfl rfl ?_
  refine g_getI 247 46 (gI s 177 46) hM rfl rfl rfl rfl rfl rfl rfl ?_
  refine g_iconst 248 hM rfl rfl ?_
  refine g_isub 249 hM rfl rfl ?_
  refine g_aload_n 250 hM rfl rfl rfl ?_
  refine g_getJ 253 47 (gJ s 177 47) hM rfl rfl rfl rfl rfl rfl rfl ?_
  obtain ⟨hg1, h⟩ := zg_some h
  refine g_lastore 254 hM rfl rfl rfl rfl hg1 ?_
  refine g_aload_n 255 hM rfl rfl rfl ?_
  refine g_getF 258 hM rfl rfl rfl rfl rfl ?_
  refine g_aload_n 259 hM rfl rfl rfl ?_
  refine g_getI 262 46 (gI s 177 46) hM rfl rfl rfl rfl rfl rfl rfl ?_
  refine g_iconst 263 hM rfl rfl ?_
  refine g_isub 264 hM rfl rfl ?_
  refine g_aload_n 265 hM rfl rfl rfl ?_
  refine g_getJ 268 48 (gJ s 177 48) hM rfl rfl rfl rfl rfl rfl rfl ?_
  refine g_lastore 269 hM rfl rfl rfl rfl hg1 ?_
  cases h
  exact g_ret hM rfl rfl
def G_209_34 (k : zK) (d : Nat) (x : am_H) (r : am_A × am_H) (v1 : Int) (v3 : Int) (w4 : BitVec 64) (e : (Int × zS)) : Prop := zgo k d 209 (34, [(0, .ref 177), (1, .int (Int32.ofInt v1)), (3, .int (Int32.ofInt v3)), (4, .long (Int64.ofBitVec w4)), (6, .int (Int32.ofInt e.1))], []) (hp e.2 ++ x) r
def K_209_34 (k : zK) (d : Nat) (x : am_H) (r : am_A × am_H) (v1 : Int) (v3 : Int) (w4 : BitVec 64) (t : (zS)) : Prop := zgo k d 209 (90, [], []) (hp t ++ x) r
/-- RelationFinderModel.join(IJ)V -/
def f_212 (v1 : Int) (w2 : BitVec 64) (s : zS) : Option (Unit × zS) := zg (zR v1) (if v1 < 64 then (if v1 = 0 then (some ((), (sJ (sJ s 177 47 ((gJ s 177 47) ||| (w2 <<< zshl v1))) 177 48 (gJ s 177 48)))) else (zg (zR (64 - v1)) (some ((), (sJ (sJ s 177 47 ((gJ s 177 47) ||| (w2 <<< zshl v1))) 177 48 ((gJ s 177 48) ||| (w2 >>> zshl (64 - v1)))))))) else (zg (zR (v1 - 64)) (some ((), (sJ s 177 48 ((gJ s 177 48) ||| (w2 <<< zshl (v1 - 64))))))))
theorem w_212 {k : zK} {d : Nat} {x : am_H} {v1 : Int} {w2 : BitVec 64} {s : zS} {q : (Unit × zS)} (hd : 0 ≤ d) (h : f_212 v1 w2 s = some q) : zgo k d 212 (0, [(0, .ref 177), (1, .int (Int32.ofInt v1)), (2, .long (Int64.ofBitVec w2))], []) (hp s ++ x) (.inl (none), hp q.2 ++ x) := by
  unfold f_212 at h
  have hM := xM_212 k.1
  refine g_iload_n 1 hM rfl rfl rfl ?_
  refine g_bipush 3 hM rfl rfl rfl ?_
  obtain ⟨hg1, h⟩ := zg_some h
  by_cases hc2 : v1 < 64
  · rw [if_pos hc2] at h
    refine g_ic_lt_t 24 hM rfl rfl hg1 (zR_lit rfl) hc2 ?_
    refine g_aload_n 25 hM rfl rfl rfl ?_
    refine g_aload_n 26 hM rfl rfl rfl ?_
    refine g_getJ 29 47 (gJ s 177 47) hM rfl rfl rfl rfl rfl rfl rfl ?_
    refine g_lload_n 30 hM rfl rfl rfl ?_
    refine g_iload_n 31 hM rfl rfl rfl ?_
    refine g_lshl 32 hM rfl rfl hg1 ?_
    refine g_lor 33 hM rfl rfl ?_
    refine g_putJ 36 47 hM rfl rfl rfl rfl rfl rfl rfl ?_
    refine g_aload_n 37 hM rfl rfl rfl ?_
    refine g_iload_n 38 hM rfl rfl rfl ?_
    by_cases hc3 : v1 = 0
    · rw [if_pos hc3] at h
      refine g_if_ne_f 41 48 hM rfl rfl rfl hg1 hc3 ?_
      refine g_aload_n 42 hM rfl rfl rfl ?_
      refine g_getJ 45 48 (gJ s 177 48) hM rfl rfl rfl rfl rfl rfl rfl ?_
      refine g_goto 59 hM rfl rfl ?_
      refine g_putJ 62 48 hM rfl rfl rfl rfl rfl rfl rfl ?_
      cases h
      exact g_ret hM rfl rfl
    · rw [if_neg hc3] at h
      refine g_if_ne_t 48 hM rfl rfl hg1 hc3 ?_
      refine g_aload_n 49 hM rfl rfl rfl ?_
      refine g_getJ 52 48 (gJ s 177 48) hM rfl rfl rfl rfl rfl rfl rfl ?_
      refine g_lload_n 53 hM rfl rfl rfl ?_
      refine g_bipush 55 hM rfl rfl rfl ?_
      refine g_iload_n 56 hM rfl rfl rfl ?_
      refine g_isub 57 hM rfl rfl ?_
      obtain ⟨hg4, h⟩ := zg_some h
      refine g_lushr 58 hM rfl rfl hg4 ?_
      refine g_lor 59 hM rfl rfl ?_
      refine g_putJ 62 48 hM rfl rfl rfl rfl rfl rfl rfl ?_
      cases h
      exact g_ret hM rfl rfl
  · rw [if_neg hc2] at h
    refine g_ic_lt_f 6 24 hM rfl rfl rfl hg1 (zR_lit rfl) hc2 ?_
    refine g_aload_n 7 hM rfl rfl rfl ?_
    refine g_aload_n 8 hM rfl rfl rfl ?_
    refine g_getJ 11 48 (gJ s 177 48) hM rfl rfl rfl rfl rfl rfl rfl ?_
    refine g_lload_n 12 hM rfl rfl rfl ?_
    refine g_iload_n 13 hM rfl rfl rfl ?_
    refine g_bipush 15 hM rfl rfl rfl ?_
    refine g_isub 16 hM rfl rfl ?_
    obtain ⟨hg5, h⟩ := zg_some h
    refine g_lshl 17 hM rfl rfl hg5 ?_
    refine g_lor 18 hM rfl rfl ?_
    refine g_putJ 21 48 hM rfl rfl rfl rfl rfl rfl rfl ?_
    refine g_goto 62 hM rfl rfl ?_
    cases h
    exact g_ret hM rfl rfl
def b_209_34 (v1 : Int) (v3 : Int) (w4 : BitVec 64) (v6 : Int) (s : zS) : Option ((Int × zS) ⊕ (zS)) := zo (f_153 v1 s) (fun r2 => zg (zR v6) (zg (zR r2) (if v6 < r2 then (zg (0 ≤ ((gI s 177 46) - 1) ∧ ((gI s 177 46) - 1) < 128) (zo (f_211 (gJ s 198 ((gI s 177 46) - 1)) (gJ s 199 ((gI s 177 46) - 1)) v6) (fun r8 => zg (zR r8) (if r8 = 0 then (some (.inl ((v6 + 1), s))) else (zb (f_212 (v6 * v3) w4 s) (fun r12 s13 => some (.inl ((v6 + 1), s13)))))))) else (some (.inr s)))))
theorem wb_209_34 {k : zK} {d : Nat} {x : am_H} {r : am_A × am_H} {v1 : Int} {v3 : Int} {w4 : BitVec 64} {v6 : Int} {s : zS} {q : (Int × zS) ⊕ (zS)} (hd : 1 ≤ d) (h : b_209_34 v1 v3 w4 v6 s = some q) (hK : Sum.elim (G_209_34 k d x r v1 v3 w4) (K_209_34 k d x r v1 v3 w4) q) : G_209_34 k d x r v1 v3 w4 (v6, s) := by
  unfold b_209_34 at h
  have hM := xM_209 k.1
  show zgo k d 209 (34, [(0, .ref 177), (1, .int (Int32.ofInt v1)), (3, .int (Int32.ofInt v3)), (4, .long (Int64.ofBitVec w4)), (6, .int (Int32.ofInt v6))], []) (hp s ++ x) r
  refine g_iload 36 hM rfl rfl rfl ?_
  refine g_aload_n 37 hM rfl rfl rfl ?_
  refine g_iload_n 38 hM rfl rfl rfl ?_
  obtain ⟨r2, h1, h⟩ := zo_some h
  refine g_call 41 _ [.int (Int32.ofInt r2), .int (Int32.ofInt v6)] hM rfl rfl rfl rfl rfl (xM_153 _) rfl (z_rcv2 rfl) rfl rfl (by omega) (w_153 (by omega) h1) rfl ?_
  obtain ⟨hg3, h⟩ := zg_some h
  obtain ⟨hg4, h⟩ := zg_some h
  by_cases hc5 : v6 < r2
  · rw [if_pos hc5] at h
    refine g_ic_ge_f 44 90 hM rfl rfl rfl hg3 hg4 hc5 ?_
    refine g_aload_n 45 hM rfl rfl rfl ?_
    refine g_getF 48 hM rfl rfl rfl rfl rfl ?_
    refine g_aload_n 49 hM rfl rfl rfl ?_
    refine g_getI 52 46 (gI s 177 46) hM rfl rfl rfl rfl rfl rfl rfl ?_
    refine g_iconst 53 hM rfl rfl ?_
    refine g_isub 54 hM rfl rfl ?_
    obtain ⟨hg6, h⟩ := zg_some h
    refine g_laload 55 (gJ s 198 ((gI s 177 46) - 1)) hM rfl rfl rfl rfl hg6 rfl ?_
    refine g_aload_n 56 hM rfl rfl rfl ?_
    refine g_getF 59 hM rfl rfl rfl rfl rfl ?_
    refine g_aload_n 60 hM rfl rfl rfl ?_
    refine g_getI 63 46 (gI s 177 46) hM rfl rfl rfl rfl rfl rfl rfl ?_
    refine g_iconst 64 hM rfl rfl ?_
    refine g_isub 65 hM rfl rfl ?_
    refine g_laload 66 (gJ s 199 ((gI s 177 46) - 1)) hM rfl rfl rfl rfl hg6 rfl ?_
    refine g_iload 68 hM rfl rfl rfl ?_
    obtain ⟨r8, h7, h⟩ := zo_some h
    refine g_call 71 _ [.int (Int32.ofInt r8)] hM rfl rfl rfl rfl rfl (xM_211 _) rfl rfl rfl rfl (by omega) (w_211 (by omega) h7) rfl ?_
    obtain ⟨hg9, h⟩ := zg_some h
    by_cases hc10 : r8 = 0
    · rw [if_pos hc10] at h
      refine g_if_eq_t 84 hM rfl rfl hg9 hc10 ?_
      refine g_iinc 87 hM rfl rfl rfl rfl ?_
      refine g_goto 34 hM rfl rfl ?_
      cases h
      exact g_lv [(0, .ref 177), (1, .int (Int32.ofInt v1)), (3, .int (Int32.ofInt v3)), (4, .long (Int64.ofBitVec w4)), (6, .int (Int32.ofInt (v6 + 1)))] rfl ⟨rfl, rfl, rfl, rfl, rfl, trivial⟩ hK
    · rw [if_neg hc10] at h
      refine g_if_eq_f 74 84 hM rfl rfl rfl hg9 hc10 ?_
      refine g_aload_n 75 hM rfl rfl rfl ?_
      refine g_iload 77 hM rfl rfl rfl ?_
      refine g_iload_n 78 hM rfl rfl rfl ?_
      refine g_imul 79 hM rfl rfl ?_
      refine g_lload 81 hM rfl rfl rfl ?_
      obtain ⟨r12, s13, h11, h⟩ := zb_some h
      refine g_call 84 _ [] hM rfl rfl rfl rfl rfl (xM_212 _) rfl (z_rcv2 rfl) rfl rfl (by omega) (w_212 (by omega) h11) rfl ?_
      refine g_iinc 87 hM rfl rfl rfl rfl ?_
      refine g_goto 34 hM rfl rfl ?_
      cases h
      exact g_lv [(0, .ref 177), (1, .int (Int32.ofInt v1)), (3, .int (Int32.ofInt v3)), (4, .long (Int64.ofBitVec w4)), (6, .int (Int32.ofInt (v6 + 1)))] rfl ⟨rfl, rfl, rfl, rfl, rfl, trivial⟩ hK
  · rw [if_neg hc5] at h
    refine g_ic_ge_t 90 hM rfl rfl hg3 hg4 hc5 ?_
    cases h
    exact g_lv [] rfl trivial hK
theorem wl_209_34 {k : zK} {d : Nat} {x : am_H} {r : am_A × am_H} {v1 : Int} {v3 : Int} {w4 : BitVec 64} {n : Nat} {e : (Int × zS)} {t : (zS)} (hd : 1 ≤ d) (h : zlp (fun (q : Int × zS) => b_209_34 v1 v3 w4 q.1 q.2) n e = some t) (hK : K_209_34 k d x r v1 v3 w4 t) : G_209_34 k d x r v1 v3 w4 e := zlp_go (G := fun e => G_209_34 k d x r v1 v3 w4 e) (K := K_209_34 k d x r v1 v3 w4) (fun e e1 h1 hg => wb_209_34 (q := .inl e1) hd h1 hg) (fun e t1 h1 hk => wb_209_34 (q := .inr t1) hd h1 hk) n e t h hK
/-- RelationFinderModel.product(II)V -/
def f_209 (v1 : Int) (v2 : Int) (s : zS) : Option (Unit × zS) := zo (f_153 v2 s) (fun r2 => zg (0 ≤ (gI s 177 46) ∧ (gI s 177 46) < 128) (zo (f_210 (gJ s 198 (gI s 177 46)) (gJ s 199 (gI s 177 46)) 0 r2) (fun r5 => zo (zlp (fun (q : Int × zS) => b_209_34 v1 r2 r5 q.1 q.2) zF (0, s)) (fun e6 => some ((), e6)))))
theorem w_209 {k : zK} {d : Nat} {x : am_H} {v1 : Int} {v2 : Int} {s : zS} {q : (Unit × zS)} (hd : 1 ≤ d) (h : f_209 v1 v2 s = some q) : zgo k d 209 (0, [(0, .ref 177), (1, .int (Int32.ofInt v1)), (2, .int (Int32.ofInt v2))], []) (hp s ++ x) (.inl (none), hp q.2 ++ x) := by
  unfold f_209 at h
  have hM := xM_209 k.1
  refine g_aload_n 1 hM rfl rfl rfl ?_
  refine g_iload_n 2 hM rfl rfl rfl ?_
  obtain ⟨r2, h1, h⟩ := zo_some h
  refine g_call 5 _ [.int (Int32.ofInt r2)] hM rfl rfl rfl rfl rfl (xM_153 _) rfl (z_rcv2 rfl) rfl rfl (by omega) (w_153 (by omega) h1) rfl ?_
  refine g_istore_n 6 hM rfl rfl rfl ?_
  refine g_aload_n 7 hM rfl rfl rfl ?_
  refine g_getF 10 hM rfl rfl rfl rfl rfl ?_
  refine g_aload_n 11 hM rfl rfl rfl ?_
  refine g_getI 14 46 (gI s 177 46) hM rfl rfl rfl rfl rfl rfl rfl ?_
  obtain ⟨hg3, h⟩ := zg_some h
  refine g_laload 15 (gJ s 198 (gI s 177 46)) hM rfl rfl rfl rfl hg3 rfl ?_
  refine g_aload_n 16 hM rfl rfl rfl ?_
  refine g_getF 19 hM rfl rfl rfl rfl rfl ?_
  refine g_aload_n 20 hM rfl rfl rfl ?_
  refine g_getI 23 46 (gI s 177 46) hM rfl rfl rfl rfl rfl rfl rfl ?_
  refine g_laload 24 (gJ s 199 (gI s 177 46)) hM rfl rfl rfl rfl hg3 rfl ?_
  refine g_iconst 25 hM rfl rfl ?_
  refine g_iload_n 26 hM rfl rfl rfl ?_
  obtain ⟨r5, h4, h⟩ := zo_some h
  refine g_call 29 _ [.long (Int64.ofBitVec r5)] hM rfl rfl rfl rfl rfl (xM_210 _) rfl rfl rfl rfl (by omega) (w_210 (by omega) h4) rfl ?_
  refine g_lstore 31 hM rfl rfl rfl ?_
  refine g_iconst 32 hM rfl rfl ?_
  refine g_istore 34 hM rfl rfl rfl ?_
  obtain ⟨e6, h7, h⟩ := zo_some h
  refine g_lv [(0, .ref 177), (1, .int (Int32.ofInt v1)), (3, .int (Int32.ofInt r2)), (4, .long (Int64.ofBitVec r5)), (6, .int (Int32.ofInt 0))] rfl ⟨rfl, rfl, rfl, rfl, rfl, trivial⟩ ?_
  refine wl_209_34 (by omega) h7 ?_
  show zgo k d 209 (90, [], []) (hp e6 ++ x) (.inl (none), hp q.2 ++ x)
  cases h
  exact g_ret hM rfl rfl
