/-! THE PURE LAYER: methods as functions, and runs that do what they say (5). By program. -/
/-- RelationFinder$Parser.open(I)Z -/
def f_76 (v1 : Int) (s : zS) : Option (Int × zS) := if (gI s 10 8) < 20 then (zg (0 ≤ (gI s 10 8) ∧ (gI s 10 8) < 20) (zo (f_21 v1) (fun r4 => zg (zR r4) (if r4 = 0 then (some (1, (sI (sI (sI (sI (sI (sI (sI s 11 (gI s 10 8) v1) 12 (gI s 10 8) 0) 13 (gI s 10 8) (gI s 8 5)) 14 (gI s 10 8) (gI s 10 6)) 15 (gI s 10 8) (-1)) 10 8 ((gI s 10 8) + 1)) 10 4 0))) else (zg (zC (gP s 10 2) = true) (zb (f_139 (gP s 10 2) v1 0 0 (sI (sI (sI (sI s 11 (gI s 10 8) v1) 12 (gI s 10 8) 0) 13 (gI s 10 8) (gI s 8 5)) 14 (gI s 10 8) (gI s 10 6))) (fun r9 s10 => some (1, (sI (sI (sI s10 15 (gI s 10 8) r9) 10 8 ((gI s10 10 8) + 1)) 10 4 0))))))))) else (zb (f_74 6 (gI s 8 5) s) (fun r12 s13 => some (0, s13)))
theorem w_76 {k : zK} {d : Nat} {x : am_H} {v1 : Int} {s : zS} {q : (Int × zS)} (hd : 1 ≤ d) (h : f_76 v1 s = some q) : zgo k d 76 (0, [(0, .ref 10), (1, .int (Int32.ofInt v1))], []) (hp s ++ x) (.inl (some (.int (Int32.ofInt q.1))), hp q.2 ++ x) := by
  unfold f_76 at h
  have hM := xM_76 k.1
  refine g_aload_n 1 hM rfl rfl rfl ?_
  refine g_getI 4 8 (gI s 10 8) hM rfl rfl rfl rfl rfl rfl rfl ?_
  refine g_bipush 6 hM rfl rfl rfl ?_
  by_cases hc1 : (gI s 10 8) < 20
  · rw [if_pos hc1] at h
    refine g_ic_lt_t 24 hM rfl rfl (zR_gI _ _ _) (zR_lit rfl) hc1 ?_
    refine g_aload_n 25 hM rfl rfl rfl ?_
    refine g_getF 28 hM rfl rfl rfl rfl rfl ?_
    refine g_aload_n 29 hM rfl rfl rfl ?_
    refine g_getI 32 8 (gI s 10 8) hM rfl rfl rfl rfl rfl rfl rfl ?_
    refine g_iload_n 33 hM rfl rfl rfl ?_
    obtain ⟨hg2, h⟩ := zg_some h
    refine g_iastore 34 hM rfl rfl rfl rfl hg2 ?_
    refine g_aload_n 35 hM rfl rfl rfl ?_
    refine g_getF 38 hM rfl rfl rfl rfl rfl ?_
    refine g_aload_n 39 hM rfl rfl rfl ?_
    refine g_getI 42 8 (gI s 10 8) hM rfl rfl rfl rfl rfl rfl rfl ?_
    refine g_iconst 43 hM rfl rfl ?_
    refine g_iastore 44 hM rfl rfl rfl rfl hg2 ?_
    refine g_aload_n 45 hM rfl rfl rfl ?_
    refine g_getF 48 hM rfl rfl rfl rfl rfl ?_
    refine g_aload_n 49 hM rfl rfl rfl ?_
    refine g_getI 52 8 (gI s 10 8) hM rfl rfl rfl rfl rfl rfl rfl ?_
    refine g_aload_n 53 hM rfl rfl rfl ?_
    refine g_getF 56 hM rfl rfl rfl rfl rfl ?_
    refine g_getI 59 5 (gI s 8 5) hM rfl rfl rfl rfl rfl rfl rfl ?_
    refine g_iastore 60 hM rfl rfl rfl rfl hg2 ?_
    refine g_aload_n 61 hM rfl rfl rfl ?_
    refine g_getF 64 hM rfl rfl rfl rfl rfl ?_
    refine g_aload_n 65 hM rfl rfl rfl ?_
    refine g_getI 68 8 (gI s 10 8) hM rfl rfl rfl rfl rfl rfl rfl ?_
    refine g_aload_n 69 hM rfl rfl rfl ?_
    refine g_getI 72 6 (gI s 10 6) hM rfl rfl rfl rfl rfl rfl rfl ?_
    refine g_iastore 73 hM rfl rfl rfl rfl hg2 ?_
    refine g_aload_n 74 hM rfl rfl rfl ?_
    refine g_getF 77 hM rfl rfl rfl rfl rfl ?_
    refine g_aload_n 78 hM rfl rfl rfl ?_
    refine g_getI 81 8 (gI s 10 8) hM rfl rfl rfl rfl rfl rfl rfl ?_
    refine g_iload_n 82 hM rfl rfl rfl ?_
    obtain ⟨r4, h3, h⟩ := zo_some h
    refine g_call 85 _ [.int (Int32.ofInt r4), .int (Int32.ofInt (gI s 10 8)), .ref 15] hM rfl rfl rfl rfl rfl (xM_21 _) rfl rfl rfl rfl (by omega) (w_21 (by omega) h3) rfl ?_
    obtain ⟨hg5, h⟩ := zg_some h
    by_cases hc6 : r4 = 0
    · rw [if_pos hc6] at h
      refine g_if_eq_t 101 hM rfl rfl hg5 hc6 ?_
      refine g_iconst 102 hM rfl rfl ?_
      refine g_iastore 103 hM rfl rfl rfl rfl hg2 ?_
      refine g_aload_n 104 hM rfl rfl rfl ?_
      refine g_dup 105 hM rfl rfl rfl ?_
      refine g_getI 108 8 (gI s 10 8) hM rfl rfl rfl rfl rfl rfl rfl ?_
      refine g_iconst 109 hM rfl rfl ?_
      refine g_iadd 110 hM rfl rfl ?_
      refine g_putI 113 8 hM rfl rfl rfl rfl rfl rfl rfl ?_
      refine g_aload_n 114 hM rfl rfl rfl ?_
      refine g_iconst 115 hM rfl rfl ?_
      refine g_putI 118 4 hM rfl rfl rfl rfl rfl rfl rfl ?_
      refine g_iconst 119 hM rfl rfl ?_
      cases h
      exact g_ret hM rfl rfl
    · rw [if_neg hc6] at h
      refine g_if_eq_f 88 101 hM rfl rfl rfl hg5 hc6 ?_
      refine g_aload_n 89 hM rfl rfl rfl ?_
      obtain ⟨hg7, h⟩ := zg_some h
      refine g_getN 92 2 (gP s 10 2) hM rfl rfl rfl rfl rfl rfl rfl (zC_ne hg7) ?_
      refine g_iload_n 93 hM rfl rfl rfl ?_
      refine g_iconst 94 hM rfl rfl ?_
      refine g_iconst 95 hM rfl rfl ?_
      obtain ⟨r9, s10, h8, h⟩ := zb_some h
      refine g_call 98 _ [.int (Int32.ofInt r9), .int (Int32.ofInt (gI s 10 8)), .ref 15] hM rfl rfl rfl rfl rfl (xM_139 _) rfl (z_rcv2 (zC_obj hg7)) rfl rfl (by omega) (w_139 (by omega) h8) rfl ?_
      refine g_goto 102 hM rfl rfl ?_
      refine g_iastore 103 hM rfl rfl rfl rfl hg2 ?_
      refine g_aload_n 104 hM rfl rfl rfl ?_
      refine g_dup 105 hM rfl rfl rfl ?_
      refine g_getI 108 8 (gI s10 10 8) hM rfl rfl rfl rfl rfl rfl rfl ?_
      refine g_iconst 109 hM rfl rfl ?_
      refine g_iadd 110 hM rfl rfl ?_
      refine g_putI 113 8 hM rfl rfl rfl rfl rfl rfl rfl ?_
      refine g_aload_n 114 hM rfl rfl rfl ?_
      refine g_iconst 115 hM rfl rfl ?_
      refine g_putI 118 4 hM rfl rfl rfl rfl rfl rfl rfl ?_
      refine g_iconst 119 hM rfl rfl ?_
      cases h
      exact g_ret hM rfl rfl
  · rw [if_neg hc1] at h
    refine g_ic_lt_f 9 24 hM rfl rfl rfl (zR_gI _ _ _) (zR_lit rfl) hc1 ?_
    refine g_aload_n 10 hM rfl rfl rfl ?_
    refine g_bipush 12 hM rfl rfl rfl ?_
    refine g_aload_n 13 hM rfl rfl rfl ?_
    refine g_getF 16 hM rfl rfl rfl rfl rfl ?_
    refine g_getI 19 5 (gI s 8 5) hM rfl rfl rfl rfl rfl rfl rfl ?_
    obtain ⟨r12, s13, h11, h⟩ := zb_some h
    refine g_call 22 _ [] hM rfl rfl rfl rfl rfl (xM_74 _) rfl (z_rcv2 rfl) rfl rfl (by omega) (w_74 (by omega) h11) rfl ?_
    refine g_iconst 23 hM rfl rfl ?_
    cases h
    exact g_ret hM rfl rfl
/-- RelationFinder$Parser.openBinder(I)V -/
def f_77 (v1 : Int) (s : zS) : Option (Unit × zS) := zb (f_76 v1 s) (fun r2 s3 => zg (zR r2) (if r2 = 0 then (some ((), s3)) else (zg (0 ≤ ((gI s3 10 8) - 1) ∧ ((gI s3 10 8) - 1) < 20) (zg (zC (gP s3 10 2) = true) (zb (f_139 (gP s3 10 2) 45 ((gI s3 10 8) - 1) v1 (sI s3 12 ((gI s3 10 8) - 1) 1)) (fun r9 s10 => some ((), (sI (sI s10 15 ((gI s3 10 8) - 1) r9) 10 4 1))))))))
theorem w_77 {k : zK} {d : Nat} {x : am_H} {v1 : Int} {s : zS} {q : (Unit × zS)} (hd : 2 ≤ d) (h : f_77 v1 s = some q) : zgo k d 77 (0, [(0, .ref 10), (1, .int (Int32.ofInt v1))], []) (hp s ++ x) (.inl (none), hp q.2 ++ x) := by
  unfold f_77 at h
  have hM := xM_77 k.1
  refine g_aload_n 1 hM rfl rfl rfl ?_
  refine g_iload_n 2 hM rfl rfl rfl ?_
  obtain ⟨r2, s3, h1, h⟩ := zb_some h
  refine g_call 5 _ [.int (Int32.ofInt r2)] hM rfl rfl rfl rfl rfl (xM_76 _) rfl (z_rcv2 rfl) rfl rfl (by omega) (w_76 (by omega) h1) rfl ?_
  obtain ⟨hg4, h⟩ := zg_some h
  by_cases hc5 : r2 = 0
  · rw [if_pos hc5] at h
    refine g_if_eq_t 52 hM rfl rfl hg4 hc5 ?_
    cases h
    exact g_ret hM rfl rfl
  · rw [if_neg hc5] at h
    refine g_if_eq_f 8 52 hM rfl rfl rfl hg4 hc5 ?_
    refine g_aload_n 9 hM rfl rfl rfl ?_
    refine g_getF 12 hM rfl rfl rfl rfl rfl ?_
    refine g_aload_n 13 hM rfl rfl rfl ?_
    refine g_getI 16 8 (gI s3 10 8) hM rfl rfl rfl rfl rfl rfl rfl ?_
    refine g_iconst 17 hM rfl rfl ?_
    refine g_isub 18 hM rfl rfl ?_
    refine g_iconst 19 hM rfl rfl ?_
    obtain ⟨hg6, h⟩ := zg_some h
    refine g_iastore 20 hM rfl rfl rfl rfl hg6 ?_
    refine g_aload_n 21 hM rfl rfl rfl ?_
    refine g_getF 24 hM rfl rfl rfl rfl rfl ?_
    refine g_aload_n 25 hM rfl rfl rfl ?_
    refine g_getI 28 8 (gI s3 10 8) hM rfl rfl rfl rfl rfl rfl rfl ?_
    refine g_iconst 29 hM rfl rfl ?_
    refine g_isub 30 hM rfl rfl ?_
    refine g_aload_n 31 hM rfl rfl rfl ?_
    obtain ⟨hg7, h⟩ := zg_some h
    refine g_getN 34 2 (gP s3 10 2) hM rfl rfl rfl rfl rfl rfl rfl (zC_ne hg7) ?_
    refine g_bipush 36 hM rfl rfl rfl ?_
    refine g_aload_n 37 hM rfl rfl rfl ?_
    refine g_getI 40 8 (gI s3 10 8) hM rfl rfl rfl rfl rfl rfl rfl ?_
    refine g_iconst 41 hM rfl rfl ?_
    refine g_isub 42 hM rfl rfl ?_
    refine g_iload_n 43 hM rfl rfl rfl ?_
    obtain ⟨r9, s10, h8, h⟩ := zb_some h
    refine g_call 46 _ [.int (Int32.ofInt r9), .int (Int32.ofInt ((gI s3 10 8) - 1)), .ref 15] hM rfl rfl rfl rfl rfl (xM_139 _) rfl (z_rcv2 (zC_obj hg7)) rfl rfl (by omega) (w_139 (by omega) h8) rfl ?_
    refine g_iastore 47 hM rfl rfl rfl rfl hg6 ?_
    refine g_aload_n 48 hM rfl rfl rfl ?_
    refine g_iconst 49 hM rfl rfl ?_
    refine g_putI 52 4 hM rfl rfl rfl rfl rfl rfl rfl ?_
    cases h
    exact g_ret hM rfl rfl
def G_78_7 (k : zK) (d : Nat) (x : am_H) (r : am_A × am_H) (e : (Int × zS)) : Prop := zgo k d 78 (7, [(0, .ref 10), (1, .int (Int32.ofInt e.1))], []) (hp e.2 ++ x) r
def K_78_7 (k : zK) (d : Nat) (x : am_H) (r : am_A × am_H) (t : ((zS) ⊕ (Unit × zS))) : Prop := Sum.elim (fun e => zgo k d 78 (53, [(0, .ref 10)], []) (hp e ++ x) r) (fun q => r = (.inl (none), hp q.2 ++ x)) t
/-- RelationFinder$Parser.endOperand(I)V -/
def f_80 (v1 : Int) (s : zS) : Option (Unit × zS) := some ((), (sI (sI s 10 6 v1) 10 4 4))
theorem w_80 {k : zK} {d : Nat} {x : am_H} {v1 : Int} {s : zS} {q : (Unit × zS)} (hd : 0 ≤ d) (h : f_80 v1 s = some q) : zgo k d 80 (0, [(0, .ref 10), (1, .int (Int32.ofInt v1))], []) (hp s ++ x) (.inl (none), hp q.2 ++ x) := by
  unfold f_80 at h
  have hM := xM_80 k.1
  refine g_aload_n 1 hM rfl rfl rfl ?_
  refine g_iload_n 2 hM rfl rfl rfl ?_
  refine g_putI 5 6 hM rfl rfl rfl rfl rfl rfl rfl ?_
  refine g_aload_n 6 hM rfl rfl rfl ?_
  refine g_iconst 7 hM rfl rfl ?_
  refine g_putI 10 4 hM rfl rfl rfl rfl rfl rfl rfl ?_
  cases h
  exact g_ret hM rfl rfl
/-- RelationFinder$Parser.addOperand(III)V -/
def f_79 (v1 : Int) (v2 : Int) (v3 : Int) (s : zS) : Option (Unit × zS) := zg (zC (gP s 10 2) = true) (zb (f_139 (gP s 10 2) v1 v2 0 s) (fun r3 s4 => zb (f_80 v3 s4) (fun r6 s7 => some ((), s7))))
theorem w_79 {k : zK} {d : Nat} {x : am_H} {v1 : Int} {v2 : Int} {v3 : Int} {s : zS} {q : (Unit × zS)} (hd : 1 ≤ d) (h : f_79 v1 v2 v3 s = some q) : zgo k d 79 (0, [(0, .ref 10), (1, .int (Int32.ofInt v1)), (2, .int (Int32.ofInt v2)), (3, .int (Int32.ofInt v3))], []) (hp s ++ x) (.inl (none), hp q.2 ++ x) := by
  unfold f_79 at h
  have hM := xM_79 k.1
  refine g_aload_n 1 hM rfl rfl rfl ?_
  obtain ⟨hg1, h⟩ := zg_some h
  refine g_getN 4 2 (gP s 10 2) hM rfl rfl rfl rfl rfl rfl rfl (zC_ne hg1) ?_
  refine g_iload_n 5 hM rfl rfl rfl ?_
  refine g_iload_n 6 hM rfl rfl rfl ?_
  refine g_iconst 7 hM rfl rfl ?_
  obtain ⟨r3, s4, h2, h⟩ := zb_some h
  refine g_call 10 _ [.int (Int32.ofInt r3)] hM rfl rfl rfl rfl rfl (xM_139 _) rfl (z_rcv2 (zC_obj hg1)) rfl rfl (by omega) (w_139 (by omega) h2) rfl ?_
  refine g_pop 11 hM rfl rfl rfl ?_
  refine g_aload_n 12 hM rfl rfl rfl ?_
  refine g_iload_n 13 hM rfl rfl rfl ?_
  obtain ⟨r6, s7, h5, h⟩ := zb_some h
  refine g_call 16 _ [] hM rfl rfl rfl rfl rfl (xM_80 _) rfl (z_rcv2 rfl) rfl rfl (by omega) (w_80 (by omega) h5) rfl ?_
  cases h
  exact g_ret hM rfl rfl
def b_78_7 (v1 : Int) (s : zS) : Option ((Int × zS) ⊕ ((zS) ⊕ (Unit × zS))) := zg (zR v1) (if v1 < 0 then (some (.inr (.inl s))) else (zg (0 ≤ v1 ∧ v1 < 20) (if (gI s 12 v1) = 2 then (if (gJ s 16 v1) = (gJ s 8 6) then (zb (f_79 43 v1 1 s) (fun r7 s8 => some (.inr (.inr ((), s8))))) else (some (.inl ((v1 + (-1)), s)))) else (some (.inl ((v1 + (-1)), s))))))
theorem wb_78_7 {k : zK} {d : Nat} {x : am_H} {r : am_A × am_H} {v1 : Int} {s : zS} {q : (Int × zS) ⊕ ((zS) ⊕ (Unit × zS))} (hd : 2 ≤ d) (h : b_78_7 v1 s = some q) (hK : Sum.elim (G_78_7 k d x r) (K_78_7 k d x r) q) : G_78_7 k d x r (v1, s) := by
  unfold b_78_7 at h
  have hM := xM_78 k.1
  show zgo k d 78 (7, [(0, .ref 10), (1, .int (Int32.ofInt v1))], []) (hp s ++ x) r
  refine g_iload_n 8 hM rfl rfl rfl ?_
  obtain ⟨hg1, h⟩ := zg_some h
  by_cases hc2 : v1 < 0
  · rw [if_pos hc2] at h
    refine g_if_lt_t 53 hM rfl rfl hg1 hc2 ?_
    cases h
    exact g_lv [(0, .ref 10)] rfl ⟨rfl, trivial⟩ hK
  · rw [if_neg hc2] at h
    refine g_if_lt_f 11 53 hM rfl rfl rfl hg1 hc2 ?_
    refine g_aload_n 12 hM rfl rfl rfl ?_
    refine g_getF 15 hM rfl rfl rfl rfl rfl ?_
    refine g_iload_n 16 hM rfl rfl rfl ?_
    obtain ⟨hg3, h⟩ := zg_some h
    refine g_iaload 17 (gI s 12 v1) hM rfl rfl rfl rfl hg3 rfl ?_
    refine g_iconst 18 hM rfl rfl ?_
    by_cases hc4 : (gI s 12 v1) = 2
    · rw [if_pos hc4] at h
      refine g_ic_ne_f 21 47 hM rfl rfl rfl (zR_gI _ _ _) (zR_lit rfl) hc4 ?_
      refine g_aload_n 22 hM rfl rfl rfl ?_
      refine g_getF 25 hM rfl rfl rfl rfl rfl ?_
      refine g_iload_n 26 hM rfl rfl rfl ?_
      refine g_laload 27 (gJ s 16 v1) hM rfl rfl rfl rfl hg3 rfl ?_
      refine g_aload_n 28 hM rfl rfl rfl ?_
      refine g_getF 31 hM rfl rfl rfl rfl rfl ?_
      refine g_getJ 34 6 (gJ s 8 6) hM rfl rfl rfl rfl rfl rfl rfl ?_
      by_cases hc5 : (gJ s 16 v1) = (gJ s 8 6)
      · rw [if_pos hc5] at h
        refine g_lc_ne_f 35 38 47 hM rfl rfl rfl rfl rfl hc5 ?_
        refine g_aload_n 39 hM rfl rfl rfl ?_
        refine g_bipush 41 hM rfl rfl rfl ?_
        refine g_iload_n 42 hM rfl rfl rfl ?_
        refine g_iconst 43 hM rfl rfl ?_
        obtain ⟨r7, s8, h6, h⟩ := zb_some h
        refine g_call 46 _ [] hM rfl rfl rfl rfl rfl (xM_79 _) rfl (z_rcv2 rfl) rfl rfl (by omega) (w_79 (by omega) h6) rfl ?_
        cases h
        rw [show r = _ from hK]
        exact g_ret hM rfl rfl
      · rw [if_neg hc5] at h
        refine g_lc_ne_t 35 47 hM rfl rfl rfl rfl hc5 ?_
        refine g_iinc 50 hM rfl rfl rfl rfl ?_
        refine g_goto 7 hM rfl rfl ?_
        cases h
        exact g_lv [(0, .ref 10), (1, .int (Int32.ofInt (v1 + (-1))))] rfl ⟨rfl, rfl, trivial⟩ hK
    · rw [if_neg hc4] at h
      refine g_ic_ne_t 47 hM rfl rfl (zR_gI _ _ _) (zR_lit rfl) hc4 ?_
      refine g_iinc 50 hM rfl rfl rfl rfl ?_
      refine g_goto 7 hM rfl rfl ?_
      cases h
      exact g_lv [(0, .ref 10), (1, .int (Int32.ofInt (v1 + (-1))))] rfl ⟨rfl, rfl, trivial⟩ hK
theorem wl_78_7 {k : zK} {d : Nat} {x : am_H} {r : am_A × am_H} {n : Nat} {e : (Int × zS)} {t : ((zS) ⊕ (Unit × zS))} (hd : 2 ≤ d) (h : zlp (fun (q : Int × zS) => b_78_7 q.1 q.2) n e = some t) (hK : K_78_7 k d x r t) : G_78_7 k d x r e := zlp_go (G := fun e => G_78_7 k d x r e) (K := K_78_7 k d x r) (fun e e1 h1 hg => wb_78_7 (q := .inl e1) hd h1 hg) (fun e t1 h1 hk => wb_78_7 (q := .inr t1) hd h1 hk) n e t h hK
def G_48_2 (k : zK) (d : Nat) (x : am_H) (r : am_A × am_H) (w1 : BitVec 64) (s : zS) (e : (Int)) : Prop := zgo k d 48 (2, [(0, .ref 1), (1, .long (Int64.ofBitVec w1)), (3, .int (Int32.ofInt e))], []) (hp s ++ x) r
def K_48_2 (k : zK) (d : Nat) (x : am_H) (r : am_A × am_H) (w1 : BitVec 64) (s : zS) (t : ((Unit) ⊕ Int)) : Prop := Sum.elim (fun e => zgo k d 48 (29, [], []) (hp s ++ x) r) (fun q => r = (.inl (some (.int (Int32.ofInt q))), hp s ++ x)) t
def b_48_2 (w1 : BitVec 64) (s : zS) (v3 : Int) : Option ((Int) ⊕ ((Unit) ⊕ Int)) := zg (zR v3) (if v3 < (gI s 1 4) then (zg (0 ≤ v3 ∧ v3 < 8) (if (gJ s 3 v3) = w1 then (some (.inr (.inr v3))) else (some (.inl (v3 + 1))))) else (some (.inr (.inl ()))))
theorem wb_48_2 {k : zK} {d : Nat} {x : am_H} {r : am_A × am_H} {w1 : BitVec 64} {v3 : Int} {s : zS} {q : (Int) ⊕ ((Unit) ⊕ Int)} (hd : 0 ≤ d) (h : b_48_2 w1 s v3 = some q) (hK : Sum.elim (G_48_2 k d x r w1 s) (K_48_2 k d x r w1 s) q) : G_48_2 k d x r w1 s v3 := by
  unfold b_48_2 at h
  have hM := xM_48 k.1
  show zgo k d 48 (2, [(0, .ref 1), (1, .long (Int64.ofBitVec w1)), (3, .int (Int32.ofInt v3))], []) (hp s ++ x) r
  refine g_iload_n 3 hM rfl rfl rfl ?_
  refine g_aload_n 4 hM rfl rfl rfl ?_
  refine g_getI 7 4 (gI s 1 4) hM rfl rfl rfl rfl rfl rfl rfl ?_
  obtain ⟨hg1, h⟩ := zg_some h
  by_cases hc2 : v3 < (gI s 1 4)
  · rw [if_pos hc2] at h
    refine g_ic_ge_f 10 29 hM rfl rfl rfl hg1 (zR_gI _ _ _) hc2 ?_
    refine g_aload_n 11 hM rfl rfl rfl ?_
    refine g_getF 14 hM rfl rfl rfl rfl rfl ?_
    refine g_iload_n 15 hM rfl rfl rfl ?_
    obtain ⟨hg3, h⟩ := zg_some h
    refine g_laload 16 (gJ s 3 v3) hM rfl rfl rfl rfl hg3 rfl ?_
    refine g_lload_n 17 hM rfl rfl rfl ?_
    by_cases hc4 : (gJ s 3 v3) = w1
    · rw [if_pos hc4] at h
      refine g_lc_ne_f 18 21 23 hM rfl rfl rfl rfl rfl hc4 ?_
      refine g_iload_n 22 hM rfl rfl rfl ?_
      cases h
      rw [show r = _ from hK]
      exact g_ret hM rfl rfl
    · rw [if_neg hc4] at h
      refine g_lc_ne_t 18 23 hM rfl rfl rfl rfl hc4 ?_
      refine g_iinc 26 hM rfl rfl rfl rfl ?_
      refine g_goto 2 hM rfl rfl ?_
      cases h
      exact g_lv [(0, .ref 1), (1, .long (Int64.ofBitVec w1)), (3, .int (Int32.ofInt (v3 + 1)))] rfl ⟨rfl, rfl, rfl, trivial⟩ hK
  · rw [if_neg hc2] at h
    refine g_ic_ge_t 29 hM rfl rfl hg1 (zR_gI _ _ _) hc2 ?_
    cases h
    exact g_lv [] rfl trivial hK
theorem wl_48_2 {k : zK} {d : Nat} {x : am_H} {r : am_A × am_H} {w1 : BitVec 64} {s : zS} {n : Nat} {e : (Int)} {t : ((Unit) ⊕ Int)} (hd : 0 ≤ d) (h : zlp (fun (q : Int) => b_48_2 w1 s q) n e = some t) (hK : K_48_2 k d x r w1 s t) : G_48_2 k d x r w1 s e := zlp_go (G := fun e => G_48_2 k d x r w1 s e) (K := K_48_2 k d x r w1 s) (fun e e1 h1 hg => wb_48_2 (q := .inl e1) hd h1 hg) (fun e t1 h1 hk => wb_48_2 (q := .inr t1) hd h1 hk) n e t h hK
/-- RelationFinder$World.numberOf(J)I -/
def f_48 (w1 : BitVec 64) (s : zS) : Option Int := zo (zlp (fun (q : Int) => b_48_2 w1 s q) zF 0) (fun e1 => Sum.elim (fun e3 => some (-1)) (fun q4 => some q4) e1)
theorem w_48 {k : zK} {d : Nat} {x : am_H} {w1 : BitVec 64} {s : zS} {q : Int} (hd : 0 ≤ d) (h : f_48 w1 s = some q) : zgo k d 48 (0, [(0, .ref 1), (1, .long (Int64.ofBitVec w1))], []) (hp s ++ x) (.inl (some (.int (Int32.ofInt q))), hp s ++ x) := by
  unfold f_48 at h
  have hM := xM_48 k.1
  refine g_iconst 1 hM rfl rfl ?_
  refine g_istore_n 2 hM rfl rfl rfl ?_
  obtain ⟨e1, h2, h⟩ := zo_some h
  refine g_lv [(0, .ref 1), (1, .long (Int64.ofBitVec w1)), (3, .int (Int32.ofInt 0))] rfl ⟨rfl, rfl, rfl, trivial⟩ ?_
  refine wl_48_2 (by omega) h2 ?_
  rcases e1 with e3 | q4
  · simp only [ze_l] at h
    show zgo k d 48 (29, [], []) (hp s ++ x) (.inl (some (.int (Int32.ofInt q))), hp s ++ x)
    refine g_iconst 30 hM rfl rfl ?_
    cases h
    exact g_ret hM rfl rfl
  · cases h
    rfl
/-- RelationFinder$Parser.takeName()V -/
def f_78 (s : zS) : Option (Unit × zS) := zo (zlp (fun (q : Int × zS) => b_78_7 q.1 q.2) zF (((gI s 10 8) - 1), s)) (fun e1 => Sum.elim (fun e3 => zo (f_48 (gJ e3 8 6) e3) (fun r6 => zg (zR r6) (if r6 = (-1) then (zb (f_74 4 (gI e3 8 5) e3) (fun r10 s11 => some ((), s11))) else (zg (0 ≤ r6 ∧ r6 < 8) (zb (f_79 44 r6 (gI e3 4 r6) e3) (fun r14 s15 => some ((), s15))))))) (fun q4 => some q4) e1)
theorem w_78 {k : zK} {d : Nat} {x : am_H} {s : zS} {q : (Unit × zS)} (hd : 2 ≤ d) (h : f_78 s = some q) : zgo k d 78 (0, [(0, .ref 10)], []) (hp s ++ x) (.inl (none), hp q.2 ++ x) := by
  unfold f_78 at h
  have hM := xM_78 k.1
  refine g_aload_n 1 hM rfl rfl rfl ?_
  refine g_getI 4 8 (gI s 10 8) hM rfl rfl rfl rfl rfl rfl rfl ?_
  refine g_iconst 5 hM rfl rfl ?_
  refine g_isub 6 hM rfl rfl ?_
  refine g_istore_n 7 hM rfl rfl rfl ?_
  obtain ⟨e1, h2, h⟩ := zo_some h
  refine g_lv [(0, .ref 10), (1, .int (Int32.ofInt ((gI s 10 8) - 1)))] rfl ⟨rfl, rfl, trivial⟩ ?_
  refine wl_78_7 (by omega) h2 ?_
  rcases e1 with e3 | q4
  · simp only [ze_l] at h
    show zgo k d 78 (53, [(0, .ref 10)], []) (hp e3 ++ x) (.inl (none), hp q.2 ++ x)
    refine g_aload_n 54 hM rfl rfl rfl ?_
    refine g_getF 57 hM rfl rfl rfl rfl rfl ?_
    refine g_aload_n 58 hM rfl rfl rfl ?_
    refine g_getF 61 hM rfl rfl rfl rfl rfl ?_
    refine g_getJ 64 6 (gJ e3 8 6) hM rfl rfl rfl rfl rfl rfl rfl ?_
    obtain ⟨r6, h5, h⟩ := zo_some h
    refine g_call 67 _ [.int (Int32.ofInt r6)] hM rfl rfl rfl rfl rfl (xM_48 _) rfl (z_rcv2 rfl) rfl rfl (by omega) (w_48 (by omega) h5) rfl ?_
    refine g_istore_n 68 hM rfl rfl rfl ?_
    refine g_iload_n 69 hM rfl rfl rfl ?_
    refine g_iconst 70 hM rfl rfl ?_
    obtain ⟨hg7, h⟩ := zg_some h
    by_cases hc8 : r6 = (-1)
    · rw [if_pos hc8] at h
      refine g_ic_ne_f 73 88 hM rfl rfl rfl hg7 (zR_lit rfl) hc8 ?_
      refine g_aload_n 74 hM rfl rfl rfl ?_
      refine g_iconst 75 hM rfl rfl ?_
      refine g_aload_n 76 hM rfl rfl rfl ?_
      refine g_getF 79 hM rfl rfl rfl rfl rfl ?_
      refine g_getI 82 5 (gI e3 8 5) hM rfl rfl rfl rfl rfl rfl rfl ?_
      obtain ⟨r10, s11, h9, h⟩ := zb_some h
      refine g_call 85 _ [] hM rfl rfl rfl rfl rfl (xM_74 _) rfl (z_rcv2 rfl) rfl rfl (by omega) (w_74 (by omega) h9) rfl ?_
      refine g_goto 104 hM rfl rfl ?_
      cases h
      exact g_ret hM rfl rfl
    · rw [if_neg hc8] at h
      refine g_ic_ne_t 88 hM rfl rfl hg7 (zR_lit rfl) hc8 ?_
      refine g_aload_n 89 hM rfl rfl rfl ?_
      refine g_bipush 91 hM rfl rfl rfl ?_
      refine g_iload_n 92 hM rfl rfl rfl ?_
      refine g_aload_n 93 hM rfl rfl rfl ?_
      refine g_getF 96 hM rfl rfl rfl rfl rfl ?_
      refine g_getF 99 hM rfl rfl rfl rfl rfl ?_
      refine g_iload_n 100 hM rfl rfl rfl ?_
      obtain ⟨hg12, h⟩ := zg_some h
      refine g_iaload 101 (gI e3 4 r6) hM rfl rfl rfl rfl hg12 rfl ?_
      obtain ⟨r14, s15, h13, h⟩ := zb_some h
      refine g_call 104 _ [] hM rfl rfl rfl rfl rfl (xM_79 _) rfl (z_rcv2 rfl) rfl rfl (by omega) (w_79 (by omega) h13) rfl ?_
      cases h
      exact g_ret hM rfl rfl
  · cases h
    rfl
def t_81_58 (a : Int) : Nat := zswl [(9, 116), (10, 116), (11, 116), (12, 116), (13, 116), (37, 116)] 118 a
/-- RelationFinder$Parser.awaitsFormula()Z -/
def f_81 (s : zS) : Option Int := if (gI s 10 8) = 0 then (zg ((gI s 10 3) = 0 ∨ (gI s 10 3) = 1) (some (gI s 10 3))) else (zg (0 ≤ ((gI s 10 8) - 1) ∧ ((gI s 10 8) - 1) < 20) (if (gI s 12 ((gI s 10 8) - 1)) = 0 then (if t_81_58 (gI s 11 ((gI s 10 8) - 1)) = 116 then (some 1) else (if t_81_58 (gI s 11 ((gI s 10 8) - 1)) = 118 then (some 0) else (none))) else (if (gI s 12 ((gI s 10 8) - 1)) = 2 then (some 1) else (some 0))))
theorem w_81 {k : zK} {d : Nat} {x : am_H} {s : zS} {q : Int} (hd : 0 ≤ d) (h : f_81 s = some q) : zgo k d 81 (0, [(0, .ref 10)], []) (hp s ++ x) (.inl (some (.int (Int32.ofInt q))), hp s ++ x) := by
  unfold f_81 at h
  have hM := xM_81 k.1
  refine g_aload_n 1 hM rfl rfl rfl ?_
  refine g_getI 4 8 (gI s 10 8) hM rfl rfl rfl rfl rfl rfl rfl ?_
  by_cases hc1 : (gI s 10 8) = 0
  · rw [if_pos hc1] at h
    refine g_if_ne_f 7 12 hM rfl rfl rfl (zR_gI _ _ _) hc1 ?_
    refine g_aload_n 8 hM rfl rfl rfl ?_
    refine g_getI 11 3 (gI s 10 3) hM rfl rfl rfl rfl rfl rfl rfl ?_
    obtain ⟨hg2, h⟩ := zg_some h
    cases h
    exact g_ret hM rfl (z_retB hg2)
  · rw [if_neg hc1] at h
    refine g_if_ne_t 12 hM rfl rfl (zR_gI _ _ _) hc1 ?_
    refine g_aload_n 13 hM rfl rfl rfl ?_
    refine g_getF 16 hM rfl rfl rfl rfl rfl ?_
    refine g_aload_n 17 hM rfl rfl rfl ?_
    refine g_getI 20 8 (gI s 10 8) hM rfl rfl rfl rfl rfl rfl rfl ?_
    refine g_iconst 21 hM rfl rfl ?_
    refine g_isub 22 hM rfl rfl ?_
    obtain ⟨hg3, h⟩ := zg_some h
    refine g_iaload 23 (gI s 12 ((gI s 10 8) - 1)) hM rfl rfl rfl rfl hg3 rfl ?_
    by_cases hc4 : (gI s 12 ((gI s 10 8) - 1)) = 0
    · rw [if_pos hc4] at h
      refine g_if_eq_t 47 hM rfl rfl (zR_gI _ _ _) hc4 ?_
      refine g_aload_n 48 hM rfl rfl rfl ?_
      refine g_getF 51 hM rfl rfl rfl rfl rfl ?_
      refine g_aload_n 52 hM rfl rfl rfl ?_
      refine g_getI 55 8 (gI s 10 8) hM rfl rfl rfl rfl rfl rfl rfl ?_
      refine g_iconst 56 hM rfl rfl ?_
      refine g_isub 57 hM rfl rfl ?_
      refine g_iaload 58 (gI s 11 ((gI s 10 8) - 1)) hM rfl rfl rfl rfl hg3 rfl ?_
      by_cases hc5 : t_81_58 (gI s 11 ((gI s 10 8) - 1)) = 116
      · rw [if_pos hc5] at h
        refine g_lsw 116 hM rfl (zR_gI _ _ _) hc5 rfl rfl rfl ?_
        refine g_iconst 117 hM rfl rfl ?_
        cases h
        exact g_ret hM rfl rfl
      · rw [if_neg hc5] at h
        by_cases hc6 : t_81_58 (gI s 11 ((gI s 10 8) - 1)) = 118
        · rw [if_pos hc6] at h
          refine g_lsw 118 hM rfl (zR_gI _ _ _) hc6 rfl rfl rfl ?_
          refine g_iconst 119 hM rfl rfl ?_
          cases h
          exact g_ret hM rfl rfl
        · rw [if_neg hc6] at h
          cases h
    · rw [if_neg hc4] at h
      refine g_if_eq_f 26 47 hM rfl rfl rfl (zR_gI _ _ _) hc4 ?_
      refine g_aload_n 27 hM rfl rfl rfl ?_
      refine g_getF 30 hM rfl rfl rfl rfl rfl ?_
      refine g_aload_n 31 hM rfl rfl rfl ?_
      refine g_getI 34 8 (gI s 10 8) hM rfl rfl rfl rfl rfl rfl rfl ?_
      refine g_iconst 35 hM rfl rfl ?_
      refine g_isub 36 hM rfl rfl ?_
      refine g_iaload 37 (gI s 12 ((gI s 10 8) - 1)) hM rfl rfl rfl rfl hg3 rfl ?_
      refine g_iconst 38 hM rfl rfl ?_
      by_cases hc7 : (gI s 12 ((gI s 10 8) - 1)) = 2
      · rw [if_pos hc7] at h
        refine g_ic_ne_f 41 45 hM rfl rfl rfl (zR_gI _ _ _) (zR_lit rfl) hc7 ?_
        refine g_iconst 42 hM rfl rfl ?_
        refine g_goto 46 hM rfl rfl ?_
        cases h
        exact g_ret hM rfl rfl
      · rw [if_neg hc7] at h
        refine g_ic_ne_t 45 hM rfl rfl (zR_gI _ _ _) (zR_lit rfl) hc7 ?_
        refine g_iconst 46 hM rfl rfl ?_
        cases h
        exact g_ret hM rfl rfl
/-- RelationFinder$Parser.refuseToken()V -/
def f_83 (s : zS) : Option (Unit × zS) := if (gI s 8 4) = 0 then (zb (f_74 2 (gI s 8 5) s) (fun r3 s4 => some ((), s4))) else (zb (f_74 3 (gI s 8 5) s) (fun r6 s7 => some ((), s7)))
theorem w_83 {k : zK} {d : Nat} {x : am_H} {s : zS} {q : (Unit × zS)} (hd : 1 ≤ d) (h : f_83 s = some q) : zgo k d 83 (0, [(0, .ref 10)], []) (hp s ++ x) (.inl (none), hp q.2 ++ x) := by
  unfold f_83 at h
  have hM := xM_83 k.1
  refine g_aload_n 1 hM rfl rfl rfl ?_
  refine g_aload_n 2 hM rfl rfl rfl ?_
  refine g_getF 5 hM rfl rfl rfl rfl rfl ?_
  refine g_getI 8 4 (gI s 8 4) hM rfl rfl rfl rfl rfl rfl rfl ?_
  by_cases hc1 : (gI s 8 4) = 0
  · rw [if_pos hc1] at h
    refine g_if_ne_f 11 15 hM rfl rfl rfl (zR_gI _ _ _) hc1 ?_
    refine g_iconst 12 hM rfl rfl ?_
    refine g_goto 16 hM rfl rfl ?_
    refine g_aload_n 17 hM rfl rfl rfl ?_
    refine g_getF 20 hM rfl rfl rfl rfl rfl ?_
    refine g_getI 23 5 (gI s 8 5) hM rfl rfl rfl rfl rfl rfl rfl ?_
    obtain ⟨r3, s4, h2, h⟩ := zb_some h
    refine g_call 26 _ [] hM rfl rfl rfl rfl rfl (xM_74 _) rfl (z_rcv2 rfl) rfl rfl (by omega) (w_74 (by omega) h2) rfl ?_
    cases h
    exact g_ret hM rfl rfl
  · rw [if_neg hc1] at h
    refine g_if_ne_t 15 hM rfl rfl (zR_gI _ _ _) hc1 ?_
    refine g_iconst 16 hM rfl rfl ?_
    refine g_aload_n 17 hM rfl rfl rfl ?_
    refine g_getF 20 hM rfl rfl rfl rfl rfl ?_
    refine g_getI 23 5 (gI s 8 5) hM rfl rfl rfl rfl rfl rfl rfl ?_
    obtain ⟨r6, s7, h5, h⟩ := zb_some h
    refine g_call 26 _ [] hM rfl rfl rfl rfl rfl (xM_74 _) rfl (z_rcv2 rfl) rfl rfl (by omega) (w_74 (by omega) h5) rfl ?_
    cases h
    exact g_ret hM rfl rfl
def t_82_1 (a : Int) : Nat := zswt 4 37 [171, 179, 179, 179, 179, 152, 206, 206, 206, 206, 206, 206, 206, 206, 161, 161, 206, 206, 206, 206, 206, 206, 206, 206, 206, 206, 206, 152, 206, 206, 206, 206, 206, 152] 206 a
/-- RelationFinder$Tape.isBinderNext()Z -/
def f_69 (s : zS) : Option Int := zo (f_63 (gI s 8 2) s) (fun r2 => zo (f_65 r2 s) (fun r4 => zg (zR (r4 - r2)) (if (r4 - r2) < 1 then (some 0) else (if 6 < (r4 - r2) then (some 0) else (zo (f_66 r2 r4 s) (fun r9 => zo (f_19 r9 s) (fun r11 => zg (zR r11) (if r11 = 2 then (zo (f_63 r4 s) (fun r15 => zg (zR r15) (if r15 < (gI s 8 1) then (zg (0 ≤ r15 ∧ r15 < 600) (if (gI s 9 r15) = 58 then (zg (zR (r15 + 1)) (if (r15 + 1) < (gI s 8 1) then (zg (0 ≤ (r15 + 1) ∧ (r15 + 1) < 600) (if (gI s 9 (r15 + 1)) = 62 then (some 0) else (some 1))) else (some 1))) else (some 0))) else (some 0)))) else (some 0)))))))))
theorem w_69 {k : zK} {d : Nat} {x : am_H} {s : zS} {q : Int} (hd : 2 ≤ d) (h : f_69 s = some q) : zgo k d 69 (0, [(0, .ref 8)], []) (hp s ++ x) (.inl (some (.int (Int32.ofInt q))), hp s ++ x) := by
  unfold f_69 at h
  have hM := xM_69 k.1
  refine g_aload_n 1 hM rfl rfl rfl ?_
  refine g_aload_n 2 hM rfl rfl rfl ?_
  refine g_getI 5 2 (gI s 8 2) hM rfl rfl rfl rfl rfl rfl rfl ?_
  obtain ⟨r2, h1, h⟩ := zo_some h
  refine g_call 8 _ [.int (Int32.ofInt r2)] hM rfl rfl rfl rfl rfl (xM_63 _) rfl (z_rcv2 rfl) rfl rfl (by omega) (w_63 (by omega) h1) rfl ?_
  refine g_istore_n 9 hM rfl rfl rfl ?_
  refine g_aload_n 10 hM rfl rfl rfl ?_
  refine g_iload_n 11 hM rfl rfl rfl ?_
  obtain ⟨r4, h3, h⟩ := zo_some h
  refine g_call 14 _ [.int (Int32.ofInt r4)] hM rfl rfl rfl rfl rfl (xM_65 _) rfl (z_rcv2 rfl) rfl rfl (by omega) (w_65 (by omega) h3) rfl ?_
  refine g_istore_n 15 hM rfl rfl rfl ?_
  refine g_iload_n 16 hM rfl rfl rfl ?_
  refine g_iload_n 17 hM rfl rfl rfl ?_
  refine g_isub 18 hM rfl rfl ?_
  refine g_istore_n 19 hM rfl rfl rfl ?_
  refine g_iload_n 20 hM rfl rfl rfl ?_
  refine g_iconst 21 hM rfl rfl ?_
  obtain ⟨hg5, h⟩ := zg_some h
  by_cases hc6 : (r4 - r2) < 1
  · rw [if_pos hc6] at h
    refine g_ic_lt_t 43 hM rfl rfl hg5 (zR_lit rfl) hc6 ?_
    refine g_iconst 44 hM rfl rfl ?_
    cases h
    exact g_ret hM rfl rfl
  · rw [if_neg hc6] at h
    refine g_ic_lt_f 24 43 hM rfl rfl rfl hg5 (zR_lit rfl) hc6 ?_
    refine g_iload_n 25 hM rfl rfl rfl ?_
    refine g_bipush 27 hM rfl rfl rfl ?_
    by_cases hc7 : 6 < (r4 - r2)
    · rw [if_pos hc7] at h
      refine g_ic_gt_t 43 hM rfl rfl hg5 (zR_lit rfl) hc7 ?_
      refine g_iconst 44 hM rfl rfl ?_
      cases h
      exact g_ret hM rfl rfl
    · rw [if_neg hc7] at h
      refine g_ic_gt_f 30 43 hM rfl rfl rfl hg5 (zR_lit rfl) hc7 ?_
      refine g_aload_n 31 hM rfl rfl rfl ?_
      refine g_iload_n 32 hM rfl rfl rfl ?_
      refine g_iload_n 33 hM rfl rfl rfl ?_
      obtain ⟨r9, h8, h⟩ := zo_some h
      refine g_call 36 _ [.long (Int64.ofBitVec r9)] hM rfl rfl rfl rfl rfl (xM_66 _) rfl (z_rcv2 rfl) rfl rfl (by omega) (w_66 (by omega) h8) rfl ?_
      obtain ⟨r11, h10, h⟩ := zo_some h
      refine g_call 39 _ [.int (Int32.ofInt r11)] hM rfl rfl rfl rfl rfl (xM_19 _) rfl rfl rfl rfl (by omega) (w_19 (by omega) h10) rfl ?_
      refine g_iconst 40 hM rfl rfl ?_
      obtain ⟨hg12, h⟩ := zg_some h
      by_cases hc13 : r11 = 2
      · rw [if_pos hc13] at h
        refine g_ic_eq_t 45 hM rfl rfl hg12 (zR_lit rfl) hc13 ?_
        refine g_aload_n 46 hM rfl rfl rfl ?_
        refine g_iload_n 47 hM rfl rfl rfl ?_
        obtain ⟨r15, h14, h⟩ := zo_some h
        refine g_call 50 _ [.int (Int32.ofInt r15)] hM rfl rfl rfl rfl rfl (xM_63 _) rfl (z_rcv2 rfl) rfl rfl (by omega) (w_63 (by omega) h14) rfl ?_
        refine g_istore 52 hM rfl rfl rfl ?_
        refine g_iload 54 hM rfl rfl rfl ?_
        refine g_aload_n 55 hM rfl rfl rfl ?_
        refine g_getI 58 1 (gI s 8 1) hM rfl rfl rfl rfl rfl rfl rfl ?_
        obtain ⟨hg16, h⟩ := zg_some h
        by_cases hc17 : r15 < (gI s 8 1)
        · rw [if_pos hc17] at h
          refine g_ic_ge_f 61 102 hM rfl rfl rfl hg16 (zR_gI _ _ _) hc17 ?_
          refine g_aload_n 62 hM rfl rfl rfl ?_
          refine g_getF 65 hM rfl rfl rfl rfl rfl ?_
          refine g_iload 67 hM rfl rfl rfl ?_
          obtain ⟨hg18, h⟩ := zg_some h
          refine g_iaload 68 (gI s 9 r15) hM rfl rfl rfl rfl hg18 rfl ?_
          refine g_bipush 70 hM rfl rfl rfl ?_
          by_cases hc19 : (gI s 9 r15) = 58
          · rw [if_pos hc19] at h
            refine g_ic_ne_f 73 102 hM rfl rfl rfl (zR_gI _ _ _) (zR_lit rfl) hc19 ?_
            refine g_iload 75 hM rfl rfl rfl ?_
            refine g_iconst 76 hM rfl rfl ?_
            refine g_iadd 77 hM rfl rfl ?_
            refine g_aload_n 78 hM rfl rfl rfl ?_
            refine g_getI 81 1 (gI s 8 1) hM rfl rfl rfl rfl rfl rfl rfl ?_
            obtain ⟨hg20, h⟩ := zg_some h
            by_cases hc21 : (r15 + 1) < (gI s 8 1)
            · rw [if_pos hc21] at h
              refine g_ic_ge_f 84 98 hM rfl rfl rfl hg20 (zR_gI _ _ _) hc21 ?_
              refine g_aload_n 85 hM rfl rfl rfl ?_
              refine g_getF 88 hM rfl rfl rfl rfl rfl ?_
              refine g_iload 90 hM rfl rfl rfl ?_
              refine g_iconst 91 hM rfl rfl ?_
              refine g_iadd 92 hM rfl rfl ?_
              obtain ⟨hg22, h⟩ := zg_some h
              refine g_iaload 93 (gI s 9 (r15 + 1)) hM rfl rfl rfl rfl hg22 rfl ?_
              refine g_bipush 95 hM rfl rfl rfl ?_
              by_cases hc23 : (gI s 9 (r15 + 1)) = 62
              · rw [if_pos hc23] at h
                refine g_ic_eq_t 102 hM rfl rfl (zR_gI _ _ _) (zR_lit rfl) hc23 ?_
                refine g_iconst 103 hM rfl rfl ?_
                cases h
                exact g_ret hM rfl rfl
              · rw [if_neg hc23] at h
                refine g_ic_eq_f 98 102 hM rfl rfl rfl (zR_gI _ _ _) (zR_lit rfl) hc23 ?_
                refine g_iconst 99 hM rfl rfl ?_
                refine g_goto 103 hM rfl rfl ?_
                cases h
                exact g_ret hM rfl rfl
            · rw [if_neg hc21] at h
              refine g_ic_ge_t 98 hM rfl rfl hg20 (zR_gI _ _ _) hc21 ?_
              refine g_iconst 99 hM rfl rfl ?_
              refine g_goto 103 hM rfl rfl ?_
              cases h
              exact g_ret hM rfl rfl
          · rw [if_neg hc19] at h
            refine g_ic_ne_t 102 hM rfl rfl (zR_gI _ _ _) (zR_lit rfl) hc19 ?_
            refine g_iconst 103 hM rfl rfl ?_
            cases h
            exact g_ret hM rfl rfl
        · rw [if_neg hc17] at h
          refine g_ic_ge_t 102 hM rfl rfl hg16 (zR_gI _ _ _) hc17 ?_
          refine g_iconst 103 hM rfl rfl ?_
          cases h
          exact g_ret hM rfl rfl
      · rw [if_neg hc13] at h
        refine g_ic_eq_f 43 45 hM rfl rfl rfl hg12 (zR_lit rfl) hc13 ?_
        refine g_iconst 44 hM rfl rfl ?_
        cases h
        exact g_ret hM rfl rfl
/-- RelationFinder$Parser.takeFormula(I)V -/
def f_82 (v1 : Int) (s : zS) : Option (Unit × zS) := zg (zR v1) (if t_82_1 v1 = 152 then (zb (f_76 v1 s) (fun r4 s5 => some ((), s5))) else (if t_82_1 v1 = 161 then (zb (f_79 v1 0 0 s) (fun r8 s9 => some ((), s9))) else (if t_82_1 v1 = 171 then (zb (f_77 v1 s) (fun r12 s13 => some ((), s13))) else (if t_82_1 v1 = 179 then (zo (f_69 s) (fun r16 => zg (zR r16) (if r16 = 0 then (zb (f_76 v1 s) (fun r20 s21 => some ((), s21))) else (zb (f_77 v1 s) (fun r23 s24 => some ((), s24)))))) else (if t_82_1 v1 = 206 then (zb (f_83 s) (fun r27 s28 => some ((), s28))) else (none))))))
theorem w_82 {k : zK} {d : Nat} {x : am_H} {v1 : Int} {s : zS} {q : (Unit × zS)} (hd : 3 ≤ d) (h : f_82 v1 s = some q) : zgo k d 82 (0, [(0, .ref 10), (1, .int (Int32.ofInt v1))], []) (hp s ++ x) (.inl (none), hp q.2 ++ x) := by
  unfold f_82 at h
  have hM := xM_82 k.1
  refine g_iload_n 1 hM rfl rfl rfl ?_
  obtain ⟨hg1, h⟩ := zg_some h
  by_cases hc2 : t_82_1 v1 = 152
  · rw [if_pos hc2] at h
    refine g_tsw 152 hM rfl hg1 hc2 rfl rfl rfl ?_
    refine g_aload_n 153 hM rfl rfl rfl ?_
    refine g_iload_n 154 hM rfl rfl rfl ?_
    obtain ⟨r4, s5, h3, h⟩ := zb_some h
    refine g_call 157 _ [.int (Int32.ofInt r4)] hM rfl rfl rfl rfl rfl (xM_76 _) rfl (z_rcv2 rfl) rfl rfl (by omega) (w_76 (by omega) h3) rfl ?_
    refine g_pop 158 hM rfl rfl rfl ?_
    refine g_goto 210 hM rfl rfl ?_
    cases h
    exact g_ret hM rfl rfl
  · rw [if_neg hc2] at h
    by_cases hc6 : t_82_1 v1 = 161
    · rw [if_pos hc6] at h
      refine g_tsw 161 hM rfl hg1 hc6 rfl rfl rfl ?_
      refine g_aload_n 162 hM rfl rfl rfl ?_
      refine g_iload_n 163 hM rfl rfl rfl ?_
      refine g_iconst 164 hM rfl rfl ?_
      refine g_iconst 165 hM rfl rfl ?_
      obtain ⟨r8, s9, h7, h⟩ := zb_some h
      refine g_call 168 _ [] hM rfl rfl rfl rfl rfl (xM_79 _) rfl (z_rcv2 rfl) rfl rfl (by omega) (w_79 (by omega) h7) rfl ?_
      refine g_goto 210 hM rfl rfl ?_
      cases h
      exact g_ret hM rfl rfl
    · rw [if_neg hc6] at h
      by_cases hc10 : t_82_1 v1 = 171
      · rw [if_pos hc10] at h
        refine g_tsw 171 hM rfl hg1 hc10 rfl rfl rfl ?_
        refine g_aload_n 172 hM rfl rfl rfl ?_
        refine g_iload_n 173 hM rfl rfl rfl ?_
        obtain ⟨r12, s13, h11, h⟩ := zb_some h
        refine g_call 176 _ [] hM rfl rfl rfl rfl rfl (xM_77 _) rfl (z_rcv2 rfl) rfl rfl (by omega) (w_77 (by omega) h11) rfl ?_
        refine g_goto 210 hM rfl rfl ?_
        cases h
        exact g_ret hM rfl rfl
      · rw [if_neg hc10] at h
        by_cases hc14 : t_82_1 v1 = 179
        · rw [if_pos hc14] at h
          refine g_tsw 179 hM rfl hg1 hc14 rfl rfl rfl ?_
          refine g_aload_n 180 hM rfl rfl rfl ?_
          refine g_getF 183 hM rfl rfl rfl rfl rfl ?_
          obtain ⟨r16, h15, h⟩ := zo_some h
          refine g_call 186 _ [.int (Int32.ofInt r16)] hM rfl rfl rfl rfl rfl (xM_69 _) rfl (z_rcv2 rfl) rfl rfl (by omega) (w_69 (by omega) h15) rfl ?_
          obtain ⟨hg17, h⟩ := zg_some h
          by_cases hc18 : r16 = 0
          · rw [if_pos hc18] at h
            refine g_if_eq_t 197 hM rfl rfl hg17 hc18 ?_
            refine g_aload_n 198 hM rfl rfl rfl ?_
            refine g_iload_n 199 hM rfl rfl rfl ?_
            obtain ⟨r20, s21, h19, h⟩ := zb_some h
            refine g_call 202 _ [.int (Int32.ofInt r20)] hM rfl rfl rfl rfl rfl (xM_76 _) rfl (z_rcv2 rfl) rfl rfl (by omega) (w_76 (by omega) h19) rfl ?_
            refine g_pop 203 hM rfl rfl rfl ?_
            refine g_goto 210 hM rfl rfl ?_
            cases h
            exact g_ret hM rfl rfl
          · rw [if_neg hc18] at h
            refine g_if_eq_f 189 197 hM rfl rfl rfl hg17 hc18 ?_
            refine g_aload_n 190 hM rfl rfl rfl ?_
            refine g_iload_n 191 hM rfl rfl rfl ?_
            obtain ⟨r23, s24, h22, h⟩ := zb_some h
            refine g_call 194 _ [] hM rfl rfl rfl rfl rfl (xM_77 _) rfl (z_rcv2 rfl) rfl rfl (by omega) (w_77 (by omega) h22) rfl ?_
            refine g_goto 210 hM rfl rfl ?_
            cases h
            exact g_ret hM rfl rfl
        · rw [if_neg hc14] at h
          by_cases hc25 : t_82_1 v1 = 206
          · rw [if_pos hc25] at h
            refine g_tsw 206 hM rfl hg1 hc25 rfl rfl rfl ?_
            refine g_aload_n 207 hM rfl rfl rfl ?_
            obtain ⟨r27, s28, h26, h⟩ := zb_some h
            refine g_call 210 _ [] hM rfl rfl rfl rfl rfl (xM_83 _) rfl (z_rcv2 rfl) rfl rfl (by omega) (w_83 (by omega) h26) rfl ?_
            cases h
            exact g_ret hM rfl rfl
          · rw [if_neg hc25] at h
            cases h
/-- RelationFinder$Parser.takeOperand(I)V -/
def f_75 (v1 : Int) (s : zS) : Option (Unit × zS) := zg (zR v1) (if t_75_1 v1 = 84 then (zb (f_76 v1 s) (fun r4 s5 => some ((), s5))) else (if t_75_1 v1 = 93 then (zb (f_77 v1 s) (fun r8 s9 => some ((), s9))) else (if t_75_1 v1 = 101 then (zb (f_78 s) (fun r12 s13 => some ((), s13))) else (if t_75_1 v1 = 108 then (zb (f_79 v1 0 1 s) (fun r16 s17 => some ((), s17))) else (if t_75_1 v1 = 118 then (zb (f_79 v1 0 2 s) (fun r20 s21 => some ((), s21))) else (if t_75_1 v1 = 128 then (zo (f_81 s) (fun r24 => zg (zR r24) (if r24 = 0 then (zb (f_83 s) (fun r28 s29 => some ((), s29))) else (zb (f_82 v1 s) (fun r31 s32 => some ((), s32)))))) else (none)))))))
theorem w_75 {k : zK} {d : Nat} {x : am_H} {v1 : Int} {s : zS} {q : (Unit × zS)} (hd : 4 ≤ d) (h : f_75 v1 s = some q) : zgo k d 75 (0, [(0, .ref 10), (1, .int (Int32.ofInt v1))], []) (hp s ++ x) (.inl (none), hp q.2 ++ x) := by
  unfold f_75 at h
  have hM := xM_75 k.1
  refine g_iload_n 1 hM rfl rfl rfl ?_
  obtain ⟨hg1, h⟩ := zg_some h
  by_cases hc2 : t_75_1 v1 = 84
  · rw [if_pos hc2] at h
    refine g_lsw 84 hM rfl hg1 hc2 rfl rfl rfl ?_
    refine g_aload_n 85 hM rfl rfl rfl ?_
    refine g_iload_n 86 hM rfl rfl rfl ?_
    obtain ⟨r4, s5, h3, h⟩ := zb_some h
    refine g_call 89 _ [.int (Int32.ofInt r4)] hM rfl rfl rfl rfl rfl (xM_76 _) rfl (z_rcv2 rfl) rfl rfl (by omega) (w_76 (by omega) h3) rfl ?_
    refine g_pop 90 hM rfl rfl rfl ?_
    refine g_goto 147 hM rfl rfl ?_
    cases h
    exact g_ret hM rfl rfl
  · rw [if_neg hc2] at h
    by_cases hc6 : t_75_1 v1 = 93
    · rw [if_pos hc6] at h
      refine g_lsw 93 hM rfl hg1 hc6 rfl rfl rfl ?_
      refine g_aload_n 94 hM rfl rfl rfl ?_
      refine g_iload_n 95 hM rfl rfl rfl ?_
      obtain ⟨r8, s9, h7, h⟩ := zb_some h
      refine g_call 98 _ [] hM rfl rfl rfl rfl rfl (xM_77 _) rfl (z_rcv2 rfl) rfl rfl (by omega) (w_77 (by omega) h7) rfl ?_
      refine g_goto 147 hM rfl rfl ?_
      cases h
      exact g_ret hM rfl rfl
    · rw [if_neg hc6] at h
      by_cases hc10 : t_75_1 v1 = 101
      · rw [if_pos hc10] at h
        refine g_lsw 101 hM rfl hg1 hc10 rfl rfl rfl ?_
        refine g_aload_n 102 hM rfl rfl rfl ?_
        obtain ⟨r12, s13, h11, h⟩ := zb_some h
        refine g_call 105 _ [] hM rfl rfl rfl rfl rfl (xM_78 _) rfl (z_rcv2 rfl) rfl rfl (by omega) (w_78 (by omega) h11) rfl ?_
        refine g_goto 147 hM rfl rfl ?_
        cases h
        exact g_ret hM rfl rfl
      · rw [if_neg hc10] at h
        by_cases hc14 : t_75_1 v1 = 108
        · rw [if_pos hc14] at h
          refine g_lsw 108 hM rfl hg1 hc14 rfl rfl rfl ?_
          refine g_aload_n 109 hM rfl rfl rfl ?_
          refine g_iload_n 110 hM rfl rfl rfl ?_
          refine g_iconst 111 hM rfl rfl ?_
          refine g_iconst 112 hM rfl rfl ?_
          obtain ⟨r16, s17, h15, h⟩ := zb_some h
          refine g_call 115 _ [] hM rfl rfl rfl rfl rfl (xM_79 _) rfl (z_rcv2 rfl) rfl rfl (by omega) (w_79 (by omega) h15) rfl ?_
          refine g_goto 147 hM rfl rfl ?_
          cases h
          exact g_ret hM rfl rfl
        · rw [if_neg hc14] at h
          by_cases hc18 : t_75_1 v1 = 118
          · rw [if_pos hc18] at h
            refine g_lsw 118 hM rfl hg1 hc18 rfl rfl rfl ?_
            refine g_aload_n 119 hM rfl rfl rfl ?_
            refine g_iload_n 120 hM rfl rfl rfl ?_
            refine g_iconst 121 hM rfl rfl ?_
            refine g_iconst 122 hM rfl rfl ?_
            obtain ⟨r20, s21, h19, h⟩ := zb_some h
            refine g_call 125 _ [] hM rfl rfl rfl rfl rfl (xM_79 _) rfl (z_rcv2 rfl) rfl rfl (by omega) (w_79 (by omega) h19) rfl ?_
            refine g_goto 147 hM rfl rfl ?_
            cases h
            exact g_ret hM rfl rfl
          · rw [if_neg hc18] at h
            by_cases hc22 : t_75_1 v1 = 128
            · rw [if_pos hc22] at h
              refine g_lsw 128 hM rfl hg1 hc22 rfl rfl rfl ?_
              refine g_aload_n 129 hM rfl rfl rfl ?_
              obtain ⟨r24, h23, h⟩ := zo_some h
              refine g_call 132 _ [.int (Int32.ofInt r24)] hM rfl rfl rfl rfl rfl (xM_81 _) rfl (z_rcv2 rfl) rfl rfl (by omega) (w_81 (by omega) h23) rfl ?_
              obtain ⟨hg25, h⟩ := zg_some h
              by_cases hc26 : r24 = 0
              · rw [if_pos hc26] at h
                refine g_if_eq_t 143 hM rfl rfl hg25 hc26 ?_
                refine g_aload_n 144 hM rfl rfl rfl ?_
                obtain ⟨r28, s29, h27, h⟩ := zb_some h
                refine g_call 147 _ [] hM rfl rfl rfl rfl rfl (xM_83 _) rfl (z_rcv2 rfl) rfl rfl (by omega) (w_83 (by omega) h27) rfl ?_
                cases h
                exact g_ret hM rfl rfl
              · rw [if_neg hc26] at h
                refine g_if_eq_f 135 143 hM rfl rfl rfl hg25 hc26 ?_
                refine g_aload_n 136 hM rfl rfl rfl ?_
                refine g_iload_n 137 hM rfl rfl rfl ?_
                obtain ⟨r31, s32, h30, h⟩ := zb_some h
                refine g_call 140 _ [] hM rfl rfl rfl rfl rfl (xM_82 _) rfl (z_rcv2 rfl) rfl rfl (by omega) (w_82 (by omega) h30) rfl ?_
                refine g_goto 147 hM rfl rfl ?_
                cases h
                exact g_ret hM rfl rfl
            · rw [if_neg hc22] at h
              cases h
/-- RelationFinder$Parser.takeBoundName(I)V -/
def f_84 (v1 : Int) (s : zS) : Option (Unit × zS) := zg (zR v1) (if v1 = 2 then (if (gI s 10 8) = 0 then (zb (f_83 s) (fun r5 s6 => some ((), s6))) else (zg (0 ≤ ((gI s 10 8) - 1) ∧ ((gI s 10 8) - 1) < 20) (some ((), (sI (sJ s 16 ((gI s 10 8) - 1) (gJ s 8 6)) 10 4 2))))) else (zb (f_83 s) (fun r9 s10 => some ((), s10))))
theorem w_84 {k : zK} {d : Nat} {x : am_H} {v1 : Int} {s : zS} {q : (Unit × zS)} (hd : 2 ≤ d) (h : f_84 v1 s = some q) : zgo k d 84 (0, [(0, .ref 10), (1, .int (Int32.ofInt v1))], []) (hp s ++ x) (.inl (none), hp q.2 ++ x) := by
  unfold f_84 at h
  have hM := xM_84 k.1
  refine g_iload_n 1 hM rfl rfl rfl ?_
  refine g_iconst 2 hM rfl rfl ?_
  obtain ⟨hg1, h⟩ := zg_some h
  by_cases hc2 : v1 = 2
  · rw [if_pos hc2] at h
    refine g_ic_ne_f 5 12 hM rfl rfl rfl hg1 (zR_lit rfl) hc2 ?_
    refine g_aload_n 6 hM rfl rfl rfl ?_
    refine g_getI 9 8 (gI s 10 8) hM rfl rfl rfl rfl rfl rfl rfl ?_
    by_cases hc3 : (gI s 10 8) = 0
    · rw [if_pos hc3] at h
      refine g_if_ne_f 12 17 hM rfl rfl rfl (zR_gI _ _ _) hc3 ?_
      refine g_aload_n 13 hM rfl rfl rfl ?_
      obtain ⟨r5, s6, h4, h⟩ := zb_some h
      refine g_call 16 _ [] hM rfl rfl rfl rfl rfl (xM_83 _) rfl (z_rcv2 rfl) rfl rfl (by omega) (w_83 (by omega) h4) rfl ?_
      cases h
      exact g_ret hM rfl rfl
    · rw [if_neg hc3] at h
      refine g_if_ne_t 17 hM rfl rfl (zR_gI _ _ _) hc3 ?_
      refine g_aload_n 18 hM rfl rfl rfl ?_
      refine g_getF 21 hM rfl rfl rfl rfl rfl ?_
      refine g_aload_n 22 hM rfl rfl rfl ?_
      refine g_getI 25 8 (gI s 10 8) hM rfl rfl rfl rfl rfl rfl rfl ?_
      refine g_iconst 26 hM rfl rfl ?_
      refine g_isub 27 hM rfl rfl ?_
      refine g_aload_n 28 hM rfl rfl rfl ?_
      refine g_getF 31 hM rfl rfl rfl rfl rfl ?_
      refine g_getJ 34 6 (gJ s 8 6) hM rfl rfl rfl rfl rfl rfl rfl ?_
      obtain ⟨hg7, h⟩ := zg_some h
      refine g_lastore 35 hM rfl rfl rfl rfl hg7 ?_
      refine g_aload_n 36 hM rfl rfl rfl ?_
      refine g_iconst 37 hM rfl rfl ?_
      refine g_putI 40 4 hM rfl rfl rfl rfl rfl rfl rfl ?_
      cases h
      exact g_ret hM rfl rfl
  · rw [if_neg hc2] at h
    refine g_ic_ne_t 12 hM rfl rfl hg1 (zR_lit rfl) hc2 ?_
    refine g_aload_n 13 hM rfl rfl rfl ?_
    obtain ⟨r9, s10, h8, h⟩ := zb_some h
    refine g_call 16 _ [] hM rfl rfl rfl rfl rfl (xM_83 _) rfl (z_rcv2 rfl) rfl rfl (by omega) (w_83 (by omega) h8) rfl ?_
    cases h
    exact g_ret hM rfl rfl
/-- RelationFinder$Parser.takeColon(I)V -/
def f_85 (v1 : Int) (s : zS) : Option (Unit × zS) := zg (zR v1) (if v1 = 41 then (some ((), (sI s 10 4 0))) else (zb (f_83 s) (fun r4 s5 => some ((), s5))))
theorem w_85 {k : zK} {d : Nat} {x : am_H} {v1 : Int} {s : zS} {q : (Unit × zS)} (hd : 2 ≤ d) (h : f_85 v1 s = some q) : zgo k d 85 (0, [(0, .ref 10), (1, .int (Int32.ofInt v1))], []) (hp s ++ x) (.inl (none), hp q.2 ++ x) := by
  unfold f_85 at h
  have hM := xM_85 k.1
  refine g_iload_n 1 hM rfl rfl rfl ?_
  refine g_bipush 3 hM rfl rfl rfl ?_
  obtain ⟨hg1, h⟩ := zg_some h
  by_cases hc2 : v1 = 41
  · rw [if_pos hc2] at h
    refine g_ic_eq_t 11 hM rfl rfl hg1 (zR_lit rfl) hc2 ?_
    refine g_aload_n 12 hM rfl rfl rfl ?_
    refine g_iconst 13 hM rfl rfl ?_
    refine g_putI 16 4 hM rfl rfl rfl rfl rfl rfl rfl ?_
    cases h
    exact g_ret hM rfl rfl
  · rw [if_neg hc2] at h
    refine g_ic_eq_f 6 11 hM rfl rfl rfl hg1 (zR_lit rfl) hc2 ?_
    refine g_aload_n 7 hM rfl rfl rfl ?_
    obtain ⟨r4, s5, h3, h⟩ := zb_some h
    refine g_call 10 _ [] hM rfl rfl rfl rfl rfl (xM_83 _) rfl (z_rcv2 rfl) rfl rfl (by omega) (w_83 (by omega) h3) rfl ?_
    cases h
    exact g_ret hM rfl rfl
/-- RelationFinder$Parser.takeNumber(I)V -/
def f_86 (v1 : Int) (s : zS) : Option (Unit × zS) := zg (zR v1) (if v1 = 3 then (if (gI s 10 8) = 0 then (zb (f_83 s) (fun r5 s6 => some ((), s6))) else (zg (zC (gP s 10 2) = true) (zb (f_139 (gP s 10 2) 31 (gI s 8 7) (gI s 10 7) (sI s 10 8 ((gI s 10 8) - 1))) (fun r9 s10 => zb (f_80 0 s10) (fun r12 s13 => some ((), s13)))))) else (zb (f_83 s) (fun r15 s16 => some ((), s16))))
theorem w_86 {k : zK} {d : Nat} {x : am_H} {v1 : Int} {s : zS} {q : (Unit × zS)} (hd : 2 ≤ d) (h : f_86 v1 s = some q) : zgo k d 86 (0, [(0, .ref 10), (1, .int (Int32.ofInt v1))], []) (hp s ++ x) (.inl (none), hp q.2 ++ x) := by
  unfold f_86 at h
  have hM := xM_86 k.1
  refine g_iload_n 1 hM rfl rfl rfl ?_
  refine g_iconst 2 hM rfl rfl ?_
  obtain ⟨hg1, h⟩ := zg_some h
  by_cases hc2 : v1 = 3
  · rw [if_pos hc2] at h
    refine g_ic_ne_f 5 12 hM rfl rfl rfl hg1 (zR_lit rfl) hc2 ?_
    refine g_aload_n 6 hM rfl rfl rfl ?_
    refine g_getI 9 8 (gI s 10 8) hM rfl rfl rfl rfl rfl rfl rfl ?_
    by_cases hc3 : (gI s 10 8) = 0
    · rw [if_pos hc3] at h
      refine g_if_ne_f 12 17 hM rfl rfl rfl (zR_gI _ _ _) hc3 ?_
      refine g_aload_n 13 hM rfl rfl rfl ?_
      obtain ⟨r5, s6, h4, h⟩ := zb_some h
      refine g_call 16 _ [] hM rfl rfl rfl rfl rfl (xM_83 _) rfl (z_rcv2 rfl) rfl rfl (by omega) (w_83 (by omega) h4) rfl ?_
      cases h
      exact g_ret hM rfl rfl
    · rw [if_neg hc3] at h
      refine g_if_ne_t 17 hM rfl rfl (zR_gI _ _ _) hc3 ?_
      refine g_aload_n 18 hM rfl rfl rfl ?_
      refine g_dup 19 hM rfl rfl rfl ?_
      refine g_getI 22 8 (gI s 10 8) hM rfl rfl rfl rfl rfl rfl rfl ?_
      refine g_iconst 23 hM rfl rfl ?_
      refine g_isub 24 hM rfl rfl ?_
      refine g_putI 27 8 hM rfl rfl rfl rfl rfl rfl rfl ?_
      refine g_aload_n 28 hM rfl rfl rfl ?_
      obtain ⟨hg7, h⟩ := zg_some h
      refine g_getN 31 2 (gP s 10 2) hM rfl rfl rfl rfl rfl rfl rfl (zC_ne hg7) ?_
      refine g_bipush 33 hM rfl rfl rfl ?_
      refine g_aload_n 34 hM rfl rfl rfl ?_
      refine g_getF 37 hM rfl rfl rfl rfl rfl ?_
      refine g_getI 40 7 (gI s 8 7) hM rfl rfl rfl rfl rfl rfl rfl ?_
      refine g_aload_n 41 hM rfl rfl rfl ?_
      refine g_getI 44 7 (gI s 10 7) hM rfl rfl rfl rfl rfl rfl rfl ?_
      obtain ⟨r9, s10, h8, h⟩ := zb_some h
      refine g_call 47 _ [.int (Int32.ofInt r9)] hM rfl rfl rfl rfl rfl (xM_139 _) rfl (z_rcv2 (zC_obj hg7)) rfl rfl (by omega) (w_139 (by omega) h8) rfl ?_
      refine g_pop 48 hM rfl rfl rfl ?_
      refine g_aload_n 49 hM rfl rfl rfl ?_
      refine g_iconst 50 hM rfl rfl ?_
      obtain ⟨r12, s13, h11, h⟩ := zb_some h
      refine g_call 53 _ [] hM rfl rfl rfl rfl rfl (xM_80 _) rfl (z_rcv2 rfl) rfl rfl (by omega) (w_80 (by omega) h11) rfl ?_
      cases h
      exact g_ret hM rfl rfl
  · rw [if_neg hc2] at h
    refine g_ic_ne_t 12 hM rfl rfl hg1 (zR_lit rfl) hc2 ?_
    refine g_aload_n 13 hM rfl rfl rfl ?_
    obtain ⟨r15, s16, h14, h⟩ := zb_some h
    refine g_call 16 _ [] hM rfl rfl rfl rfl rfl (xM_83 _) rfl (z_rcv2 rfl) rfl rfl (by omega) (w_83 (by omega) h14) rfl ?_
    cases h
    exact g_ret hM rfl rfl
def G_87_2 (k : zK) (d : Nat) (x : am_H) (r : am_A × am_H) (v1 : Int) (e : (Int × zS)) : Prop := zgo k d 87 (2, [(0, .ref 10), (1, .int (Int32.ofInt v1)), (2, .int (Int32.ofInt e.1))], []) (hp e.2 ++ x) r
def K_87_2 (k : zK) (d : Nat) (x : am_H) (r : am_A × am_H) (v1 : Int) (t : (zS)) : Prop := zgo k d 87 (33, [(0, .ref 10), (1, .int (Int32.ofInt v1))], []) (hp t ++ x) r
/-- RelationFinder$Parser.lacksComparison()Z -/
def f_89 (s : zS) : Option Int := if (gI s 10 6) = 0 then (some 0) else (zo (f_81 s) (fun r3 => zg (zR r3) (if r3 = 0 then (some 0) else (some 1))))
theorem w_89 {k : zK} {d : Nat} {x : am_H} {s : zS} {q : Int} (hd : 1 ≤ d) (h : f_89 s = some q) : zgo k d 89 (0, [(0, .ref 10)], []) (hp s ++ x) (.inl (some (.int (Int32.ofInt q))), hp s ++ x) := by
  unfold f_89 at h
  have hM := xM_89 k.1
  refine g_aload_n 1 hM rfl rfl rfl ?_
  refine g_getI 4 6 (gI s 10 6) hM rfl rfl rfl rfl rfl rfl rfl ?_
  by_cases hc1 : (gI s 10 6) = 0
  · rw [if_pos hc1] at h
    refine g_if_eq_t 18 hM rfl rfl (zR_gI _ _ _) hc1 ?_
    refine g_iconst 19 hM rfl rfl ?_
    cases h
    exact g_ret hM rfl rfl
  · rw [if_neg hc1] at h
    refine g_if_eq_f 7 18 hM rfl rfl rfl (zR_gI _ _ _) hc1 ?_
    refine g_aload_n 8 hM rfl rfl rfl ?_
    obtain ⟨r3, h2, h⟩ := zo_some h
    refine g_call 11 _ [.int (Int32.ofInt r3)] hM rfl rfl rfl rfl rfl (xM_81 _) rfl (z_rcv2 rfl) rfl rfl (by omega) (w_81 (by omega) h2) rfl ?_
    obtain ⟨hg4, h⟩ := zg_some h
    by_cases hc5 : r3 = 0
    · rw [if_pos hc5] at h
      refine g_if_eq_t 18 hM rfl rfl hg4 hc5 ?_
      refine g_iconst 19 hM rfl rfl ?_
      cases h
      exact g_ret hM rfl rfl
    · rw [if_neg hc5] at h
      refine g_if_eq_f 14 18 hM rfl rfl rfl hg4 hc5 ?_
      refine g_iconst 15 hM rfl rfl ?_
      refine g_goto 19 hM rfl rfl ?_
      cases h
      exact g_ret hM rfl rfl
def t_90_1 (a : Int) : Nat := zswt 10 32 [108, 108, 108, 108, 113, 129, 129, 129, 129, 129, 113, 113, 113, 113, 113, 113, 113, 113, 129, 129, 129, 129, 113] 129 a
def t_91_1 (a : Int) : Nat := zswt 5 32 [138, 138, 138, 138, 136, 134, 132, 130, 128, 138, 159, 159, 159, 159, 159, 147, 150, 150, 150, 141, 141, 144, 153, 156, 156, 156, 159, 138] 159 a
/-- RelationFinder$Parser.strengthOf(I)I -/
def f_91 (v0 : Int) : Option Int := zg (zR v0) (if t_91_1 v0 = 128 then (some 1) else (if t_91_1 v0 = 130 then (some 2) else (if t_91_1 v0 = 132 then (some 3) else (if t_91_1 v0 = 134 then (some 4) else (if t_91_1 v0 = 136 then (some 5) else (if t_91_1 v0 = 138 then (some 6) else (if t_91_1 v0 = 141 then (some 7) else (if t_91_1 v0 = 144 then (some 8) else (if t_91_1 v0 = 147 then (some 9) else (if t_91_1 v0 = 150 then (some 10) else (if t_91_1 v0 = 153 then (some 11) else (if t_91_1 v0 = 156 then (some 12) else (if t_91_1 v0 = 159 then (some 0) else (none))))))))))))))
theorem w_91 {k : zK} {d : Nat} {x : am_H} {v0 : Int} {s : zS} {q : Int} (hd : 0 ≤ d) (h : f_91 v0 = some q) : zgo k d 91 (0, [(0, .int (Int32.ofInt v0))], []) (hp s ++ x) (.inl (some (.int (Int32.ofInt q))), hp s ++ x) := by
  unfold f_91 at h
  have hM := xM_91 k.1
  refine g_iload_n 1 hM rfl rfl rfl ?_
  obtain ⟨hg1, h⟩ := zg_some h
  by_cases hc2 : t_91_1 v0 = 128
  · rw [if_pos hc2] at h
    refine g_tsw 128 hM rfl hg1 hc2 rfl rfl rfl ?_
    refine g_iconst 129 hM rfl rfl ?_
    cases h
    exact g_ret hM rfl rfl
  · rw [if_neg hc2] at h
    by_cases hc3 : t_91_1 v0 = 130
    · rw [if_pos hc3] at h
      refine g_tsw 130 hM rfl hg1 hc3 rfl rfl rfl ?_
      refine g_iconst 131 hM rfl rfl ?_
      cases h
      exact g_ret hM rfl rfl
    · rw [if_neg hc3] at h
      by_cases hc4 : t_91_1 v0 = 132
      · rw [if_pos hc4] at h
        refine g_tsw 132 hM rfl hg1 hc4 rfl rfl rfl ?_
        refine g_iconst 133 hM rfl rfl ?_
        cases h
        exact g_ret hM rfl rfl
      · rw [if_neg hc4] at h
        by_cases hc5 : t_91_1 v0 = 134
        · rw [if_pos hc5] at h
          refine g_tsw 134 hM rfl hg1 hc5 rfl rfl rfl ?_
          refine g_iconst 135 hM rfl rfl ?_
          cases h
          exact g_ret hM rfl rfl
        · rw [if_neg hc5] at h
          by_cases hc6 : t_91_1 v0 = 136
          · rw [if_pos hc6] at h
            refine g_tsw 136 hM rfl hg1 hc6 rfl rfl rfl ?_
            refine g_iconst 137 hM rfl rfl ?_
            cases h
            exact g_ret hM rfl rfl
          · rw [if_neg hc6] at h
            by_cases hc7 : t_91_1 v0 = 138
            · rw [if_pos hc7] at h
              refine g_tsw 138 hM rfl hg1 hc7 rfl rfl rfl ?_
              refine g_bipush 140 hM rfl rfl rfl ?_
              cases h
              exact g_ret hM rfl rfl
            · rw [if_neg hc7] at h
              by_cases hc8 : t_91_1 v0 = 141
              · rw [if_pos hc8] at h
                refine g_tsw 141 hM rfl hg1 hc8 rfl rfl rfl ?_
                refine g_bipush 143 hM rfl rfl rfl ?_
                cases h
                exact g_ret hM rfl rfl
              · rw [if_neg hc8] at h
                by_cases hc9 : t_91_1 v0 = 144
                · rw [if_pos hc9] at h
                  refine g_tsw 144 hM rfl hg1 hc9 rfl rfl rfl ?_
                  refine g_bipush 146 hM rfl rfl rfl ?_
                  cases h
                  exact g_ret hM rfl rfl
                · rw [if_neg hc9] at h
                  by_cases hc10 : t_91_1 v0 = 147
                  · rw [if_pos hc10] at h
                    refine g_tsw 147 hM rfl hg1 hc10 rfl rfl rfl ?_
                    refine g_bipush 149 hM rfl rfl rfl ?_
                    cases h
                    exact g_ret hM rfl rfl
                  · rw [if_neg hc10] at h
                    by_cases hc11 : t_91_1 v0 = 150
                    · rw [if_pos hc11] at h
                      refine g_tsw 150 hM rfl hg1 hc11 rfl rfl rfl ?_
                      refine g_bipush 152 hM rfl rfl rfl ?_
                      cases h
                      exact g_ret hM rfl rfl
                    · rw [if_neg hc11] at h
                      by_cases hc12 : t_91_1 v0 = 153
                      · rw [if_pos hc12] at h
                        refine g_tsw 153 hM rfl hg1 hc12 rfl rfl rfl ?_
                        refine g_bipush 155 hM rfl rfl rfl ?_
                        cases h
                        exact g_ret hM rfl rfl
                      · rw [if_neg hc12] at h
                        by_cases hc13 : t_91_1 v0 = 156
                        · rw [if_pos hc13] at h
                          refine g_tsw 156 hM rfl hg1 hc13 rfl rfl rfl ?_
                          refine g_bipush 158 hM rfl rfl rfl ?_
                          cases h
                          exact g_ret hM rfl rfl
                        · rw [if_neg hc13] at h
                          by_cases hc14 : t_91_1 v0 = 159
                          · rw [if_pos hc14] at h
                            refine g_tsw 159 hM rfl hg1 hc14 rfl rfl rfl ?_
                            refine g_iconst 160 hM rfl rfl ?_
                            cases h
                            exact g_ret hM rfl rfl
                          · rw [if_neg hc14] at h
                            cases h
/-- RelationFinder$Parser.joinStrength(I)I -/
def f_90 (v1 : Int) (s : zS) : Option Int := zg (zR v1) (if t_90_1 v1 = 108 then (zo (f_91 v1) (fun r4 => some r4)) else (if t_90_1 v1 = 113 then (if (gI s 10 6) = 0 then (some 0) else (zo (f_91 v1) (fun r8 => some r8))) else (if t_90_1 v1 = 129 then (some 0) else (none))))
theorem w_90 {k : zK} {d : Nat} {x : am_H} {v1 : Int} {s : zS} {q : Int} (hd : 1 ≤ d) (h : f_90 v1 s = some q) : zgo k d 90 (0, [(0, .ref 10), (1, .int (Int32.ofInt v1))], []) (hp s ++ x) (.inl (some (.int (Int32.ofInt q))), hp s ++ x) := by
  unfold f_90 at h
  have hM := xM_90 k.1
  refine g_iload_n 1 hM rfl rfl rfl ?_
  obtain ⟨hg1, h⟩ := zg_some h
  by_cases hc2 : t_90_1 v1 = 108
  · rw [if_pos hc2] at h
    refine g_tsw 108 hM rfl hg1 hc2 rfl rfl rfl ?_
    refine g_iload_n 109 hM rfl rfl rfl ?_
    obtain ⟨r4, h3, h⟩ := zo_some h
    refine g_call 112 _ [.int (Int32.ofInt r4)] hM rfl rfl rfl rfl rfl (xM_91 _) rfl rfl rfl rfl (by omega) (w_91 (by omega) h3) rfl ?_
    cases h
    exact g_ret hM rfl rfl
  · rw [if_neg hc2] at h
    by_cases hc5 : t_90_1 v1 = 113
    · rw [if_pos hc5] at h
      refine g_tsw 113 hM rfl hg1 hc5 rfl rfl rfl ?_
      refine g_aload_n 114 hM rfl rfl rfl ?_
      refine g_getI 117 6 (gI s 10 6) hM rfl rfl rfl rfl rfl rfl rfl ?_
      by_cases hc6 : (gI s 10 6) = 0
      · rw [if_pos hc6] at h
        refine g_if_ne_f 120 124 hM rfl rfl rfl (zR_gI _ _ _) hc6 ?_
        refine g_iconst 121 hM rfl rfl ?_
        refine g_goto 128 hM rfl rfl ?_
        cases h
        exact g_ret hM rfl rfl
      · rw [if_neg hc6] at h
        refine g_if_ne_t 124 hM rfl rfl (zR_gI _ _ _) hc6 ?_
        refine g_iload_n 125 hM rfl rfl rfl ?_
        obtain ⟨r8, h7, h⟩ := zo_some h
        refine g_call 128 _ [.int (Int32.ofInt r8)] hM rfl rfl rfl rfl rfl (xM_91 _) rfl rfl rfl rfl (by omega) (w_91 (by omega) h7) rfl ?_
        cases h
        exact g_ret hM rfl rfl
    · rw [if_neg hc5] at h
      by_cases hc9 : t_90_1 v1 = 129
      · rw [if_pos hc9] at h
        refine g_tsw 129 hM rfl hg1 hc9 rfl rfl rfl ?_
        refine g_iconst 130 hM rfl rfl ?_
        cases h
        exact g_ret hM rfl rfl
      · rw [if_neg hc9] at h
        cases h
/-- RelationFinder$Parser.endsTop(I)Z -/
def f_88 (v1 : Int) (s : zS) : Option Int := if (gI s 10 8) = 0 then (some 0) else (zo (f_89 s) (fun r3 => zg (zR r3) (if r3 = 0 then (zg (0 ≤ ((gI s 10 8) - 1) ∧ ((gI s 10 8) - 1) < 20) (if (gI s 12 ((gI s 10 8) - 1)) = 1 then (some 0) else (zo (f_90 v1 s) (fun r9 => if (gI s 12 ((gI s 10 8) - 1)) = 2 then (if (gI s 11 ((gI s 10 8) - 1)) = 39 then (some 0) else (zg (zR r9) (if r9 = 0 then (some 1) else (some 0)))) else (zo (f_91 (gI s 11 ((gI s 10 8) - 1))) (fun r15 => zg (zR r15) (zg (zR r9) (if r9 < r15 then (some 1) else (if r15 = r9 then (if r15 = 0 then (some 0) else (if (gI s 11 ((gI s 10 8) - 1)) = 12 then (some 0) else (some 1))) else (some 0)))))))))) else (some 0))))
theorem w_88 {k : zK} {d : Nat} {x : am_H} {v1 : Int} {s : zS} {q : Int} (hd : 2 ≤ d) (h : f_88 v1 s = some q) : zgo k d 88 (0, [(0, .ref 10), (1, .int (Int32.ofInt v1))], []) (hp s ++ x) (.inl (some (.int (Int32.ofInt q))), hp s ++ x) := by
  unfold f_88 at h
  have hM := xM_88 k.1
  refine g_aload_n 1 hM rfl rfl rfl ?_
  refine g_getI 4 8 (gI s 10 8) hM rfl rfl rfl rfl rfl rfl rfl ?_
  by_cases hc1 : (gI s 10 8) = 0
  · rw [if_pos hc1] at h
    refine g_if_eq_t 29 hM rfl rfl (zR_gI _ _ _) hc1 ?_
    refine g_iconst 30 hM rfl rfl ?_
    cases h
    exact g_ret hM rfl rfl
  · rw [if_neg hc1] at h
    refine g_if_eq_f 7 29 hM rfl rfl rfl (zR_gI _ _ _) hc1 ?_
    refine g_aload_n 8 hM rfl rfl rfl ?_
    obtain ⟨r3, h2, h⟩ := zo_some h
    refine g_call 11 _ [.int (Int32.ofInt r3)] hM rfl rfl rfl rfl rfl (xM_89 _) rfl (z_rcv2 rfl) rfl rfl (by omega) (w_89 (by omega) h2) rfl ?_
    obtain ⟨hg4, h⟩ := zg_some h
    by_cases hc5 : r3 = 0
    · rw [if_pos hc5] at h
      refine g_if_ne_f 14 29 hM rfl rfl rfl hg4 hc5 ?_
      refine g_aload_n 15 hM rfl rfl rfl ?_
      refine g_getF 18 hM rfl rfl rfl rfl rfl ?_
      refine g_aload_n 19 hM rfl rfl rfl ?_
      refine g_getI 22 8 (gI s 10 8) hM rfl rfl rfl rfl rfl rfl rfl ?_
      refine g_iconst 23 hM rfl rfl ?_
      refine g_isub 24 hM rfl rfl ?_
      obtain ⟨hg6, h⟩ := zg_some h
      refine g_iaload 25 (gI s 12 ((gI s 10 8) - 1)) hM rfl rfl rfl rfl hg6 rfl ?_
      refine g_iconst 26 hM rfl rfl ?_
      by_cases hc7 : (gI s 12 ((gI s 10 8) - 1)) = 1
      · rw [if_pos hc7] at h
        refine g_ic_ne_f 29 31 hM rfl rfl rfl (zR_gI _ _ _) (zR_lit rfl) hc7 ?_
        refine g_iconst 30 hM rfl rfl ?_
        cases h
        exact g_ret hM rfl rfl
      · rw [if_neg hc7] at h
        refine g_ic_ne_t 31 hM rfl rfl (zR_gI _ _ _) (zR_lit rfl) hc7 ?_
        refine g_aload_n 32 hM rfl rfl rfl ?_
        refine g_getF 35 hM rfl rfl rfl rfl rfl ?_
        refine g_aload_n 36 hM rfl rfl rfl ?_
        refine g_getI 39 8 (gI s 10 8) hM rfl rfl rfl rfl rfl rfl rfl ?_
        refine g_iconst 40 hM rfl rfl ?_
        refine g_isub 41 hM rfl rfl ?_
        refine g_iaload 42 (gI s 11 ((gI s 10 8) - 1)) hM rfl rfl rfl rfl hg6 rfl ?_
        refine g_istore_n 43 hM rfl rfl rfl ?_
        refine g_aload_n 44 hM rfl rfl rfl ?_
        refine g_iload_n 45 hM rfl rfl rfl ?_
        obtain ⟨r9, h8, h⟩ := zo_some h
        refine g_call 48 _ [.int (Int32.ofInt r9)] hM rfl rfl rfl rfl rfl (xM_90 _) rfl (z_rcv2 rfl) rfl rfl (by omega) (w_90 (by omega) h8) rfl ?_
        refine g_istore_n 49 hM rfl rfl rfl ?_
        refine g_aload_n 50 hM rfl rfl rfl ?_
        refine g_getF 53 hM rfl rfl rfl rfl rfl ?_
        refine g_aload_n 54 hM rfl rfl rfl ?_
        refine g_getI 57 8 (gI s 10 8) hM rfl rfl rfl rfl rfl rfl rfl ?_
        refine g_iconst 58 hM rfl rfl ?_
        refine g_isub 59 hM rfl rfl ?_
        refine g_iaload 60 (gI s 12 ((gI s 10 8) - 1)) hM rfl rfl rfl rfl hg6 rfl ?_
        refine g_iconst 61 hM rfl rfl ?_
        by_cases hc10 : (gI s 12 ((gI s 10 8) - 1)) = 2
        · rw [if_pos hc10] at h
          refine g_ic_ne_f 64 80 hM rfl rfl rfl (zR_gI _ _ _) (zR_lit rfl) hc10 ?_
          refine g_iload_n 65 hM rfl rfl rfl ?_
          refine g_bipush 67 hM rfl rfl rfl ?_
          by_cases hc11 : (gI s 11 ((gI s 10 8) - 1)) = 39
          · rw [if_pos hc11] at h
            refine g_ic_eq_t 78 hM rfl rfl (zR_gI _ _ _) (zR_lit rfl) hc11 ?_
            refine g_iconst 79 hM rfl rfl ?_
            cases h
            exact g_ret hM rfl rfl
          · rw [if_neg hc11] at h
            refine g_ic_eq_f 70 78 hM rfl rfl rfl (zR_gI _ _ _) (zR_lit rfl) hc11 ?_
            refine g_iload_n 71 hM rfl rfl rfl ?_
            obtain ⟨hg12, h⟩ := zg_some h
            by_cases hc13 : r9 = 0
            · rw [if_pos hc13] at h
              refine g_if_ne_f 74 78 hM rfl rfl rfl hg12 hc13 ?_
              refine g_iconst 75 hM rfl rfl ?_
              refine g_goto 79 hM rfl rfl ?_
              cases h
              exact g_ret hM rfl rfl
            · rw [if_neg hc13] at h
              refine g_if_ne_t 78 hM rfl rfl hg12 hc13 ?_
              refine g_iconst 79 hM rfl rfl ?_
              cases h
              exact g_ret hM rfl rfl
        · rw [if_neg hc10] at h
          refine g_ic_ne_t 80 hM rfl rfl (zR_gI _ _ _) (zR_lit rfl) hc10 ?_
          refine g_iload_n 81 hM rfl rfl rfl ?_
          obtain ⟨r15, h14, h⟩ := zo_some h
          refine g_call 84 _ [.int (Int32.ofInt r15)] hM rfl rfl rfl rfl rfl (xM_91 _) rfl rfl rfl rfl (by omega) (w_91 (by omega) h14) rfl ?_
          refine g_istore 86 hM rfl rfl rfl ?_
          refine g_iload 88 hM rfl rfl rfl ?_
          refine g_iload_n 89 hM rfl rfl rfl ?_
          obtain ⟨hg16, h⟩ := zg_some h
          obtain ⟨hg17, h⟩ := zg_some h
          by_cases hc18 : r9 < r15
          · rw [if_pos hc18] at h
            refine g_ic_gt_t 109 hM rfl rfl hg16 hg17 hc18 ?_
            refine g_iconst 110 hM rfl rfl ?_
            refine g_goto 114 hM rfl rfl ?_
            cases h
            exact g_ret hM rfl rfl
          · rw [if_neg hc18] at h
            refine g_ic_gt_f 92 109 hM rfl rfl rfl hg16 hg17 hc18 ?_
            refine g_iload 94 hM rfl rfl rfl ?_
            refine g_iload_n 95 hM rfl rfl rfl ?_
            by_cases hc19 : r15 = r9
            · rw [if_pos hc19] at h
              refine g_ic_ne_f 98 113 hM rfl rfl rfl hg16 hg17 hc19 ?_
              refine g_iload 100 hM rfl rfl rfl ?_
              by_cases hc20 : r15 = 0
              · rw [if_pos hc20] at h
                refine g_if_eq_t 113 hM rfl rfl hg16 hc20 ?_
                refine g_iconst 114 hM rfl rfl ?_
                cases h
                exact g_ret hM rfl rfl
              · rw [if_neg hc20] at h
                refine g_if_eq_f 103 113 hM rfl rfl rfl hg16 hc20 ?_
                refine g_iload_n 104 hM rfl rfl rfl ?_
                refine g_bipush 106 hM rfl rfl rfl ?_
                by_cases hc21 : (gI s 11 ((gI s 10 8) - 1)) = 12
                · rw [if_pos hc21] at h
                  refine g_ic_eq_t 113 hM rfl rfl (zR_gI _ _ _) (zR_lit rfl) hc21 ?_
                  refine g_iconst 114 hM rfl rfl ?_
                  cases h
                  exact g_ret hM rfl rfl
                · rw [if_neg hc21] at h
                  refine g_ic_eq_f 109 113 hM rfl rfl rfl (zR_gI _ _ _) (zR_lit rfl) hc21 ?_
                  refine g_iconst 110 hM rfl rfl ?_
                  refine g_goto 114 hM rfl rfl ?_
                  cases h
                  exact g_ret hM rfl rfl
            · rw [if_neg hc19] at h
              refine g_ic_ne_t 113 hM rfl rfl hg16 hg17 hc19 ?_
              refine g_iconst 114 hM rfl rfl ?_
              cases h
              exact g_ret hM rfl rfl
    · rw [if_neg hc5] at h
      refine g_if_ne_t 29 hM rfl rfl hg4 hc5 ?_
      refine g_iconst 30 hM rfl rfl ?_
      cases h
      exact g_ret hM rfl rfl
def G_94_4 (k : zK) (d : Nat) (x : am_H) (r : am_A × am_H) (v1 : Int) (s : zS) (e : (Int × Int)) : Prop := zgo k d 94 (4, [(0, .ref 10), (1, .int (Int32.ofInt v1)), (2, .int (Int32.ofInt e.1)), (3, .int (Int32.ofInt e.2))], []) (hp s ++ x) r
def K_94_4 (k : zK) (d : Nat) (x : am_H) (r : am_A × am_H) (v1 : Int) (s : zS) (t : (Int)) : Prop := zgo k d 94 (35, [(2, .int (Int32.ofInt t))], []) (hp s ++ x) r
def b_94_4 (v1 : Int) (s : zS) (v2 : Int) (v3 : Int) : Option ((Int × Int) ⊕ (Int)) := zg (zR v3) (zg (zR v1) (if v3 < v1 then (zg (0 ≤ v3 ∧ v3 < 20) (if (gI s 12 v3) = 2 then (some (.inl ((zor v2 (1 * 2 ^ zsh v3)), (v3 + 1)))) else (some (.inl ((zor v2 0), (v3 + 1)))))) else (some (.inr v2))))
theorem wb_94_4 {k : zK} {d : Nat} {x : am_H} {r : am_A × am_H} {v1 : Int} {v2 : Int} {v3 : Int} {s : zS} {q : (Int × Int) ⊕ (Int)} (hd : 0 ≤ d) (h : b_94_4 v1 s v2 v3 = some q) (hK : Sum.elim (G_94_4 k d x r v1 s) (K_94_4 k d x r v1 s) q) : G_94_4 k d x r v1 s (v2, v3) := by
  unfold b_94_4 at h
  have hM := xM_94 k.1
  show zgo k d 94 (4, [(0, .ref 10), (1, .int (Int32.ofInt v1)), (2, .int (Int32.ofInt v2)), (3, .int (Int32.ofInt v3))], []) (hp s ++ x) r
  refine g_iload_n 5 hM rfl rfl rfl ?_
  refine g_iload_n 6 hM rfl rfl rfl ?_
  obtain ⟨hg1, h⟩ := zg_some h
  obtain ⟨hg2, h⟩ := zg_some h
  by_cases hc3 : v3 < v1
  · rw [if_pos hc3] at h
    refine g_ic_ge_f 9 35 hM rfl rfl rfl hg1 hg2 hc3 ?_
    refine g_iload_n 10 hM rfl rfl rfl ?_
    refine g_aload_n 11 hM rfl rfl rfl ?_
    refine g_getF 14 hM rfl rfl rfl rfl rfl ?_
    refine g_iload_n 15 hM rfl rfl rfl ?_
    obtain ⟨hg4, h⟩ := zg_some h
    refine g_iaload 16 (gI s 12 v3) hM rfl rfl rfl rfl hg4 rfl ?_
    refine g_iconst 17 hM rfl rfl ?_
    by_cases hc5 : (gI s 12 v3) = 2
    · rw [if_pos hc5] at h
      refine g_ic_ne_f 20 26 hM rfl rfl rfl (zR_gI _ _ _) (zR_lit rfl) hc5 ?_
      refine g_iconst 21 hM rfl rfl ?_
      refine g_iload_n 22 hM rfl rfl rfl ?_
      refine g_ishl 23 hM rfl rfl ?_
      refine g_goto 27 hM rfl rfl ?_
      refine g_ior 28 hM rfl rfl ?_
      refine g_istore_n 29 hM rfl rfl rfl ?_
      refine g_iinc 32 hM rfl rfl rfl rfl ?_
      refine g_goto 4 hM rfl rfl ?_
      cases h
      exact g_lv [(0, .ref 10), (1, .int (Int32.ofInt v1)), (2, .int (Int32.ofInt (zor v2 (1 * 2 ^ zsh v3)))), (3, .int (Int32.ofInt (v3 + 1)))] rfl ⟨rfl, rfl, rfl, rfl, trivial⟩ hK
    · rw [if_neg hc5] at h
      refine g_ic_ne_t 26 hM rfl rfl (zR_gI _ _ _) (zR_lit rfl) hc5 ?_
      refine g_iconst 27 hM rfl rfl ?_
      refine g_ior 28 hM rfl rfl ?_
      refine g_istore_n 29 hM rfl rfl rfl ?_
      refine g_iinc 32 hM rfl rfl rfl rfl ?_
      refine g_goto 4 hM rfl rfl ?_
      cases h
      exact g_lv [(0, .ref 10), (1, .int (Int32.ofInt v1)), (2, .int (Int32.ofInt (zor v2 0))), (3, .int (Int32.ofInt (v3 + 1)))] rfl ⟨rfl, rfl, rfl, rfl, trivial⟩ hK
  · rw [if_neg hc3] at h
    refine g_ic_ge_t 35 hM rfl rfl hg1 hg2 hc3 ?_
    cases h
    exact g_lv [(2, .int (Int32.ofInt v2))] rfl ⟨rfl, trivial⟩ hK
theorem wl_94_4 {k : zK} {d : Nat} {x : am_H} {r : am_A × am_H} {v1 : Int} {s : zS} {n : Nat} {e : (Int × Int)} {t : (Int)} (hd : 0 ≤ d) (h : zlp (fun (q : Int × Int) => b_94_4 v1 s q.1 q.2) n e = some t) (hK : K_94_4 k d x r v1 s t) : G_94_4 k d x r v1 s e := zlp_go (G := fun e => G_94_4 k d x r v1 s e) (K := K_94_4 k d x r v1 s) (fun e e1 h1 hg => wb_94_4 (q := .inl e1) hd h1 hg) (fun e t1 h1 hk => wb_94_4 (q := .inr t1) hd h1 hk) n e t h hK
/-- RelationFinder$Parser.bodiesBelow(I)I -/
def f_94 (v1 : Int) (s : zS) : Option Int := zo (zlp (fun (q : Int × Int) => b_94_4 v1 s q.1 q.2) zF (0, 0)) (fun e1 => some e1)
theorem w_94 {k : zK} {d : Nat} {x : am_H} {v1 : Int} {s : zS} {q : Int} (hd : 0 ≤ d) (h : f_94 v1 s = some q) : zgo k d 94 (0, [(0, .ref 10), (1, .int (Int32.ofInt v1))], []) (hp s ++ x) (.inl (some (.int (Int32.ofInt q))), hp s ++ x) := by
  unfold f_94 at h
  have hM := xM_94 k.1
  refine g_iconst 1 hM rfl rfl ?_
  refine g_istore_n 2 hM rfl rfl rfl ?_
  refine g_iconst 3 hM rfl rfl ?_
  refine g_istore_n 4 hM rfl rfl rfl ?_
  obtain ⟨e1, h2, h⟩ := zo_some h
  refine g_lv [(0, .ref 10), (1, .int (Int32.ofInt v1)), (2, .int (Int32.ofInt 0)), (3, .int (Int32.ofInt 0))] rfl ⟨rfl, rfl, rfl, rfl, trivial⟩ ?_
  refine wl_94_4 (by omega) h2 ?_
  show zgo k d 94 (35, [(2, .int (Int32.ofInt e1))], []) (hp s ++ x) (.inl (some (.int (Int32.ofInt q))), hp s ++ x)
  refine g_iload_n 36 hM rfl rfl rfl ?_
  cases h
  exact g_ret hM rfl rfl
def G_140_15 (k : zK) (d : Nat) (x : am_H) (r : am_A × am_H) (c0 : Nat) (v1 : Int) (v2 : Int) (v3 : Int) (e : (Int × zS)) : Prop := zgo k d 140 (15, [(0, .ref c0), (1, .int (Int32.ofInt v1)), (2, .int (Int32.ofInt v2)), (3, .int (Int32.ofInt v3)), (4, .int (Int32.ofInt e.1))], []) (hp e.2 ++ x) r
def K_140_15 (k : zK) (d : Nat) (x : am_H) (r : am_A × am_H) (c0 : Nat) (v1 : Int) (v2 : Int) (v3 : Int) (t : (zS)) : Prop := zgo k d 140 (71, [(0, .ref c0), (1, .int (Int32.ofInt v1)), (3, .int (Int32.ofInt v3))], []) (hp t ++ x) r
def b_140_15 (c0 : Nat) (v1 : Int) (v2 : Int) (v3 : Int) (v4 : Int) (s : zS) : Option ((Int × zS) ⊕ (zS)) := zg (zC c0 = true) (zg (zR v4) (if v4 < (gI s c0 0) then (zg (0 ≤ v4 ∧ v4 < 200) (if (gI s (c0 + 1) v4) = 43 then (zg (zR v2) (if (gI s (c0 + 2) v4) < v2 then (zg (0 ≤ v1 ∧ v1 < 200) (some (.inl ((v4 + 1), (sI s (c0 + 6) v1 (zor (gI s (c0 + 6) v1) (1 * 2 ^ zsh (gI s (c0 + 2) v4)))))))) else (some (.inl ((v4 + 1), s))))) else (some (.inl ((v4 + 1), s))))) else (some (.inr s))))
theorem wb_140_15 {k : zK} {d : Nat} {x : am_H} {r : am_A × am_H} {c0 : Nat} {v1 : Int} {v2 : Int} {v3 : Int} {v4 : Int} {s : zS} {q : (Int × zS) ⊕ (zS)} (hd : 1 ≤ d) (h : b_140_15 c0 v1 v2 v3 v4 s = some q) (hK : Sum.elim (G_140_15 k d x r c0 v1 v2 v3) (K_140_15 k d x r c0 v1 v2 v3) q) : G_140_15 k d x r c0 v1 v2 v3 (v4, s) := by
  unfold b_140_15 at h
  have hM := xM_140 k.1
  show zgo k d 140 (15, [(0, .ref c0), (1, .int (Int32.ofInt v1)), (2, .int (Int32.ofInt v2)), (3, .int (Int32.ofInt v3)), (4, .int (Int32.ofInt v4))], []) (hp s ++ x) r
  refine g_iload 17 hM rfl rfl rfl ?_
  refine g_aload_n 18 hM rfl rfl rfl ?_
  obtain ⟨hg1, h⟩ := zg_some h
  refine g_getI 21 0 (gI s c0 0) hM rfl rfl rfl (zC_obj hg1) rfl rfl rfl ?_
  obtain ⟨hg2, h⟩ := zg_some h
  by_cases hc3 : v4 < (gI s c0 0)
  · rw [if_pos hc3] at h
    refine g_ic_ge_f 24 71 hM rfl rfl rfl hg2 (zR_gI _ _ _) hc3 ?_
    refine g_aload_n 25 hM rfl rfl rfl ?_
    refine g_getR 28 hM rfl rfl rfl (zC_obj hg1) rfl ?_
    refine g_iload 30 hM rfl rfl rfl ?_
    obtain ⟨hg4, h⟩ := zg_some h
    refine g_iaload 31 (gI s (c0 + 1) v4) hM rfl rfl (zC_a1 hg1) rfl hg4 rfl ?_
    refine g_bipush 33 hM rfl rfl rfl ?_
    by_cases hc5 : (gI s (c0 + 1) v4) = 43
    · rw [if_pos hc5] at h
      refine g_ic_ne_f 36 65 hM rfl rfl rfl (zR_gI _ _ _) (zR_lit rfl) hc5 ?_
      refine g_aload_n 37 hM rfl rfl rfl ?_
      refine g_getR 40 hM rfl rfl rfl (zC_obj hg1) rfl ?_
      refine g_iload 42 hM rfl rfl rfl ?_
      refine g_iaload 43 (gI s (c0 + 2) v4) hM rfl rfl (zC_a2 hg1) rfl hg4 rfl ?_
      refine g_iload_n 44 hM rfl rfl rfl ?_
      obtain ⟨hg6, h⟩ := zg_some h
      by_cases hc7 : (gI s (c0 + 2) v4) < v2
      · rw [if_pos hc7] at h
        refine g_ic_ge_f 47 65 hM rfl rfl rfl (zR_gI _ _ _) hg6 hc7 ?_
        refine g_aload_n 48 hM rfl rfl rfl ?_
        refine g_getR 51 hM rfl rfl rfl (zC_obj hg1) rfl ?_
        refine g_iload_n 52 hM rfl rfl rfl ?_
        refine g_dup2 53 hM rfl rfl rfl rfl ?_
        obtain ⟨hg8, h⟩ := zg_some h
        refine g_iaload 54 (gI s (c0 + 6) v1) hM rfl rfl (zC_a6 hg1) rfl hg8 rfl ?_
        refine g_iconst 55 hM rfl rfl ?_
        refine g_aload_n 56 hM rfl rfl rfl ?_
        refine g_getR 59 hM rfl rfl rfl (zC_obj hg1) rfl ?_
        refine g_iload 61 hM rfl rfl rfl ?_
        refine g_iaload 62 (gI s (c0 + 2) v4) hM rfl rfl (zC_a2 hg1) rfl hg4 rfl ?_
        refine g_ishl 63 hM rfl rfl ?_
        refine g_ior 64 hM rfl rfl ?_
        refine g_iastore 65 hM rfl rfl (zC_a6 hg1) rfl hg8 ?_
        refine g_iinc 68 hM rfl rfl rfl rfl ?_
        refine g_goto 15 hM rfl rfl ?_
        cases h
        exact g_lv [(0, .ref c0), (1, .int (Int32.ofInt v1)), (2, .int (Int32.ofInt v2)), (3, .int (Int32.ofInt v3)), (4, .int (Int32.ofInt (v4 + 1)))] rfl ⟨rfl, rfl, rfl, rfl, rfl, trivial⟩ hK
      · rw [if_neg hc7] at h
        refine g_ic_ge_t 65 hM rfl rfl (zR_gI _ _ _) hg6 hc7 ?_
        refine g_iinc 68 hM rfl rfl rfl rfl ?_
        refine g_goto 15 hM rfl rfl ?_
        cases h
        exact g_lv [(0, .ref c0), (1, .int (Int32.ofInt v1)), (2, .int (Int32.ofInt v2)), (3, .int (Int32.ofInt v3)), (4, .int (Int32.ofInt (v4 + 1)))] rfl ⟨rfl, rfl, rfl, rfl, rfl, trivial⟩ hK
    · rw [if_neg hc5] at h
      refine g_ic_ne_t 65 hM rfl rfl (zR_gI _ _ _) (zR_lit rfl) hc5 ?_
      refine g_iinc 68 hM rfl rfl rfl rfl ?_
      refine g_goto 15 hM rfl rfl ?_
      cases h
      exact g_lv [(0, .ref c0), (1, .int (Int32.ofInt v1)), (2, .int (Int32.ofInt v2)), (3, .int (Int32.ofInt v3)), (4, .int (Int32.ofInt (v4 + 1)))] rfl ⟨rfl, rfl, rfl, rfl, rfl, trivial⟩ hK
  · rw [if_neg hc3] at h
    refine g_ic_ge_t 71 hM rfl rfl hg2 (zR_gI _ _ _) hc3 ?_
    cases h
    exact g_lv [(0, .ref c0), (1, .int (Int32.ofInt v1)), (3, .int (Int32.ofInt v3))] rfl ⟨rfl, rfl, rfl, trivial⟩ hK
theorem wl_140_15 {k : zK} {d : Nat} {x : am_H} {r : am_A × am_H} {c0 : Nat} {v1 : Int} {v2 : Int} {v3 : Int} {n : Nat} {e : (Int × zS)} {t : (zS)} (hd : 1 ≤ d) (h : zlp (fun (q : Int × zS) => b_140_15 c0 v1 v2 v3 q.1 q.2) n e = some t) (hK : K_140_15 k d x r c0 v1 v2 v3 t) : G_140_15 k d x r c0 v1 v2 v3 e := zlp_go (G := fun e => G_140_15 k d x r c0 v1 v2 v3 e) (K := K_140_15 k d x r c0 v1 v2 v3) (fun e e1 h1 hg => wb_140_15 (q := .inl e1) hd h1 hg) (fun e t1 h1 hk => wb_140_15 (q := .inr t1) hd h1 hk) n e t h hK
/-- java/lang/Integer.bitCount(I)I -/
def f_269 (v0 : Int) : Option Int := zg (0 ≤ v0 ∧ zR v0) (zg (0 ≤ (v0 - (zand (v0 / 2 ^ zsh 1) 1431655765)) ∧ zR (v0 - (zand (v0 / 2 ^ zsh 1) 1431655765))) (zg (0 ≤ ((zand (v0 - (zand (v0 / 2 ^ zsh 1) 1431655765)) 858993459) + (zand ((v0 - (zand (v0 / 2 ^ zsh 1) 1431655765)) / 2 ^ zsh 2) 858993459)) ∧ zR ((zand (v0 - (zand (v0 / 2 ^ zsh 1) 1431655765)) 858993459) + (zand ((v0 - (zand (v0 / 2 ^ zsh 1) 1431655765)) / 2 ^ zsh 2) 858993459))) (zg (0 ≤ (zand (((zand (v0 - (zand (v0 / 2 ^ zsh 1) 1431655765)) 858993459) + (zand ((v0 - (zand (v0 / 2 ^ zsh 1) 1431655765)) / 2 ^ zsh 2) 858993459)) + (((zand (v0 - (zand (v0 / 2 ^ zsh 1) 1431655765)) 858993459) + (zand ((v0 - (zand (v0 / 2 ^ zsh 1) 1431655765)) / 2 ^ zsh 2) 858993459)) / 2 ^ zsh 4)) 252645135) ∧ zR (zand (((zand (v0 - (zand (v0 / 2 ^ zsh 1) 1431655765)) 858993459) + (zand ((v0 - (zand (v0 / 2 ^ zsh 1) 1431655765)) / 2 ^ zsh 2) 858993459)) + (((zand (v0 - (zand (v0 / 2 ^ zsh 1) 1431655765)) 858993459) + (zand ((v0 - (zand (v0 / 2 ^ zsh 1) 1431655765)) / 2 ^ zsh 2) 858993459)) / 2 ^ zsh 4)) 252645135)) (zg (0 ≤ ((zand (((zand (v0 - (zand (v0 / 2 ^ zsh 1) 1431655765)) 858993459) + (zand ((v0 - (zand (v0 / 2 ^ zsh 1) 1431655765)) / 2 ^ zsh 2) 858993459)) + (((zand (v0 - (zand (v0 / 2 ^ zsh 1) 1431655765)) 858993459) + (zand ((v0 - (zand (v0 / 2 ^ zsh 1) 1431655765)) / 2 ^ zsh 2) 858993459)) / 2 ^ zsh 4)) 252645135) + ((zand (((zand (v0 - (zand (v0 / 2 ^ zsh 1) 1431655765)) 858993459) + (zand ((v0 - (zand (v0 / 2 ^ zsh 1) 1431655765)) / 2 ^ zsh 2) 858993459)) + (((zand (v0 - (zand (v0 / 2 ^ zsh 1) 1431655765)) 858993459) + (zand ((v0 - (zand (v0 / 2 ^ zsh 1) 1431655765)) / 2 ^ zsh 2) 858993459)) / 2 ^ zsh 4)) 252645135) / 2 ^ zsh 8)) ∧ zR ((zand (((zand (v0 - (zand (v0 / 2 ^ zsh 1) 1431655765)) 858993459) + (zand ((v0 - (zand (v0 / 2 ^ zsh 1) 1431655765)) / 2 ^ zsh 2) 858993459)) + (((zand (v0 - (zand (v0 / 2 ^ zsh 1) 1431655765)) 858993459) + (zand ((v0 - (zand (v0 / 2 ^ zsh 1) 1431655765)) / 2 ^ zsh 2) 858993459)) / 2 ^ zsh 4)) 252645135) + ((zand (((zand (v0 - (zand (v0 / 2 ^ zsh 1) 1431655765)) 858993459) + (zand ((v0 - (zand (v0 / 2 ^ zsh 1) 1431655765)) / 2 ^ zsh 2) 858993459)) + (((zand (v0 - (zand (v0 / 2 ^ zsh 1) 1431655765)) 858993459) + (zand ((v0 - (zand (v0 / 2 ^ zsh 1) 1431655765)) / 2 ^ zsh 2) 858993459)) / 2 ^ zsh 4)) 252645135) / 2 ^ zsh 8))) (some (zand (((zand (((zand (v0 - (zand (v0 / 2 ^ zsh 1) 1431655765)) 858993459) + (zand ((v0 - (zand (v0 / 2 ^ zsh 1) 1431655765)) / 2 ^ zsh 2) 858993459)) + (((zand (v0 - (zand (v0 / 2 ^ zsh 1) 1431655765)) 858993459) + (zand ((v0 - (zand (v0 / 2 ^ zsh 1) 1431655765)) / 2 ^ zsh 2) 858993459)) / 2 ^ zsh 4)) 252645135) + ((zand (((zand (v0 - (zand (v0 / 2 ^ zsh 1) 1431655765)) 858993459) + (zand ((v0 - (zand (v0 / 2 ^ zsh 1) 1431655765)) / 2 ^ zsh 2) 858993459)) + (((zand (v0 - (zand (v0 / 2 ^ zsh 1) 1431655765)) 858993459) + (zand ((v0 - (zand (v0 / 2 ^ zsh 1) 1431655765)) / 2 ^ zsh 2) 858993459)) / 2 ^ zsh 4)) 252645135) / 2 ^ zsh 8)) + (((zand (((zand (v0 - (zand (v0 / 2 ^ zsh 1) 1431655765)) 858993459) + (zand ((v0 - (zand (v0 / 2 ^ zsh 1) 1431655765)) / 2 ^ zsh 2) 858993459)) + (((zand (v0 - (zand (v0 / 2 ^ zsh 1) 1431655765)) 858993459) + (zand ((v0 - (zand (v0 / 2 ^ zsh 1) 1431655765)) / 2 ^ zsh 2) 858993459)) / 2 ^ zsh 4)) 252645135) + ((zand (((zand (v0 - (zand (v0 / 2 ^ zsh 1) 1431655765)) 858993459) + (zand ((v0 - (zand (v0 / 2 ^ zsh 1) 1431655765)) / 2 ^ zsh 2) 858993459)) + (((zand (v0 - (zand (v0 / 2 ^ zsh 1) 1431655765)) 858993459) + (zand ((v0 - (zand (v0 / 2 ^ zsh 1) 1431655765)) / 2 ^ zsh 2) 858993459)) / 2 ^ zsh 4)) 252645135) / 2 ^ zsh 8)) / 2 ^ zsh 16)) 63))))))
theorem w_269 {k : zK} {d : Nat} {x : am_H} {v0 : Int} {s : zS} {q : Int} (hd : 0 ≤ d) (h : f_269 v0 = some q) : zgo k d 269 (0, [(0, .int (Int32.ofInt v0))], []) (hp s ++ x) (.inl (some (.int (Int32.ofInt q))), hp s ++ x) := by
  unfold f_269 at h
  have hM := xM_269 k.1
  refine g_iload_n 1 hM rfl rfl rfl ?_
  refine g_iload_n 2 hM rfl rfl rfl ?_
  refine g_iconst 3 hM rfl rfl ?_
  obtain ⟨hg1, h⟩ := zg_some h
  refine g_iushr 4 hM rfl rfl hg1 ?_
  refine g_ldcwI 7 1431655765 hM rfl rfl rfl (by decide) ?_
  refine g_iand 8 hM rfl rfl ?_
  refine g_isub 9 hM rfl rfl ?_
  refine g_istore_n 10 hM rfl rfl rfl ?_
  refine g_iload_n 11 hM rfl rfl rfl ?_
  refine g_ldcwI 14 858993459 hM rfl rfl rfl (by decide) ?_
  refine g_iand 15 hM rfl rfl ?_
  refine g_iload_n 16 hM rfl rfl rfl ?_
  refine g_iconst 17 hM rfl rfl ?_
  obtain ⟨hg2, h⟩ := zg_some h
  refine g_iushr 18 hM rfl rfl hg2 ?_
  refine g_ldcwI 21 858993459 hM rfl rfl rfl (by decide) ?_
  refine g_iand 22 hM rfl rfl ?_
  refine g_iadd 23 hM rfl rfl ?_
  refine g_istore_n 24 hM rfl rfl rfl ?_
  refine g_iload_n 25 hM rfl rfl rfl ?_
  refine g_iload_n 26 hM rfl rfl rfl ?_
  refine g_iconst 27 hM rfl rfl ?_
  obtain ⟨hg3, h⟩ := zg_some h
  refine g_iushr 28 hM rfl rfl hg3 ?_
  refine g_iadd 29 hM rfl rfl ?_
  refine g_ldcwI 32 252645135 hM rfl rfl rfl (by decide) ?_
  refine g_iand 33 hM rfl rfl ?_
  refine g_istore_n 34 hM rfl rfl rfl ?_
  refine g_iload_n 35 hM rfl rfl rfl ?_
  refine g_iload_n 36 hM rfl rfl rfl ?_
  refine g_bipush 38 hM rfl rfl rfl ?_
  obtain ⟨hg4, h⟩ := zg_some h
  refine g_iushr 39 hM rfl rfl hg4 ?_
  refine g_iadd 40 hM rfl rfl ?_
  refine g_istore_n 41 hM rfl rfl rfl ?_
  refine g_iload_n 42 hM rfl rfl rfl ?_
  refine g_iload_n 43 hM rfl rfl rfl ?_
  refine g_bipush 45 hM rfl rfl rfl ?_
  obtain ⟨hg5, h⟩ := zg_some h
  refine g_iushr 46 hM rfl rfl hg5 ?_
  refine g_iadd 47 hM rfl rfl ?_
  refine g_istore_n 48 hM rfl rfl rfl ?_
  refine g_iload_n 49 hM rfl rfl rfl ?_
  refine g_bipush 51 hM rfl rfl rfl ?_
  refine g_iand 52 hM rfl rfl ?_
  cases h
  exact g_ret hM rfl rfl
/-- RelationFinder$Code.endBinder(III)V -/
def f_140 (c0 : Nat) (v1 : Int) (v2 : Int) (v3 : Int) (s : zS) : Option (Unit × zS) := zg (zC c0 = true) (zg (0 ≤ v1 ∧ v1 < 200) (zo (zlp (fun (q : Int × zS) => b_140_15 c0 v1 v2 v3 q.1 q.2) zF ((v1 + 1), (sI s (c0 + 5) v1 (gI s c0 0)))) (fun e3 => zg (zR v3) (if (gI e3 (c0 + 6) v1) = v3 then (some ((), e3)) else (zo (f_269 (gI e3 (c0 + 6) v1)) (fun r8 => zg (zR r8) (if 2 < r8 then (some ((), e3)) else (if (gI e3 c0 8) < 40 then (some ((), (sI (sI e3 (c0 + 7) v1 (gI e3 c0 8)) c0 8 ((gI (sI e3 (c0 + 7) v1 (gI e3 c0 8)) c0 8) + 1)))) else (some ((), e3))))))))))
theorem w_140 {k : zK} {d : Nat} {x : am_H} {c0 : Nat} {v1 : Int} {v2 : Int} {v3 : Int} {s : zS} {q : (Unit × zS)} (hd : 1 ≤ d) (h : f_140 c0 v1 v2 v3 s = some q) : zgo k d 140 (0, [(0, .ref c0), (1, .int (Int32.ofInt v1)), (2, .int (Int32.ofInt v2)), (3, .int (Int32.ofInt v3))], []) (hp s ++ x) (.inl (none), hp q.2 ++ x) := by
  unfold f_140 at h
  have hM := xM_140 k.1
  refine g_aload_n 1 hM rfl rfl rfl ?_
  obtain ⟨hg1, h⟩ := zg_some h
  refine g_getR 4 hM rfl rfl rfl (zC_obj hg1) rfl ?_
  refine g_iload_n 5 hM rfl rfl rfl ?_
  refine g_aload_n 6 hM rfl rfl rfl ?_
  refine g_getI 9 0 (gI s c0 0) hM rfl rfl rfl (zC_obj hg1) rfl rfl rfl ?_
  obtain ⟨hg2, h⟩ := zg_some h
  refine g_iastore 10 hM rfl rfl (zC_a5 hg1) rfl hg2 ?_
  refine g_iload_n 11 hM rfl rfl rfl ?_
  refine g_iconst 12 hM rfl rfl ?_
  refine g_iadd 13 hM rfl rfl ?_
  refine g_istore 15 hM rfl rfl rfl ?_
  obtain ⟨e3, h4, h⟩ := zo_some h
  refine g_lv [(0, .ref c0), (1, .int (Int32.ofInt v1)), (2, .int (Int32.ofInt v2)), (3, .int (Int32.ofInt v3)), (4, .int (Int32.ofInt (v1 + 1)))] rfl ⟨rfl, rfl, rfl, rfl, rfl, trivial⟩ ?_
  refine wl_140_15 (by omega) h4 ?_
  show zgo k d 140 (71, [(0, .ref c0), (1, .int (Int32.ofInt v1)), (3, .int (Int32.ofInt v3))], []) (hp e3 ++ x) (.inl (none), hp q.2 ++ x)
  refine g_aload_n 72 hM rfl rfl rfl ?_
  refine g_getR 75 hM rfl rfl rfl (zC_obj hg1) rfl ?_
  refine g_iload_n 76 hM rfl rfl rfl ?_
  refine g_iaload 77 (gI e3 (c0 + 6) v1) hM rfl rfl (zC_a6 hg1) rfl hg2 rfl ?_
  refine g_iload_n 78 hM rfl rfl rfl ?_
  obtain ⟨hg5, h⟩ := zg_some h
  by_cases hc6 : (gI e3 (c0 + 6) v1) = v3
  · rw [if_pos hc6] at h
    refine g_ic_eq_t 123 hM rfl rfl (zR_gI _ _ _) hg5 hc6 ?_
    cases h
    exact g_ret hM rfl rfl
  · rw [if_neg hc6] at h
    refine g_ic_eq_f 81 123 hM rfl rfl rfl (zR_gI _ _ _) hg5 hc6 ?_
    refine g_aload_n 82 hM rfl rfl rfl ?_
    refine g_getR 85 hM rfl rfl rfl (zC_obj hg1) rfl ?_
    refine g_iload_n 86 hM rfl rfl rfl ?_
    refine g_iaload 87 (gI e3 (c0 + 6) v1) hM rfl rfl (zC_a6 hg1) rfl hg2 rfl ?_
    obtain ⟨r8, h7, h⟩ := zo_some h
    refine g_call 90 _ [.int (Int32.ofInt r8)] hM rfl rfl rfl rfl rfl (xM_269 _) rfl rfl rfl rfl (by omega) (w_269 (by omega) h7) rfl ?_
    refine g_iconst 91 hM rfl rfl ?_
    obtain ⟨hg9, h⟩ := zg_some h
    by_cases hc10 : 2 < r8
    · rw [if_pos hc10] at h
      refine g_ic_gt_t 123 hM rfl rfl hg9 (zR_lit rfl) hc10 ?_
      cases h
      exact g_ret hM rfl rfl
    · rw [if_neg hc10] at h
      refine g_ic_gt_f 94 123 hM rfl rfl rfl hg9 (zR_lit rfl) hc10 ?_
      refine g_aload_n 95 hM rfl rfl rfl ?_
      refine g_getI 98 8 (gI e3 c0 8) hM rfl rfl rfl (zC_obj hg1) rfl rfl rfl ?_
      refine g_bipush 100 hM rfl rfl rfl ?_
      by_cases hc11 : (gI e3 c0 8) < 40
      · rw [if_pos hc11] at h
        refine g_ic_ge_f 103 123 hM rfl rfl rfl (zR_gI _ _ _) (zR_lit rfl) hc11 ?_
        refine g_aload_n 104 hM rfl rfl rfl ?_
        refine g_getR 107 hM rfl rfl rfl (zC_obj hg1) rfl ?_
        refine g_iload_n 108 hM rfl rfl rfl ?_
        refine g_aload_n 109 hM rfl rfl rfl ?_
        refine g_getI 112 8 (gI e3 c0 8) hM rfl rfl rfl (zC_obj hg1) rfl rfl rfl ?_
        refine g_iastore 113 hM rfl rfl (zC_a7 hg1) rfl hg2 ?_
        refine g_aload_n 114 hM rfl rfl rfl ?_
        refine g_dup 115 hM rfl rfl rfl ?_
        refine g_getI 118 8 (gI (sI e3 (c0 + 7) v1 (gI e3 c0 8)) c0 8) hM rfl rfl rfl (zC_obj hg1) rfl rfl rfl ?_
        refine g_iconst 119 hM rfl rfl ?_
        refine g_iadd 120 hM rfl rfl ?_
        refine g_putI 123 8 hM rfl rfl rfl (zC_obj hg1) rfl rfl rfl ?_
        cases h
        exact g_ret hM rfl rfl
      · rw [if_neg hc11] at h
        refine g_ic_ge_t 123 hM rfl rfl (zR_gI _ _ _) (zR_lit rfl) hc11 ?_
        cases h
        exact g_ret hM rfl rfl
/-- RelationFinder$Parser.endBinder()V -/
def f_93 (s : zS) : Option (Unit × zS) := zg (zC (gP s 10 2) = true) (zg (0 ≤ ((gI s 10 8) - 1) ∧ ((gI s 10 8) - 1) < 20) (zo (f_94 ((gI s 10 8) - 1) s) (fun r4 => zb (f_140 (gP s 10 2) (gI s 15 ((gI s 10 8) - 1)) ((gI s 10 8) - 1) r4 s) (fun r6 s7 => if (gI s7 11 ((gI s 10 8) - 1)) = 39 then (some ((), (sI (sI s7 10 6 1) 10 8 ((gI s7 10 8) - 1)))) else (some ((), (sI (sI s7 10 6 0) 10 8 ((gI s7 10 8) - 1))))))))
theorem w_93 {k : zK} {d : Nat} {x : am_H} {s : zS} {q : (Unit × zS)} (hd : 2 ≤ d) (h : f_93 s = some q) : zgo k d 93 (0, [(0, .ref 10)], []) (hp s ++ x) (.inl (none), hp q.2 ++ x) := by
  unfold f_93 at h
  have hM := xM_93 k.1
  refine g_aload_n 1 hM rfl rfl rfl ?_
  refine g_getI 4 8 (gI s 10 8) hM rfl rfl rfl rfl rfl rfl rfl ?_
  refine g_iconst 5 hM rfl rfl ?_
  refine g_isub 6 hM rfl rfl ?_
  refine g_istore_n 7 hM rfl rfl rfl ?_
  refine g_aload_n 8 hM rfl rfl rfl ?_
  obtain ⟨hg1, h⟩ := zg_some h
  refine g_getN 11 2 (gP s 10 2) hM rfl rfl rfl rfl rfl rfl rfl (zC_ne hg1) ?_
  refine g_aload_n 12 hM rfl rfl rfl ?_
  refine g_getF 15 hM rfl rfl rfl rfl rfl ?_
  refine g_iload_n 16 hM rfl rfl rfl ?_
  obtain ⟨hg2, h⟩ := zg_some h
  refine g_iaload 17 (gI s 15 ((gI s 10 8) - 1)) hM rfl rfl rfl rfl hg2 rfl ?_
  refine g_iload_n 18 hM rfl rfl rfl ?_
  refine g_aload_n 19 hM rfl rfl rfl ?_
  refine g_iload_n 20 hM rfl rfl rfl ?_
  obtain ⟨r4, h3, h⟩ := zo_some h
  refine g_call 23 _ [.int (Int32.ofInt r4), .int (Int32.ofInt ((gI s 10 8) - 1)), .int (Int32.ofInt (gI s 15 ((gI s 10 8) - 1))), .ref (gP s 10 2)] hM rfl rfl rfl rfl rfl (xM_94 _) rfl (z_rcv2 rfl) rfl rfl (by omega) (w_94 (by omega) h3) rfl ?_
  obtain ⟨r6, s7, h5, h⟩ := zb_some h
  refine g_call 26 _ [] hM rfl rfl rfl rfl rfl (xM_140 _) rfl (z_rcv2 (zC_obj hg1)) rfl rfl (by omega) (w_140 (by omega) h5) rfl ?_
  refine g_aload_n 27 hM rfl rfl rfl ?_
  refine g_aload_n 28 hM rfl rfl rfl ?_
  refine g_getF 31 hM rfl rfl rfl rfl rfl ?_
  refine g_iload_n 32 hM rfl rfl rfl ?_
  refine g_iaload 33 (gI s7 11 ((gI s 10 8) - 1)) hM rfl rfl rfl rfl hg2 rfl ?_
  refine g_bipush 35 hM rfl rfl rfl ?_
  by_cases hc8 : (gI s7 11 ((gI s 10 8) - 1)) = 39
  · rw [if_pos hc8] at h
    refine g_ic_ne_f 38 42 hM rfl rfl rfl (zR_gI _ _ _) (zR_lit rfl) hc8 ?_
    refine g_iconst 39 hM rfl rfl ?_
    refine g_goto 43 hM rfl rfl ?_
    refine g_putI 46 6 hM rfl rfl rfl rfl rfl rfl rfl ?_
    refine g_aload_n 47 hM rfl rfl rfl ?_
    refine g_dup 48 hM rfl rfl rfl ?_
    refine g_getI 51 8 (gI s7 10 8) hM rfl rfl rfl rfl rfl rfl rfl ?_
    refine g_iconst 52 hM rfl rfl ?_
    refine g_isub 53 hM rfl rfl ?_
    refine g_putI 56 8 hM rfl rfl rfl rfl rfl rfl rfl ?_
    cases h
    exact g_ret hM rfl rfl
  · rw [if_neg hc8] at h
    refine g_ic_ne_t 42 hM rfl rfl (zR_gI _ _ _) (zR_lit rfl) hc8 ?_
    refine g_iconst 43 hM rfl rfl ?_
    refine g_putI 46 6 hM rfl rfl rfl rfl rfl rfl rfl ?_
    refine g_aload_n 47 hM rfl rfl rfl ?_
    refine g_dup 48 hM rfl rfl rfl ?_
    refine g_getI 51 8 (gI s7 10 8) hM rfl rfl rfl rfl rfl rfl rfl ?_
    refine g_iconst 52 hM rfl rfl ?_
    refine g_isub 53 hM rfl rfl ?_
    refine g_putI 56 8 hM rfl rfl rfl rfl rfl rfl rfl ?_
    cases h
    exact g_ret hM rfl rfl
def t_96_1 (a : Int) : Nat := zswt 14 32 [92, 202, 202, 202, 202, 202, 114, 129, 145, 156, 103, 103, 103, 167, 191, 191, 191, 202, 92] 202 a
/-- RelationFinder$Parser.fitting(III)I -/
def f_96 (v0 : Int) (v1 : Int) (v2 : Int) : Option Int := zg (zR v0) (if t_96_1 v0 = 92 then (zg (zR v1) (zg (zR v2) (if v1 = v2 then (some 0) else (some (-1))))) else (if t_96_1 v0 = 103 then (zg (zR v1) (zg (zR v2) (if v1 = v2 then (some v1) else (some (-1))))) else (if t_96_1 v0 = 114 then (zg (zR (v1 + v2)) (if 3 < (v1 + v2) then (some (-1)) else (some (v1 + v2)))) else (if t_96_1 v0 = 129 then (zg (zR v1) (if v1 = 2 then (zg (zR v2) (if v2 = 2 then (some 2) else (some (-1)))) else (some (-1)))) else (if t_96_1 v0 = 145 then (zg (zR v1) (if v1 = 1 then (some v2) else (some (-1)))) else (if t_96_1 v0 = 156 then (zg (zR v2) (if v2 = 1 then (some v1) else (some (-1)))) else (if t_96_1 v0 = 167 then (zg (zR (v1 + v2)) (if (v1 + v2) < 3 then (some (-1)) else (if 5 < (v1 + v2) then (some (-1)) else (some ((v1 + v2) - 2))))) else (if t_96_1 v0 = 191 then (zg (zR v2) (if v2 = 2 then (some 2) else (some (-1)))) else (if t_96_1 v0 = 202 then (some 0) else (none))))))))))
theorem w_96 {k : zK} {d : Nat} {x : am_H} {v0 : Int} {v1 : Int} {v2 : Int} {s : zS} {q : Int} (hd : 0 ≤ d) (h : f_96 v0 v1 v2 = some q) : zgo k d 96 (0, [(0, .int (Int32.ofInt v0)), (1, .int (Int32.ofInt v1)), (2, .int (Int32.ofInt v2))], []) (hp s ++ x) (.inl (some (.int (Int32.ofInt q))), hp s ++ x) := by
  unfold f_96 at h
  have hM := xM_96 k.1
  refine g_iload_n 1 hM rfl rfl rfl ?_
  obtain ⟨hg1, h⟩ := zg_some h
  by_cases hc2 : t_96_1 v0 = 92
  · rw [if_pos hc2] at h
    refine g_tsw 92 hM rfl hg1 hc2 rfl rfl rfl ?_
    refine g_iload_n 93 hM rfl rfl rfl ?_
    refine g_iload_n 94 hM rfl rfl rfl ?_
    obtain ⟨hg3, h⟩ := zg_some h
    obtain ⟨hg4, h⟩ := zg_some h
    by_cases hc5 : v1 = v2
    · rw [if_pos hc5] at h
      refine g_ic_ne_f 97 101 hM rfl rfl rfl hg3 hg4 hc5 ?_
      refine g_iconst 98 hM rfl rfl ?_
      refine g_goto 102 hM rfl rfl ?_
      cases h
      exact g_ret hM rfl rfl
    · rw [if_neg hc5] at h
      refine g_ic_ne_t 101 hM rfl rfl hg3 hg4 hc5 ?_
      refine g_iconst 102 hM rfl rfl ?_
      cases h
      exact g_ret hM rfl rfl
  · rw [if_neg hc2] at h
    by_cases hc6 : t_96_1 v0 = 103
    · rw [if_pos hc6] at h
      refine g_tsw 103 hM rfl hg1 hc6 rfl rfl rfl ?_
      refine g_iload_n 104 hM rfl rfl rfl ?_
      refine g_iload_n 105 hM rfl rfl rfl ?_
      obtain ⟨hg7, h⟩ := zg_some h
      obtain ⟨hg8, h⟩ := zg_some h
      by_cases hc9 : v1 = v2
      · rw [if_pos hc9] at h
        refine g_ic_ne_f 108 112 hM rfl rfl rfl hg7 hg8 hc9 ?_
        refine g_iload_n 109 hM rfl rfl rfl ?_
        refine g_goto 113 hM rfl rfl ?_
        cases h
        exact g_ret hM rfl rfl
      · rw [if_neg hc9] at h
        refine g_ic_ne_t 112 hM rfl rfl hg7 hg8 hc9 ?_
        refine g_iconst 113 hM rfl rfl ?_
        cases h
        exact g_ret hM rfl rfl
    · rw [if_neg hc6] at h
      by_cases hc10 : t_96_1 v0 = 114
      · rw [if_pos hc10] at h
        refine g_tsw 114 hM rfl hg1 hc10 rfl rfl rfl ?_
        refine g_iload_n 115 hM rfl rfl rfl ?_
        refine g_iload_n 116 hM rfl rfl rfl ?_
        refine g_iadd 117 hM rfl rfl ?_
        refine g_iconst 118 hM rfl rfl ?_
        obtain ⟨hg11, h⟩ := zg_some h
        by_cases hc12 : 3 < (v1 + v2)
        · rw [if_pos hc12] at h
          refine g_ic_gt_t 127 hM rfl rfl hg11 (zR_lit rfl) hc12 ?_
          refine g_iconst 128 hM rfl rfl ?_
          cases h
          exact g_ret hM rfl rfl
        · rw [if_neg hc12] at h
          refine g_ic_gt_f 121 127 hM rfl rfl rfl hg11 (zR_lit rfl) hc12 ?_
          refine g_iload_n 122 hM rfl rfl rfl ?_
          refine g_iload_n 123 hM rfl rfl rfl ?_
          refine g_iadd 124 hM rfl rfl ?_
          refine g_goto 128 hM rfl rfl ?_
          cases h
          exact g_ret hM rfl rfl
      · rw [if_neg hc10] at h
        by_cases hc13 : t_96_1 v0 = 129
        · rw [if_pos hc13] at h
          refine g_tsw 129 hM rfl hg1 hc13 rfl rfl rfl ?_
          refine g_iload_n 130 hM rfl rfl rfl ?_
          refine g_iconst 131 hM rfl rfl ?_
          obtain ⟨hg14, h⟩ := zg_some h
          by_cases hc15 : v1 = 2
          · rw [if_pos hc15] at h
            refine g_ic_ne_f 134 143 hM rfl rfl rfl hg14 (zR_lit rfl) hc15 ?_
            refine g_iload_n 135 hM rfl rfl rfl ?_
            refine g_iconst 136 hM rfl rfl ?_
            obtain ⟨hg16, h⟩ := zg_some h
            by_cases hc17 : v2 = 2
            · rw [if_pos hc17] at h
              refine g_ic_ne_f 139 143 hM rfl rfl rfl hg16 (zR_lit rfl) hc17 ?_
              refine g_iconst 140 hM rfl rfl ?_
              refine g_goto 144 hM rfl rfl ?_
              cases h
              exact g_ret hM rfl rfl
            · rw [if_neg hc17] at h
              refine g_ic_ne_t 143 hM rfl rfl hg16 (zR_lit rfl) hc17 ?_
              refine g_iconst 144 hM rfl rfl ?_
              cases h
              exact g_ret hM rfl rfl
          · rw [if_neg hc15] at h
            refine g_ic_ne_t 143 hM rfl rfl hg14 (zR_lit rfl) hc15 ?_
            refine g_iconst 144 hM rfl rfl ?_
            cases h
            exact g_ret hM rfl rfl
        · rw [if_neg hc13] at h
          by_cases hc18 : t_96_1 v0 = 145
          · rw [if_pos hc18] at h
            refine g_tsw 145 hM rfl hg1 hc18 rfl rfl rfl ?_
            refine g_iload_n 146 hM rfl rfl rfl ?_
            refine g_iconst 147 hM rfl rfl ?_
            obtain ⟨hg19, h⟩ := zg_some h
            by_cases hc20 : v1 = 1
            · rw [if_pos hc20] at h
              refine g_ic_ne_f 150 154 hM rfl rfl rfl hg19 (zR_lit rfl) hc20 ?_
              refine g_iload_n 151 hM rfl rfl rfl ?_
              refine g_goto 155 hM rfl rfl ?_
              cases h
              exact g_ret hM rfl rfl
            · rw [if_neg hc20] at h
              refine g_ic_ne_t 154 hM rfl rfl hg19 (zR_lit rfl) hc20 ?_
              refine g_iconst 155 hM rfl rfl ?_
              cases h
              exact g_ret hM rfl rfl
          · rw [if_neg hc18] at h
            by_cases hc21 : t_96_1 v0 = 156
            · rw [if_pos hc21] at h
              refine g_tsw 156 hM rfl hg1 hc21 rfl rfl rfl ?_
              refine g_iload_n 157 hM rfl rfl rfl ?_
              refine g_iconst 158 hM rfl rfl ?_
              obtain ⟨hg22, h⟩ := zg_some h
              by_cases hc23 : v2 = 1
              · rw [if_pos hc23] at h
                refine g_ic_ne_f 161 165 hM rfl rfl rfl hg22 (zR_lit rfl) hc23 ?_
                refine g_iload_n 162 hM rfl rfl rfl ?_
                refine g_goto 166 hM rfl rfl ?_
                cases h
                exact g_ret hM rfl rfl
              · rw [if_neg hc23] at h
                refine g_ic_ne_t 165 hM rfl rfl hg22 (zR_lit rfl) hc23 ?_
                refine g_iconst 166 hM rfl rfl ?_
                cases h
                exact g_ret hM rfl rfl
            · rw [if_neg hc21] at h
              by_cases hc24 : t_96_1 v0 = 167
              · rw [if_pos hc24] at h
                refine g_tsw 167 hM rfl hg1 hc24 rfl rfl rfl ?_
                refine g_iload_n 168 hM rfl rfl rfl ?_
                refine g_iload_n 169 hM rfl rfl rfl ?_
                refine g_iadd 170 hM rfl rfl ?_
                refine g_iconst 171 hM rfl rfl ?_
                obtain ⟨hg25, h⟩ := zg_some h
                by_cases hc26 : (v1 + v2) < 3
                · rw [if_pos hc26] at h
                  refine g_ic_lt_t 189 hM rfl rfl hg25 (zR_lit rfl) hc26 ?_
                  refine g_iconst 190 hM rfl rfl ?_
                  cases h
                  exact g_ret hM rfl rfl
                · rw [if_neg hc26] at h
                  refine g_ic_lt_f 174 189 hM rfl rfl rfl hg25 (zR_lit rfl) hc26 ?_
                  refine g_iload_n 175 hM rfl rfl rfl ?_
                  refine g_iload_n 176 hM rfl rfl rfl ?_
                  refine g_iadd 177 hM rfl rfl ?_
                  refine g_iconst 178 hM rfl rfl ?_
                  by_cases hc27 : 5 < (v1 + v2)
                  · rw [if_pos hc27] at h
                    refine g_ic_gt_t 189 hM rfl rfl hg25 (zR_lit rfl) hc27 ?_
                    refine g_iconst 190 hM rfl rfl ?_
                    cases h
                    exact g_ret hM rfl rfl
                  · rw [if_neg hc27] at h
                    refine g_ic_gt_f 181 189 hM rfl rfl rfl hg25 (zR_lit rfl) hc27 ?_
                    refine g_iload_n 182 hM rfl rfl rfl ?_
                    refine g_iload_n 183 hM rfl rfl rfl ?_
                    refine g_iadd 184 hM rfl rfl ?_
                    refine g_iconst 185 hM rfl rfl ?_
                    refine g_isub 186 hM rfl rfl ?_
                    refine g_goto 190 hM rfl rfl ?_
                    cases h
                    exact g_ret hM rfl rfl
              · rw [if_neg hc24] at h
                by_cases hc28 : t_96_1 v0 = 191
                · rw [if_pos hc28] at h
                  refine g_tsw 191 hM rfl hg1 hc28 rfl rfl rfl ?_
                  refine g_iload_n 192 hM rfl rfl rfl ?_
                  refine g_iconst 193 hM rfl rfl ?_
                  obtain ⟨hg29, h⟩ := zg_some h
                  by_cases hc30 : v2 = 2
                  · rw [if_pos hc30] at h
                    refine g_ic_ne_f 196 200 hM rfl rfl rfl hg29 (zR_lit rfl) hc30 ?_
                    refine g_iconst 197 hM rfl rfl ?_
                    refine g_goto 201 hM rfl rfl ?_
                    cases h
                    exact g_ret hM rfl rfl
                  · rw [if_neg hc30] at h
                    refine g_ic_ne_t 200 hM rfl rfl hg29 (zR_lit rfl) hc30 ?_
                    refine g_iconst 201 hM rfl rfl ?_
                    cases h
                    exact g_ret hM rfl rfl
                · rw [if_neg hc28] at h
                  by_cases hc31 : t_96_1 v0 = 202
                  · rw [if_pos hc31] at h
                    refine g_tsw 202 hM rfl hg1 hc31 rfl rfl rfl ?_
                    refine g_iconst 203 hM rfl rfl ?_
                    cases h
                    exact g_ret hM rfl rfl
                  · rw [if_neg hc31] at h
                    cases h
/-- RelationFinder$Parser.applyTop(I)V -/
def f_95 (v1 : Int) (s : zS) : Option (Unit × zS) := zg (0 ≤ v1 ∧ v1 < 20) (zo (f_96 (gI s 11 v1) (gI s 14 v1) (gI s 10 6)) (fun r3 => zg (zR r3) (if r3 = (-1) then (zb (f_74 5 (gI s 13 v1) s) (fun r7 s8 => some ((), s8))) else (zg (zC (gP s 10 2) = true) (zb (f_139 (gP s 10 2) (gI s 11 v1) 0 0 s) (fun r11 s12 => some ((), (sI s12 10 6 r3))))))))
theorem w_95 {k : zK} {d : Nat} {x : am_H} {v1 : Int} {s : zS} {q : (Unit × zS)} (hd : 1 ≤ d) (h : f_95 v1 s = some q) : zgo k d 95 (0, [(0, .ref 10), (1, .int (Int32.ofInt v1))], []) (hp s ++ x) (.inl (none), hp q.2 ++ x) := by
  unfold f_95 at h
  have hM := xM_95 k.1
  refine g_aload_n 1 hM rfl rfl rfl ?_
  refine g_getF 4 hM rfl rfl rfl rfl rfl ?_
  refine g_iload_n 5 hM rfl rfl rfl ?_
  obtain ⟨hg1, h⟩ := zg_some h
  refine g_iaload 6 (gI s 11 v1) hM rfl rfl rfl rfl hg1 rfl ?_
  refine g_aload_n 7 hM rfl rfl rfl ?_
  refine g_getF 10 hM rfl rfl rfl rfl rfl ?_
  refine g_iload_n 11 hM rfl rfl rfl ?_
  refine g_iaload 12 (gI s 14 v1) hM rfl rfl rfl rfl hg1 rfl ?_
  refine g_aload_n 13 hM rfl rfl rfl ?_
  refine g_getI 16 6 (gI s 10 6) hM rfl rfl rfl rfl rfl rfl rfl ?_
  obtain ⟨r3, h2, h⟩ := zo_some h
  refine g_call 19 _ [.int (Int32.ofInt r3)] hM rfl rfl rfl rfl rfl (xM_96 _) rfl rfl rfl rfl (by omega) (w_96 (by omega) h2) rfl ?_
  refine g_istore_n 20 hM rfl rfl rfl ?_
  refine g_iload_n 21 hM rfl rfl rfl ?_
  refine g_iconst 22 hM rfl rfl ?_
  obtain ⟨hg4, h⟩ := zg_some h
  by_cases hc5 : r3 = (-1)
  · rw [if_pos hc5] at h
    refine g_ic_ne_f 25 39 hM rfl rfl rfl hg4 (zR_lit rfl) hc5 ?_
    refine g_aload_n 26 hM rfl rfl rfl ?_
    refine g_iconst 27 hM rfl rfl ?_
    refine g_aload_n 28 hM rfl rfl rfl ?_
    refine g_getF 31 hM rfl rfl rfl rfl rfl ?_
    refine g_iload_n 32 hM rfl rfl rfl ?_
    refine g_iaload 33 (gI s 13 v1) hM rfl rfl rfl rfl hg1 rfl ?_
    obtain ⟨r7, s8, h6, h⟩ := zb_some h
    refine g_call 36 _ [] hM rfl rfl rfl rfl rfl (xM_74 _) rfl (z_rcv2 rfl) rfl rfl (by omega) (w_74 (by omega) h6) rfl ?_
    refine g_goto 60 hM rfl rfl ?_
    cases h
    exact g_ret hM rfl rfl
  · rw [if_neg hc5] at h
    refine g_ic_ne_t 39 hM rfl rfl hg4 (zR_lit rfl) hc5 ?_
    refine g_aload_n 40 hM rfl rfl rfl ?_
    obtain ⟨hg9, h⟩ := zg_some h
    refine g_getN 43 2 (gP s 10 2) hM rfl rfl rfl rfl rfl rfl rfl (zC_ne hg9) ?_
    refine g_aload_n 44 hM rfl rfl rfl ?_
    refine g_getF 47 hM rfl rfl rfl rfl rfl ?_
    refine g_iload_n 48 hM rfl rfl rfl ?_
    refine g_iaload 49 (gI s 11 v1) hM rfl rfl rfl rfl hg1 rfl ?_
    refine g_iconst 50 hM rfl rfl ?_
    refine g_iconst 51 hM rfl rfl ?_
    obtain ⟨r11, s12, h10, h⟩ := zb_some h
    refine g_call 54 _ [.int (Int32.ofInt r11)] hM rfl rfl rfl rfl rfl (xM_139 _) rfl (z_rcv2 (zC_obj hg9)) rfl rfl (by omega) (w_139 (by omega) h10) rfl ?_
    refine g_pop 55 hM rfl rfl rfl ?_
    refine g_aload_n 56 hM rfl rfl rfl ?_
    refine g_iload_n 57 hM rfl rfl rfl ?_
    refine g_putI 60 6 hM rfl rfl rfl rfl rfl rfl rfl ?_
    cases h
    exact g_ret hM rfl rfl
/-- RelationFinder$Parser.closeTop()V -/
def f_92 (s : zS) : Option (Unit × zS) := zg (zR ((gI s 10 8) - 1)) (if ((gI s 10 8) - 1) < 0 then (some ((), s)) else (zg (0 ≤ ((gI s 10 8) - 1) ∧ ((gI s 10 8) - 1) < 20) (if (gI s 12 ((gI s 10 8) - 1)) = 2 then (zb (f_93 s) (fun r6 s7 => some ((), s7))) else (zo (f_21 (gI s 11 ((gI s 10 8) - 1))) (fun r9 => zg (zR r9) (if r9 = 0 then (zb (f_95 ((gI s 10 8) - 1) s) (fun r13 s14 => some ((), (sI s14 10 8 ((gI s14 10 8) - 1))))) else (zg (zC (gP s 10 2) = true) (zg (0 ≤ (gI s 15 ((gI s 10 8) - 1)) ∧ (gI s 15 ((gI s 10 8) - 1)) < 200) (some ((), (sI (sI s ((gP s 10 2) + 5) (gI s 15 ((gI s 10 8) - 1)) (gI s (gP s 10 2) 0)) 10 8 ((gI (sI s ((gP s 10 2) + 5) (gI s 15 ((gI s 10 8) - 1)) (gI s (gP s 10 2) 0)) 10 8) - 1))))))))))))
theorem w_92 {k : zK} {d : Nat} {x : am_H} {s : zS} {q : (Unit × zS)} (hd : 3 ≤ d) (h : f_92 s = some q) : zgo k d 92 (0, [(0, .ref 10)], []) (hp s ++ x) (.inl (none), hp q.2 ++ x) := by
  unfold f_92 at h
  have hM := xM_92 k.1
  refine g_aload_n 1 hM rfl rfl rfl ?_
  refine g_getI 4 8 (gI s 10 8) hM rfl rfl rfl rfl rfl rfl rfl ?_
  refine g_iconst 5 hM rfl rfl ?_
  refine g_isub 6 hM rfl rfl ?_
  refine g_istore_n 7 hM rfl rfl rfl ?_
  refine g_iload_n 8 hM rfl rfl rfl ?_
  obtain ⟨hg1, h⟩ := zg_some h
  by_cases hc2 : ((gI s 10 8) - 1) < 0
  · rw [if_pos hc2] at h
    refine g_if_ge_f 11 12 hM rfl rfl rfl hg1 hc2 ?_
    cases h
    exact g_ret hM rfl rfl
  · rw [if_neg hc2] at h
    refine g_if_ge_t 12 hM rfl rfl hg1 hc2 ?_
    refine g_aload_n 13 hM rfl rfl rfl ?_
    refine g_getF 16 hM rfl rfl rfl rfl rfl ?_
    refine g_iload_n 17 hM rfl rfl rfl ?_
    obtain ⟨hg3, h⟩ := zg_some h
    refine g_iaload 18 (gI s 12 ((gI s 10 8) - 1)) hM rfl rfl rfl rfl hg3 rfl ?_
    refine g_iconst 19 hM rfl rfl ?_
    by_cases hc4 : (gI s 12 ((gI s 10 8) - 1)) = 2
    · rw [if_pos hc4] at h
      refine g_ic_ne_f 22 27 hM rfl rfl rfl (zR_gI _ _ _) (zR_lit rfl) hc4 ?_
      refine g_aload_n 23 hM rfl rfl rfl ?_
      obtain ⟨r6, s7, h5, h⟩ := zb_some h
      refine g_call 26 _ [] hM rfl rfl rfl rfl rfl (xM_93 _) rfl (z_rcv2 rfl) rfl rfl (by omega) (w_93 (by omega) h5) rfl ?_
      cases h
      exact g_ret hM rfl rfl
    · rw [if_neg hc4] at h
      refine g_ic_ne_t 27 hM rfl rfl (zR_gI _ _ _) (zR_lit rfl) hc4 ?_
      refine g_aload_n 28 hM rfl rfl rfl ?_
      refine g_getF 31 hM rfl rfl rfl rfl rfl ?_
      refine g_iload_n 32 hM rfl rfl rfl ?_
      refine g_iaload 33 (gI s 11 ((gI s 10 8) - 1)) hM rfl rfl rfl rfl hg3 rfl ?_
      obtain ⟨r9, h8, h⟩ := zo_some h
      refine g_call 36 _ [.int (Int32.ofInt r9)] hM rfl rfl rfl rfl rfl (xM_21 _) rfl rfl rfl rfl (by omega) (w_21 (by omega) h8) rfl ?_
      obtain ⟨hg10, h⟩ := zg_some h
      by_cases hc11 : r9 = 0
      · rw [if_pos hc11] at h
        refine g_if_eq_t 63 hM rfl rfl hg10 hc11 ?_
        refine g_aload_n 64 hM rfl rfl rfl ?_
        refine g_iload_n 65 hM rfl rfl rfl ?_
        obtain ⟨r13, s14, h12, h⟩ := zb_some h
        refine g_call 68 _ [] hM rfl rfl rfl rfl rfl (xM_95 _) rfl (z_rcv2 rfl) rfl rfl (by omega) (w_95 (by omega) h12) rfl ?_
        refine g_aload_n 69 hM rfl rfl rfl ?_
        refine g_dup 70 hM rfl rfl rfl ?_
        refine g_getI 73 8 (gI s14 10 8) hM rfl rfl rfl rfl rfl rfl rfl ?_
        refine g_iconst 74 hM rfl rfl ?_
        refine g_isub 75 hM rfl rfl ?_
        refine g_putI 78 8 hM rfl rfl rfl rfl rfl rfl rfl ?_
        cases h
        exact g_ret hM rfl rfl
      · rw [if_neg hc11] at h
        refine g_if_eq_f 39 63 hM rfl rfl rfl hg10 hc11 ?_
        refine g_aload_n 40 hM rfl rfl rfl ?_
        obtain ⟨hg15, h⟩ := zg_some h
        refine g_getN 43 2 (gP s 10 2) hM rfl rfl rfl rfl rfl rfl rfl (zC_ne hg15) ?_
        refine g_getR 46 hM rfl rfl rfl (zC_obj hg15) rfl ?_
        refine g_aload_n 47 hM rfl rfl rfl ?_
        refine g_getF 50 hM rfl rfl rfl rfl rfl ?_
        refine g_iload_n 51 hM rfl rfl rfl ?_
        refine g_iaload 52 (gI s 15 ((gI s 10 8) - 1)) hM rfl rfl rfl rfl hg3 rfl ?_
        refine g_aload_n 53 hM rfl rfl rfl ?_
        refine g_getN 56 2 (gP s 10 2) hM rfl rfl rfl rfl rfl rfl rfl (zC_ne hg15) ?_
        refine g_getI 59 0 (gI s (gP s 10 2) 0) hM rfl rfl rfl (zC_obj hg15) rfl rfl rfl ?_
        obtain ⟨hg16, h⟩ := zg_some h
        refine g_iastore 60 hM rfl rfl (zC_a5 hg15) rfl hg16 ?_
        refine g_goto 68 hM rfl rfl ?_
        refine g_aload_n 69 hM rfl rfl rfl ?_
        refine g_dup 70 hM rfl rfl rfl ?_
        refine g_getI 73 8 (gI (sI s ((gP s 10 2) + 5) (gI s 15 ((gI s 10 8) - 1)) (gI s (gP s 10 2) 0)) 10 8) hM rfl rfl rfl rfl rfl rfl rfl ?_
        refine g_iconst 74 hM rfl rfl ?_
        refine g_isub 75 hM rfl rfl ?_
        refine g_putI 78 8 hM rfl rfl rfl rfl rfl rfl rfl ?_
        cases h
        exact g_ret hM rfl rfl
def b_87_2 (v1 : Int) (v2 : Int) (s : zS) : Option ((Int × zS) ⊕ (zS)) := zg (zR v2) (if v2 < 20 then (if (gI s 10 15) = 0 then (zo (f_88 v1 s) (fun r5 => zg (zR r5) (if r5 = 0 then (some (.inr s)) else (zb (f_92 s) (fun r9 s10 => some (.inl ((v2 + 1), s10))))))) else (some (.inr s))) else (some (.inr s)))
theorem wb_87_2 {k : zK} {d : Nat} {x : am_H} {r : am_A × am_H} {v1 : Int} {v2 : Int} {s : zS} {q : (Int × zS) ⊕ (zS)} (hd : 4 ≤ d) (h : b_87_2 v1 v2 s = some q) (hK : Sum.elim (G_87_2 k d x r v1) (K_87_2 k d x r v1) q) : G_87_2 k d x r v1 (v2, s) := by
  unfold b_87_2 at h
  have hM := xM_87 k.1
  show zgo k d 87 (2, [(0, .ref 10), (1, .int (Int32.ofInt v1)), (2, .int (Int32.ofInt v2))], []) (hp s ++ x) r
  refine g_iload_n 3 hM rfl rfl rfl ?_
  refine g_bipush 5 hM rfl rfl rfl ?_
  obtain ⟨hg1, h⟩ := zg_some h
  by_cases hc2 : v2 < 20
  · rw [if_pos hc2] at h
    refine g_ic_ge_f 8 33 hM rfl rfl rfl hg1 (zR_lit rfl) hc2 ?_
    refine g_aload_n 9 hM rfl rfl rfl ?_
    refine g_getI 12 15 (gI s 10 15) hM rfl rfl rfl rfl rfl rfl rfl ?_
    by_cases hc3 : (gI s 10 15) = 0
    · rw [if_pos hc3] at h
      refine g_if_ne_f 15 33 hM rfl rfl rfl (zR_gI _ _ _) hc3 ?_
      refine g_aload_n 16 hM rfl rfl rfl ?_
      refine g_iload_n 17 hM rfl rfl rfl ?_
      obtain ⟨r5, h4, h⟩ := zo_some h
      refine g_call 20 _ [.int (Int32.ofInt r5)] hM rfl rfl rfl rfl rfl (xM_88 _) rfl (z_rcv2 rfl) rfl rfl (by omega) (w_88 (by omega) h4) rfl ?_
      obtain ⟨hg6, h⟩ := zg_some h
      by_cases hc7 : r5 = 0
      · rw [if_pos hc7] at h
        refine g_if_eq_t 33 hM rfl rfl hg6 hc7 ?_
        cases h
        exact g_lv [(0, .ref 10), (1, .int (Int32.ofInt v1))] rfl ⟨rfl, rfl, trivial⟩ hK
      · rw [if_neg hc7] at h
        refine g_if_eq_f 23 33 hM rfl rfl rfl hg6 hc7 ?_
        refine g_aload_n 24 hM rfl rfl rfl ?_
        obtain ⟨r9, s10, h8, h⟩ := zb_some h
        refine g_call 27 _ [] hM rfl rfl rfl rfl rfl (xM_92 _) rfl (z_rcv2 rfl) rfl rfl (by omega) (w_92 (by omega) h8) rfl ?_
        refine g_iinc 30 hM rfl rfl rfl rfl ?_
        refine g_goto 2 hM rfl rfl ?_
        cases h
        exact g_lv [(0, .ref 10), (1, .int (Int32.ofInt v1)), (2, .int (Int32.ofInt (v2 + 1)))] rfl ⟨rfl, rfl, rfl, trivial⟩ hK
    · rw [if_neg hc3] at h
      refine g_if_ne_t 33 hM rfl rfl (zR_gI _ _ _) hc3 ?_
      cases h
      exact g_lv [(0, .ref 10), (1, .int (Int32.ofInt v1))] rfl ⟨rfl, rfl, trivial⟩ hK
  · rw [if_neg hc2] at h
    refine g_ic_ge_t 33 hM rfl rfl hg1 (zR_lit rfl) hc2 ?_
    cases h
    exact g_lv [(0, .ref 10), (1, .int (Int32.ofInt v1))] rfl ⟨rfl, rfl, trivial⟩ hK
theorem wl_87_2 {k : zK} {d : Nat} {x : am_H} {r : am_A × am_H} {v1 : Int} {n : Nat} {e : (Int × zS)} {t : (zS)} (hd : 4 ≤ d) (h : zlp (fun (q : Int × zS) => b_87_2 v1 q.1 q.2) n e = some t) (hK : K_87_2 k d x r v1 t) : G_87_2 k d x r v1 e := zlp_go (G := fun e => G_87_2 k d x r v1 e) (K := K_87_2 k d x r v1) (fun e e1 h1 hg => wb_87_2 (q := .inl e1) hd h1 hg) (fun e t1 h1 hk => wb_87_2 (q := .inr t1) hd h1 hk) n e t h hK
/-- RelationFinder$Parser.mayJoin(I)Z -/
def f_97 (v1 : Int) (s : zS) : Option Int := zo (f_90 v1 s) (fun r2 => zg (zR r2) (if r2 = 0 then (some 0) else (if 4 < r2 then (if 6 < r2 then (some 1) else (zo (f_81 s) (fun r8 => zg (zR r8) (if r8 = 0 then (some 0) else (some 1))))) else (if (gI s 10 6) = 0 then (some 1) else (some 0)))))
theorem w_97 {k : zK} {d : Nat} {x : am_H} {v1 : Int} {s : zS} {q : Int} (hd : 2 ≤ d) (h : f_97 v1 s = some q) : zgo k d 97 (0, [(0, .ref 10), (1, .int (Int32.ofInt v1))], []) (hp s ++ x) (.inl (some (.int (Int32.ofInt q))), hp s ++ x) := by
  unfold f_97 at h
  have hM := xM_97 k.1
  refine g_aload_n 1 hM rfl rfl rfl ?_
  refine g_iload_n 2 hM rfl rfl rfl ?_
  obtain ⟨r2, h1, h⟩ := zo_some h
  refine g_call 5 _ [.int (Int32.ofInt r2)] hM rfl rfl rfl rfl rfl (xM_90 _) rfl (z_rcv2 rfl) rfl rfl (by omega) (w_90 (by omega) h1) rfl ?_
  refine g_istore_n 6 hM rfl rfl rfl ?_
  refine g_iload_n 7 hM rfl rfl rfl ?_
  obtain ⟨hg3, h⟩ := zg_some h
  by_cases hc4 : r2 = 0
  · rw [if_pos hc4] at h
    refine g_if_ne_f 10 12 hM rfl rfl rfl hg3 hc4 ?_
    refine g_iconst 11 hM rfl rfl ?_
    cases h
    exact g_ret hM rfl rfl
  · rw [if_neg hc4] at h
    refine g_if_ne_t 12 hM rfl rfl hg3 hc4 ?_
    refine g_iload_n 13 hM rfl rfl rfl ?_
    refine g_iconst 14 hM rfl rfl ?_
    by_cases hc5 : 4 < r2
    · rw [if_pos hc5] at h
      refine g_ic_gt_t 30 hM rfl rfl hg3 (zR_lit rfl) hc5 ?_
      refine g_iload_n 31 hM rfl rfl rfl ?_
      refine g_bipush 33 hM rfl rfl rfl ?_
      by_cases hc6 : 6 < r2
      · rw [if_pos hc6] at h
        refine g_ic_gt_t 43 hM rfl rfl hg3 (zR_lit rfl) hc6 ?_
        refine g_iconst 44 hM rfl rfl ?_
        refine g_goto 48 hM rfl rfl ?_
        cases h
        exact g_ret hM rfl rfl
      · rw [if_neg hc6] at h
        refine g_ic_gt_f 36 43 hM rfl rfl rfl hg3 (zR_lit rfl) hc6 ?_
        refine g_aload_n 37 hM rfl rfl rfl ?_
        obtain ⟨r8, h7, h⟩ := zo_some h
        refine g_call 40 _ [.int (Int32.ofInt r8)] hM rfl rfl rfl rfl rfl (xM_81 _) rfl (z_rcv2 rfl) rfl rfl (by omega) (w_81 (by omega) h7) rfl ?_
        obtain ⟨hg9, h⟩ := zg_some h
        by_cases hc10 : r8 = 0
        · rw [if_pos hc10] at h
          refine g_if_eq_t 47 hM rfl rfl hg9 hc10 ?_
          refine g_iconst 48 hM rfl rfl ?_
          cases h
          exact g_ret hM rfl rfl
        · rw [if_neg hc10] at h
          refine g_if_eq_f 43 47 hM rfl rfl rfl hg9 hc10 ?_
          refine g_iconst 44 hM rfl rfl ?_
          refine g_goto 48 hM rfl rfl ?_
          cases h
          exact g_ret hM rfl rfl
    · rw [if_neg hc5] at h
      refine g_ic_gt_f 17 30 hM rfl rfl rfl hg3 (zR_lit rfl) hc5 ?_
      refine g_aload_n 18 hM rfl rfl rfl ?_
      refine g_getI 21 6 (gI s 10 6) hM rfl rfl rfl rfl rfl rfl rfl ?_
      by_cases hc11 : (gI s 10 6) = 0
      · rw [if_pos hc11] at h
        refine g_if_ne_f 24 28 hM rfl rfl rfl (zR_gI _ _ _) hc11 ?_
        refine g_iconst 25 hM rfl rfl ?_
        refine g_goto 29 hM rfl rfl ?_
        cases h
        exact g_ret hM rfl rfl
      · rw [if_neg hc11] at h
        refine g_if_ne_t 28 hM rfl rfl (zR_gI _ _ _) hc11 ?_
        refine g_iconst 29 hM rfl rfl ?_
        cases h
        exact g_ret hM rfl rfl
/-- RelationFinder$Parser.takeAtEnd(I)V -/
def f_98 (v1 : Int) (s : zS) : Option (Unit × zS) := zo (f_89 s) (fun r2 => zg (zR r2) (if r2 = 0 then (zg (zR v1) (if v1 = 0 then (some ((), (sI s 10 5 1))) else (zb (f_74 7 (gI s 8 5) s) (fun r8 s9 => some ((), s9))))) else (zb (f_83 s) (fun r11 s12 => some ((), s12)))))
theorem w_98 {k : zK} {d : Nat} {x : am_H} {v1 : Int} {s : zS} {q : (Unit × zS)} (hd : 2 ≤ d) (h : f_98 v1 s = some q) : zgo k d 98 (0, [(0, .ref 10), (1, .int (Int32.ofInt v1))], []) (hp s ++ x) (.inl (none), hp q.2 ++ x) := by
  unfold f_98 at h
  have hM := xM_98 k.1
  refine g_aload_n 1 hM rfl rfl rfl ?_
  obtain ⟨r2, h1, h⟩ := zo_some h
  refine g_call 4 _ [.int (Int32.ofInt r2)] hM rfl rfl rfl rfl rfl (xM_89 _) rfl (z_rcv2 rfl) rfl rfl (by omega) (w_89 (by omega) h1) rfl ?_
  obtain ⟨hg3, h⟩ := zg_some h
  by_cases hc4 : r2 = 0
  · rw [if_pos hc4] at h
    refine g_if_eq_t 14 hM rfl rfl hg3 hc4 ?_
    refine g_iload_n 15 hM rfl rfl rfl ?_
    obtain ⟨hg5, h⟩ := zg_some h
    by_cases hc6 : v1 = 0
    · rw [if_pos hc6] at h
      refine g_if_ne_f 18 26 hM rfl rfl rfl hg5 hc6 ?_
      refine g_aload_n 19 hM rfl rfl rfl ?_
      refine g_iconst 20 hM rfl rfl ?_
      refine g_putI 23 5 hM rfl rfl rfl rfl rfl rfl rfl ?_
      refine g_goto 39 hM rfl rfl ?_
      cases h
      exact g_ret hM rfl rfl
    · rw [if_neg hc6] at h
      refine g_if_ne_t 26 hM rfl rfl hg5 hc6 ?_
      refine g_aload_n 27 hM rfl rfl rfl ?_
      refine g_bipush 29 hM rfl rfl rfl ?_
      refine g_aload_n 30 hM rfl rfl rfl ?_
      refine g_getF 33 hM rfl rfl rfl rfl rfl ?_
      refine g_getI 36 5 (gI s 8 5) hM rfl rfl rfl rfl rfl rfl rfl ?_
      obtain ⟨r8, s9, h7, h⟩ := zb_some h
      refine g_call 39 _ [] hM rfl rfl rfl rfl rfl (xM_74 _) rfl (z_rcv2 rfl) rfl rfl (by omega) (w_74 (by omega) h7) rfl ?_
      cases h
      exact g_ret hM rfl rfl
  · rw [if_neg hc4] at h
    refine g_if_eq_f 7 14 hM rfl rfl rfl hg3 hc4 ?_
    refine g_aload_n 8 hM rfl rfl rfl ?_
    obtain ⟨r11, s12, h10, h⟩ := zb_some h
    refine g_call 11 _ [] hM rfl rfl rfl rfl rfl (xM_83 _) rfl (z_rcv2 rfl) rfl rfl (by omega) (w_83 (by omega) h10) rfl ?_
    refine g_goto 39 hM rfl rfl ?_
    cases h
    exact g_ret hM rfl rfl
/-- RelationFinder$Parser.takeBar(I)V -/
def f_99 (v1 : Int) (s : zS) : Option (Unit × zS) := if (gI s 10 6) = 1 then (zg (zR v1) (if v1 = 42 then (zg (0 ≤ ((gI s 10 8) - 1) ∧ ((gI s 10 8) - 1) < 20) (zg (zC (gP s 10 2) = true) (zg (0 ≤ (gI s 15 ((gI s 10 8) - 1)) ∧ (gI s 15 ((gI s 10 8) - 1)) < 200) (some ((), (sI (sI (sI s 12 ((gI s 10 8) - 1) 2) ((gP s 10 2) + 4) (gI s 15 ((gI s 10 8) - 1)) (gI (sI s 12 ((gI s 10 8) - 1) 2) (gP s 10 2) 0)) 10 4 0)))))) else (zb (f_83 s) (fun r8 s9 => some ((), s9))))) else (zg (0 ≤ ((gI s 10 8) - 1) ∧ ((gI s 10 8) - 1) < 20) (zb (f_74 5 (gI s 13 ((gI s 10 8) - 1)) s) (fun r12 s13 => some ((), s13))))
theorem w_99 {k : zK} {d : Nat} {x : am_H} {v1 : Int} {s : zS} {q : (Unit × zS)} (hd : 2 ≤ d) (h : f_99 v1 s = some q) : zgo k d 99 (0, [(0, .ref 10), (1, .int (Int32.ofInt v1))], []) (hp s ++ x) (.inl (none), hp q.2 ++ x) := by
  unfold f_99 at h
  have hM := xM_99 k.1
  refine g_aload_n 1 hM rfl rfl rfl ?_
  refine g_getI 4 8 (gI s 10 8) hM rfl rfl rfl rfl rfl rfl rfl ?_
  refine g_iconst 5 hM rfl rfl ?_
  refine g_isub 6 hM rfl rfl ?_
  refine g_istore_n 7 hM rfl rfl rfl ?_
  refine g_aload_n 8 hM rfl rfl rfl ?_
  refine g_getI 11 6 (gI s 10 6) hM rfl rfl rfl rfl rfl rfl rfl ?_
  refine g_iconst 12 hM rfl rfl ?_
  by_cases hc1 : (gI s 10 6) = 1
  · rw [if_pos hc1] at h
    refine g_ic_eq_t 29 hM rfl rfl (zR_gI _ _ _) (zR_lit rfl) hc1 ?_
    refine g_iload_n 30 hM rfl rfl rfl ?_
    refine g_bipush 32 hM rfl rfl rfl ?_
    obtain ⟨hg2, h⟩ := zg_some h
    by_cases hc3 : v1 = 42
    · rw [if_pos hc3] at h
      refine g_ic_eq_t 42 hM rfl rfl hg2 (zR_lit rfl) hc3 ?_
      refine g_aload_n 43 hM rfl rfl rfl ?_
      refine g_getF 46 hM rfl rfl rfl rfl rfl ?_
      refine g_iload_n 47 hM rfl rfl rfl ?_
      refine g_iconst 48 hM rfl rfl ?_
      obtain ⟨hg4, h⟩ := zg_some h
      refine g_iastore 49 hM rfl rfl rfl rfl hg4 ?_
      refine g_aload_n 50 hM rfl rfl rfl ?_
      obtain ⟨hg5, h⟩ := zg_some h
      refine g_getN 53 2 (gP s 10 2) hM rfl rfl rfl rfl rfl rfl rfl (zC_ne hg5) ?_
      refine g_getR 56 hM rfl rfl rfl (zC_obj hg5) rfl ?_
      refine g_aload_n 57 hM rfl rfl rfl ?_
      refine g_getF 60 hM rfl rfl rfl rfl rfl ?_
      refine g_iload_n 61 hM rfl rfl rfl ?_
      refine g_iaload 62 (gI s 15 ((gI s 10 8) - 1)) hM rfl rfl rfl rfl hg4 rfl ?_
      refine g_aload_n 63 hM rfl rfl rfl ?_
      refine g_getN 66 2 (gP s 10 2) hM rfl rfl rfl rfl rfl rfl rfl (zC_ne hg5) ?_
      refine g_getI 69 0 (gI (sI s 12 ((gI s 10 8) - 1) 2) (gP s 10 2) 0) hM rfl rfl rfl (zC_obj hg5) rfl rfl rfl ?_
      obtain ⟨hg6, h⟩ := zg_some h
      refine g_iastore 70 hM rfl rfl (zC_a4 hg5) rfl hg6 ?_
      refine g_aload_n 71 hM rfl rfl rfl ?_
      refine g_iconst 72 hM rfl rfl ?_
      refine g_putI 75 4 hM rfl rfl rfl rfl rfl rfl rfl ?_
      cases h
      exact g_ret hM rfl rfl
    · rw [if_neg hc3] at h
      refine g_ic_eq_f 35 42 hM rfl rfl rfl hg2 (zR_lit rfl) hc3 ?_
      refine g_aload_n 36 hM rfl rfl rfl ?_
      obtain ⟨r8, s9, h7, h⟩ := zb_some h
      refine g_call 39 _ [] hM rfl rfl rfl rfl rfl (xM_83 _) rfl (z_rcv2 rfl) rfl rfl (by omega) (w_83 (by omega) h7) rfl ?_
      refine g_goto 75 hM rfl rfl ?_
      cases h
      exact g_ret hM rfl rfl
  · rw [if_neg hc1] at h
    refine g_ic_eq_f 15 29 hM rfl rfl rfl (zR_gI _ _ _) (zR_lit rfl) hc1 ?_
    refine g_aload_n 16 hM rfl rfl rfl ?_
    refine g_iconst 17 hM rfl rfl ?_
    refine g_aload_n 18 hM rfl rfl rfl ?_
    refine g_getF 21 hM rfl rfl rfl rfl rfl ?_
    refine g_iload_n 22 hM rfl rfl rfl ?_
    obtain ⟨hg10, h⟩ := zg_some h
    refine g_iaload 23 (gI s 13 ((gI s 10 8) - 1)) hM rfl rfl rfl rfl hg10 rfl ?_
    obtain ⟨r12, s13, h11, h⟩ := zb_some h
    refine g_call 26 _ [] hM rfl rfl rfl rfl rfl (xM_74 _) rfl (z_rcv2 rfl) rfl rfl (by omega) (w_74 (by omega) h11) rfl ?_
    refine g_goto 75 hM rfl rfl ?_
    cases h
    exact g_ret hM rfl rfl
def j_100_86 (v1 : Int) (v2 : Int) (s : zS) : Option (Unit × zS) := zg (zR v2) (if v2 = 39 then (zg (zR v1) (if v1 = 40 then (zb (f_93 s) (fun r6 s7 => some ((), s7))) else (zb (f_83 s) (fun r9 s10 => some ((), s10))))) else (zb (f_83 s) (fun r12 s13 => some ((), s13))))
theorem wj_100_86 {k : zK} {d : Nat} {x : am_H} {v1 : Int} {v2 : Int} {s : zS} {q : (Unit × zS)} (hd : 3 ≤ d) (h : j_100_86 v1 v2 s = some q) : zgo k d 100 (86, [(0, .ref 10), (1, .int (Int32.ofInt v1)), (2, .int (Int32.ofInt v2))], []) (hp s ++ x) (.inl (none), hp q.2 ++ x) := by
  unfold j_100_86 at h
  have hM := xM_100 k.1
  refine g_iload_n 87 hM rfl rfl rfl ?_
  refine g_bipush 89 hM rfl rfl rfl ?_
  obtain ⟨hg1, h⟩ := zg_some h
  by_cases hc2 : v2 = 39
  · rw [if_pos hc2] at h
    refine g_ic_ne_f 92 105 hM rfl rfl rfl hg1 (zR_lit rfl) hc2 ?_
    refine g_iload_n 93 hM rfl rfl rfl ?_
    refine g_bipush 95 hM rfl rfl rfl ?_
    obtain ⟨hg3, h⟩ := zg_some h
    by_cases hc4 : v1 = 40
    · rw [if_pos hc4] at h
      refine g_ic_ne_f 98 105 hM rfl rfl rfl hg3 (zR_lit rfl) hc4 ?_
      refine g_aload_n 99 hM rfl rfl rfl ?_
      obtain ⟨r6, s7, h5, h⟩ := zb_some h
      refine g_call 102 _ [] hM rfl rfl rfl rfl rfl (xM_93 _) rfl (z_rcv2 rfl) rfl rfl (by omega) (w_93 (by omega) h5) rfl ?_
      refine g_goto 109 hM rfl rfl ?_
      cases h
      exact g_ret hM rfl rfl
    · rw [if_neg hc4] at h
      refine g_ic_ne_t 105 hM rfl rfl hg3 (zR_lit rfl) hc4 ?_
      refine g_aload_n 106 hM rfl rfl rfl ?_
      obtain ⟨r9, s10, h8, h⟩ := zb_some h
      refine g_call 109 _ [] hM rfl rfl rfl rfl rfl (xM_83 _) rfl (z_rcv2 rfl) rfl rfl (by omega) (w_83 (by omega) h8) rfl ?_
      cases h
      exact g_ret hM rfl rfl
  · rw [if_neg hc2] at h
    refine g_ic_ne_t 105 hM rfl rfl hg1 (zR_lit rfl) hc2 ?_
    refine g_aload_n 106 hM rfl rfl rfl ?_
    obtain ⟨r12, s13, h11, h⟩ := zb_some h
    refine g_call 109 _ [] hM rfl rfl rfl rfl rfl (xM_83 _) rfl (z_rcv2 rfl) rfl rfl (by omega) (w_83 (by omega) h11) rfl ?_
    cases h
    exact g_ret hM rfl rfl
def j_100_61 (v1 : Int) (v2 : Int) (s : zS) : Option (Unit × zS) := zg (zR v2) (if v2 = 37 then (zg (zR v1) (if v1 = 38 then (some ((), (sI s 10 8 ((gI s 10 8) - 1)))) else (j_100_86 v1 v2 s))) else (j_100_86 v1 v2 s))
theorem wj_100_61 {k : zK} {d : Nat} {x : am_H} {v1 : Int} {v2 : Int} {s : zS} {q : (Unit × zS)} (hd : 3 ≤ d) (h : j_100_61 v1 v2 s = some q) : zgo k d 100 (61, [(0, .ref 10), (1, .int (Int32.ofInt v1)), (2, .int (Int32.ofInt v2))], []) (hp s ++ x) (.inl (none), hp q.2 ++ x) := by
  unfold j_100_61 at h
  have hM := xM_100 k.1
  refine g_iload_n 62 hM rfl rfl rfl ?_
  refine g_bipush 64 hM rfl rfl rfl ?_
  obtain ⟨hg1, h⟩ := zg_some h
  by_cases hc2 : v2 = 37
  · rw [if_pos hc2] at h
    refine g_ic_ne_f 67 86 hM rfl rfl rfl hg1 (zR_lit rfl) hc2 ?_
    refine g_iload_n 68 hM rfl rfl rfl ?_
    refine g_bipush 70 hM rfl rfl rfl ?_
    obtain ⟨hg3, h⟩ := zg_some h
    by_cases hc4 : v1 = 38
    · rw [if_pos hc4] at h
      refine g_ic_ne_f 73 86 hM rfl rfl rfl hg3 (zR_lit rfl) hc4 ?_
      refine g_aload_n 74 hM rfl rfl rfl ?_
      refine g_dup 75 hM rfl rfl rfl ?_
      refine g_getI 78 8 (gI s 10 8) hM rfl rfl rfl rfl rfl rfl rfl ?_
      refine g_iconst 79 hM rfl rfl ?_
      refine g_isub 80 hM rfl rfl ?_
      refine g_putI 83 8 hM rfl rfl rfl rfl rfl rfl rfl ?_
      refine g_goto 109 hM rfl rfl ?_
      cases h
      exact g_ret hM rfl rfl
    · rw [if_neg hc4] at h
      refine g_ic_ne_t 86 hM rfl rfl hg3 (zR_lit rfl) hc4 ?_
      refine g_lv [(0, .ref 10), (1, .int (Int32.ofInt v1)), (2, .int (Int32.ofInt v2))] rfl ⟨rfl, rfl, rfl, trivial⟩ ?_
      exact wj_100_86 (by omega) h
  · rw [if_neg hc2] at h
    refine g_ic_ne_t 86 hM rfl rfl hg1 (zR_lit rfl) hc2 ?_
    refine g_lv [(0, .ref 10), (1, .int (Int32.ofInt v1)), (2, .int (Int32.ofInt v2))] rfl ⟨rfl, rfl, rfl, trivial⟩ ?_
    exact wj_100_86 (by omega) h
def j_100_49 (v1 : Int) (v2 : Int) (s : zS) : Option (Unit × zS) := zg (zR v2) (if v2 = 35 then (zg (zR v1) (if v1 = 36 then (some ((), (sI s 10 8 ((gI s 10 8) - 1)))) else (j_100_61 v1 v2 s))) else (j_100_61 v1 v2 s))
theorem wj_100_49 {k : zK} {d : Nat} {x : am_H} {v1 : Int} {v2 : Int} {s : zS} {q : (Unit × zS)} (hd : 3 ≤ d) (h : j_100_49 v1 v2 s = some q) : zgo k d 100 (49, [(0, .ref 10), (1, .int (Int32.ofInt v1)), (2, .int (Int32.ofInt v2))], []) (hp s ++ x) (.inl (none), hp q.2 ++ x) := by
  unfold j_100_49 at h
  have hM := xM_100 k.1
  refine g_iload_n 50 hM rfl rfl rfl ?_
  refine g_bipush 52 hM rfl rfl rfl ?_
  obtain ⟨hg1, h⟩ := zg_some h
  by_cases hc2 : v2 = 35
  · rw [if_pos hc2] at h
    refine g_ic_ne_f 55 61 hM rfl rfl rfl hg1 (zR_lit rfl) hc2 ?_
    refine g_iload_n 56 hM rfl rfl rfl ?_
    refine g_bipush 58 hM rfl rfl rfl ?_
    obtain ⟨hg3, h⟩ := zg_some h
    by_cases hc4 : v1 = 36
    · rw [if_pos hc4] at h
      refine g_ic_eq_t 73 hM rfl rfl hg3 (zR_lit rfl) hc4 ?_
      refine g_aload_n 74 hM rfl rfl rfl ?_
      refine g_dup 75 hM rfl rfl rfl ?_
      refine g_getI 78 8 (gI s 10 8) hM rfl rfl rfl rfl rfl rfl rfl ?_
      refine g_iconst 79 hM rfl rfl ?_
      refine g_isub 80 hM rfl rfl ?_
      refine g_putI 83 8 hM rfl rfl rfl rfl rfl rfl rfl ?_
      refine g_goto 109 hM rfl rfl ?_
      cases h
      exact g_ret hM rfl rfl
    · rw [if_neg hc4] at h
      refine g_ic_eq_f 61 73 hM rfl rfl rfl hg3 (zR_lit rfl) hc4 ?_
      refine g_lv [(0, .ref 10), (1, .int (Int32.ofInt v1)), (2, .int (Int32.ofInt v2))] rfl ⟨rfl, rfl, rfl, trivial⟩ ?_
      exact wj_100_61 (by omega) h
  · rw [if_neg hc2] at h
    refine g_ic_ne_t 61 hM rfl rfl hg1 (zR_lit rfl) hc2 ?_
    refine g_lv [(0, .ref 10), (1, .int (Int32.ofInt v1)), (2, .int (Int32.ofInt v2))] rfl ⟨rfl, rfl, rfl, trivial⟩ ?_
    exact wj_100_61 (by omega) h
/-- RelationFinder$Parser.takeCloser(I)V -/
def f_100 (v1 : Int) (s : zS) : Option (Unit × zS) := zg (0 ≤ ((gI s 10 8) - 1) ∧ ((gI s 10 8) - 1) < 20) (if (gI s 11 ((gI s 10 8) - 1)) = 31 then (zg (zR v1) (if v1 = 32 then (some ((), (sI (sI s 10 7 v1) 10 4 3))) else (if v1 = 33 then (some ((), (sI (sI s 10 7 v1) 10 4 3))) else (if v1 = 34 then (some ((), (sI (sI s 10 7 v1) 10 4 3))) else (j_100_49 v1 (gI s 11 ((gI s 10 8) - 1)) s))))) else (j_100_49 v1 (gI s 11 ((gI s 10 8) - 1)) s))
theorem w_100 {k : zK} {d : Nat} {x : am_H} {v1 : Int} {s : zS} {q : (Unit × zS)} (hd : 3 ≤ d) (h : f_100 v1 s = some q) : zgo k d 100 (0, [(0, .ref 10), (1, .int (Int32.ofInt v1))], []) (hp s ++ x) (.inl (none), hp q.2 ++ x) := by
  unfold f_100 at h
  have hM := xM_100 k.1
  refine g_aload_n 1 hM rfl rfl rfl ?_
  refine g_getF 4 hM rfl rfl rfl rfl rfl ?_
  refine g_aload_n 5 hM rfl rfl rfl ?_
  refine g_getI 8 8 (gI s 10 8) hM rfl rfl rfl rfl rfl rfl rfl ?_
  refine g_iconst 9 hM rfl rfl ?_
  refine g_isub 10 hM rfl rfl ?_
  obtain ⟨hg1, h⟩ := zg_some h
  refine g_iaload 11 (gI s 11 ((gI s 10 8) - 1)) hM rfl rfl rfl rfl hg1 rfl ?_
  refine g_istore_n 12 hM rfl rfl rfl ?_
  refine g_iload_n 13 hM rfl rfl rfl ?_
  refine g_bipush 15 hM rfl rfl rfl ?_
  by_cases hc2 : (gI s 11 ((gI s 10 8) - 1)) = 31
  · rw [if_pos hc2] at h
    refine g_ic_ne_f 18 49 hM rfl rfl rfl (zR_gI _ _ _) (zR_lit rfl) hc2 ?_
    refine g_iload_n 19 hM rfl rfl rfl ?_
    refine g_bipush 21 hM rfl rfl rfl ?_
    obtain ⟨hg3, h⟩ := zg_some h
    by_cases hc4 : v1 = 32
    · rw [if_pos hc4] at h
      refine g_ic_eq_t 36 hM rfl rfl hg3 (zR_lit rfl) hc4 ?_
      refine g_aload_n 37 hM rfl rfl rfl ?_
      refine g_iload_n 38 hM rfl rfl rfl ?_
      refine g_putI 41 7 hM rfl rfl rfl rfl rfl rfl rfl ?_
      refine g_aload_n 42 hM rfl rfl rfl ?_
      refine g_iconst 43 hM rfl rfl ?_
      refine g_putI 46 4 hM rfl rfl rfl rfl rfl rfl rfl ?_
      refine g_goto 109 hM rfl rfl ?_
      cases h
      exact g_ret hM rfl rfl
    · rw [if_neg hc4] at h
      refine g_ic_eq_f 24 36 hM rfl rfl rfl hg3 (zR_lit rfl) hc4 ?_
      refine g_iload_n 25 hM rfl rfl rfl ?_
      refine g_bipush 27 hM rfl rfl rfl ?_
      by_cases hc5 : v1 = 33
      · rw [if_pos hc5] at h
        refine g_ic_eq_t 36 hM rfl rfl hg3 (zR_lit rfl) hc5 ?_
        refine g_aload_n 37 hM rfl rfl rfl ?_
        refine g_iload_n 38 hM rfl rfl rfl ?_
        refine g_putI 41 7 hM rfl rfl rfl rfl rfl rfl rfl ?_
        refine g_aload_n 42 hM rfl rfl rfl ?_
        refine g_iconst 43 hM rfl rfl ?_
        refine g_putI 46 4 hM rfl rfl rfl rfl rfl rfl rfl ?_
        refine g_goto 109 hM rfl rfl ?_
        cases h
        exact g_ret hM rfl rfl
      · rw [if_neg hc5] at h
        refine g_ic_eq_f 30 36 hM rfl rfl rfl hg3 (zR_lit rfl) hc5 ?_
        refine g_iload_n 31 hM rfl rfl rfl ?_
        refine g_bipush 33 hM rfl rfl rfl ?_
        by_cases hc6 : v1 = 34
        · rw [if_pos hc6] at h
          refine g_ic_ne_f 36 49 hM rfl rfl rfl hg3 (zR_lit rfl) hc6 ?_
          refine g_aload_n 37 hM rfl rfl rfl ?_
          refine g_iload_n 38 hM rfl rfl rfl ?_
          refine g_putI 41 7 hM rfl rfl rfl rfl rfl rfl rfl ?_
          refine g_aload_n 42 hM rfl rfl rfl ?_
          refine g_iconst 43 hM rfl rfl ?_
          refine g_putI 46 4 hM rfl rfl rfl rfl rfl rfl rfl ?_
          refine g_goto 109 hM rfl rfl ?_
          cases h
          exact g_ret hM rfl rfl
        · rw [if_neg hc6] at h
          refine g_ic_ne_t 49 hM rfl rfl hg3 (zR_lit rfl) hc6 ?_
          refine g_lv [(0, .ref 10), (1, .int (Int32.ofInt v1)), (2, .int (Int32.ofInt (gI s 11 ((gI s 10 8) - 1))))] rfl ⟨rfl, rfl, rfl, trivial⟩ ?_
          exact wj_100_49 (by omega) h
  · rw [if_neg hc2] at h
    refine g_ic_ne_t 49 hM rfl rfl (zR_gI _ _ _) (zR_lit rfl) hc2 ?_
    refine g_lv [(0, .ref 10), (1, .int (Int32.ofInt v1)), (2, .int (Int32.ofInt (gI s 11 ((gI s 10 8) - 1))))] rfl ⟨rfl, rfl, rfl, trivial⟩ ?_
    exact wj_100_49 (by omega) h
def j_87_33 (v1 : Int) (s : zS) : Option (Unit × zS) := if (gI s 10 15) = 0 then (zo (f_97 v1 s) (fun r3 => zg (zR r3) (if r3 = 0 then (if (gI s 10 8) = 0 then (zb (f_98 v1 s) (fun r8 s9 => some ((), s9))) else (zo (f_89 s) (fun r11 => zg (zR r11) (if r11 = 0 then (zg (0 ≤ ((gI s 10 8) - 1) ∧ ((gI s 10 8) - 1) < 20) (if (gI s 12 ((gI s 10 8) - 1)) = 1 then (zb (f_99 v1 s) (fun r17 s18 => some ((), s18))) else (zb (f_100 v1 s) (fun r20 s21 => some ((), s21))))) else (zb (f_98 v1 s) (fun r23 s24 => some ((), s24))))))) else (zb (f_76 v1 s) (fun r26 s27 => some ((), s27)))))) else (some ((), s))
theorem wj_87_33 {k : zK} {d : Nat} {x : am_H} {v1 : Int} {s : zS} {q : (Unit × zS)} (hd : 4 ≤ d) (h : j_87_33 v1 s = some q) : zgo k d 87 (33, [(0, .ref 10), (1, .int (Int32.ofInt v1))], []) (hp s ++ x) (.inl (none), hp q.2 ++ x) := by
  unfold j_87_33 at h
  have hM := xM_87 k.1
  refine g_aload_n 34 hM rfl rfl rfl ?_
  refine g_getI 37 15 (gI s 10 15) hM rfl rfl rfl rfl rfl rfl rfl ?_
  by_cases hc1 : (gI s 10 15) = 0
  · rw [if_pos hc1] at h
    refine g_if_eq_t 41 hM rfl rfl (zR_gI _ _ _) hc1 ?_
    refine g_aload_n 42 hM rfl rfl rfl ?_
    refine g_iload_n 43 hM rfl rfl rfl ?_
    obtain ⟨r3, h2, h⟩ := zo_some h
    refine g_call 46 _ [.int (Int32.ofInt r3)] hM rfl rfl rfl rfl rfl (xM_97 _) rfl (z_rcv2 rfl) rfl rfl (by omega) (w_97 (by omega) h2) rfl ?_
    obtain ⟨hg4, h⟩ := zg_some h
    by_cases hc5 : r3 = 0
    · rw [if_pos hc5] at h
      refine g_if_eq_t 58 hM rfl rfl hg4 hc5 ?_
      refine g_aload_n 59 hM rfl rfl rfl ?_
      refine g_getI 62 8 (gI s 10 8) hM rfl rfl rfl rfl rfl rfl rfl ?_
      by_cases hc6 : (gI s 10 8) = 0
      · rw [if_pos hc6] at h
        refine g_if_eq_t 72 hM rfl rfl (zR_gI _ _ _) hc6 ?_
        refine g_aload_n 73 hM rfl rfl rfl ?_
        refine g_iload_n 74 hM rfl rfl rfl ?_
        obtain ⟨r8, s9, h7, h⟩ := zb_some h
        refine g_call 77 _ [] hM rfl rfl rfl rfl rfl (xM_98 _) rfl (z_rcv2 rfl) rfl rfl (by omega) (w_98 (by omega) h7) rfl ?_
        refine g_goto 108 hM rfl rfl ?_
        cases h
        exact g_ret hM rfl rfl
      · rw [if_neg hc6] at h
        refine g_if_eq_f 65 72 hM rfl rfl rfl (zR_gI _ _ _) hc6 ?_
        refine g_aload_n 66 hM rfl rfl rfl ?_
        obtain ⟨r11, h10, h⟩ := zo_some h
        refine g_call 69 _ [.int (Int32.ofInt r11)] hM rfl rfl rfl rfl rfl (xM_89 _) rfl (z_rcv2 rfl) rfl rfl (by omega) (w_89 (by omega) h10) rfl ?_
        obtain ⟨hg12, h⟩ := zg_some h
        by_cases hc13 : r11 = 0
        · rw [if_pos hc13] at h
          refine g_if_eq_t 80 hM rfl rfl hg12 hc13 ?_
          refine g_aload_n 81 hM rfl rfl rfl ?_
          refine g_getF 84 hM rfl rfl rfl rfl rfl ?_
          refine g_aload_n 85 hM rfl rfl rfl ?_
          refine g_getI 88 8 (gI s 10 8) hM rfl rfl rfl rfl rfl rfl rfl ?_
          refine g_iconst 89 hM rfl rfl ?_
          refine g_isub 90 hM rfl rfl ?_
          obtain ⟨hg14, h⟩ := zg_some h
          refine g_iaload 91 (gI s 12 ((gI s 10 8) - 1)) hM rfl rfl rfl rfl hg14 rfl ?_
          refine g_iconst 92 hM rfl rfl ?_
          by_cases hc15 : (gI s 12 ((gI s 10 8) - 1)) = 1
          · rw [if_pos hc15] at h
            refine g_ic_ne_f 95 103 hM rfl rfl rfl (zR_gI _ _ _) (zR_lit rfl) hc15 ?_
            refine g_aload_n 96 hM rfl rfl rfl ?_
            refine g_iload_n 97 hM rfl rfl rfl ?_
            obtain ⟨r17, s18, h16, h⟩ := zb_some h
            refine g_call 100 _ [] hM rfl rfl rfl rfl rfl (xM_99 _) rfl (z_rcv2 rfl) rfl rfl (by omega) (w_99 (by omega) h16) rfl ?_
            refine g_goto 108 hM rfl rfl ?_
            cases h
            exact g_ret hM rfl rfl
          · rw [if_neg hc15] at h
            refine g_ic_ne_t 103 hM rfl rfl (zR_gI _ _ _) (zR_lit rfl) hc15 ?_
            refine g_aload_n 104 hM rfl rfl rfl ?_
            refine g_iload_n 105 hM rfl rfl rfl ?_
            obtain ⟨r20, s21, h19, h⟩ := zb_some h
            refine g_call 108 _ [] hM rfl rfl rfl rfl rfl (xM_100 _) rfl (z_rcv2 rfl) rfl rfl (by omega) (w_100 (by omega) h19) rfl ?_
            cases h
            exact g_ret hM rfl rfl
        · rw [if_neg hc13] at h
          refine g_if_eq_f 72 80 hM rfl rfl rfl hg12 hc13 ?_
          refine g_aload_n 73 hM rfl rfl rfl ?_
          refine g_iload_n 74 hM rfl rfl rfl ?_
          obtain ⟨r23, s24, h22, h⟩ := zb_some h
          refine g_call 77 _ [] hM rfl rfl rfl rfl rfl (xM_98 _) rfl (z_rcv2 rfl) rfl rfl (by omega) (w_98 (by omega) h22) rfl ?_
          refine g_goto 108 hM rfl rfl ?_
          cases h
          exact g_ret hM rfl rfl
    · rw [if_neg hc5] at h
      refine g_if_eq_f 49 58 hM rfl rfl rfl hg4 hc5 ?_
      refine g_aload_n 50 hM rfl rfl rfl ?_
      refine g_iload_n 51 hM rfl rfl rfl ?_
      obtain ⟨r26, s27, h25, h⟩ := zb_some h
      refine g_call 54 _ [.int (Int32.ofInt r26)] hM rfl rfl rfl rfl rfl (xM_76 _) rfl (z_rcv2 rfl) rfl rfl (by omega) (w_76 (by omega) h25) rfl ?_
      refine g_pop 55 hM rfl rfl rfl ?_
      refine g_goto 108 hM rfl rfl ?_
      cases h
      exact g_ret hM rfl rfl
  · rw [if_neg hc1] at h
    refine g_if_eq_f 40 41 hM rfl rfl rfl (zR_gI _ _ _) hc1 ?_
    cases h
    exact g_ret hM rfl rfl
/-- RelationFinder$Parser.takeBehind(I)V -/
def f_87 (v1 : Int) (s : zS) : Option (Unit × zS) := zo (zlp (fun (q : Int × zS) => b_87_2 v1 q.1 q.2) zF (0, s)) (fun e1 => j_87_33 v1 e1)
theorem w_87 {k : zK} {d : Nat} {x : am_H} {v1 : Int} {s : zS} {q : (Unit × zS)} (hd : 4 ≤ d) (h : f_87 v1 s = some q) : zgo k d 87 (0, [(0, .ref 10), (1, .int (Int32.ofInt v1))], []) (hp s ++ x) (.inl (none), hp q.2 ++ x) := by
  unfold f_87 at h
  have hM := xM_87 k.1
  refine g_iconst 1 hM rfl rfl ?_
  refine g_istore_n 2 hM rfl rfl rfl ?_
  obtain ⟨e1, h2, h⟩ := zo_some h
  refine g_lv [(0, .ref 10), (1, .int (Int32.ofInt v1)), (2, .int (Int32.ofInt 0))] rfl ⟨rfl, rfl, rfl, trivial⟩ ?_
  refine wl_87_2 (by omega) h2 ?_
  show zgo k d 87 (33, [(0, .ref 10), (1, .int (Int32.ofInt v1))], []) (hp e1 ++ x) (.inl (none), hp q.2 ++ x)
  refine g_lv [(0, .ref 10), (1, .int (Int32.ofInt v1))] rfl ⟨rfl, rfl, trivial⟩ ?_
  exact wj_87_33 (by omega) h
def b_73_46 (v3 : Int) (s : zS) : Option ((Int × zS) ⊕ ((zS) ⊕ (Unit × zS))) := zg (zR v3) (if 200 < v3 then (some (.inr (.inl s))) else (if (gI s 10 15) = 0 then (if (gI s 10 5) = 0 then (zb (f_62 s) (fun r6 s7 => if (gI s7 8 4) = 1 then (zb (f_74 1 (gI s7 8 5) s7) (fun r10 s11 => some (.inr (.inr ((), s11))))) else (if 200 < (gI s7 8 3) then (zb (f_74 6 (gI s7 8 5) s7) (fun r14 s15 => some (.inr (.inr ((), s15))))) else (if t_73_129 (gI s7 10 4) = 160 then (zb (f_75 (gI s7 8 4) s7) (fun r18 s19 => some (.inl ((v3 + 1), s19)))) else (if t_73_129 (gI s7 10 4) = 174 then (zb (f_84 (gI s7 8 4) s7) (fun r22 s23 => some (.inl ((v3 + 1), s23)))) else (if t_73_129 (gI s7 10 4) = 188 then (zb (f_85 (gI s7 8 4) s7) (fun r26 s27 => some (.inl ((v3 + 1), s27)))) else (if t_73_129 (gI s7 10 4) = 202 then (zb (f_86 (gI s7 8 4) s7) (fun r30 s31 => some (.inl ((v3 + 1), s31)))) else (if t_73_129 (gI s7 10 4) = 216 then (zb (f_87 (gI s7 8 4) s7) (fun r34 s35 => some (.inl ((v3 + 1), s35)))) else (none))))))))) else (some (.inr (.inl s)))) else (some (.inr (.inl s)))))
theorem wb_73_46 {k : zK} {d : Nat} {x : am_H} {r : am_A × am_H} {v3 : Int} {s : zS} {q : (Int × zS) ⊕ ((zS) ⊕ (Unit × zS))} (hd : 6 ≤ d) (h : b_73_46 v3 s = some q) (hK : Sum.elim (G_73_46 k d x r) (K_73_46 k d x r) q) : G_73_46 k d x r (v3, s) := by
  unfold b_73_46 at h
  have hM := xM_73 k.1
  show zgo k d 73 (46, [(0, .ref 10), (3, .int (Int32.ofInt v3))], []) (hp s ++ x) r
  refine g_iload_n 47 hM rfl rfl rfl ?_
  refine g_sipush 50 hM rfl rfl rfl ?_
  obtain ⟨hg1, h⟩ := zg_some h
  by_cases hc2 : 200 < v3
  · rw [if_pos hc2] at h
    refine g_ic_gt_t 233 hM rfl rfl hg1 (zR_lit rfl) hc2 ?_
    cases h
    exact g_lv [] rfl trivial hK
  · rw [if_neg hc2] at h
    refine g_ic_gt_f 53 233 hM rfl rfl rfl hg1 (zR_lit rfl) hc2 ?_
    refine g_aload_n 54 hM rfl rfl rfl ?_
    refine g_getI 57 15 (gI s 10 15) hM rfl rfl rfl rfl rfl rfl rfl ?_
    by_cases hc3 : (gI s 10 15) = 0
    · rw [if_pos hc3] at h
      refine g_if_ne_f 60 233 hM rfl rfl rfl (zR_gI _ _ _) hc3 ?_
      refine g_aload_n 61 hM rfl rfl rfl ?_
      refine g_getI 64 5 (gI s 10 5) hM rfl rfl rfl rfl rfl rfl rfl ?_
      by_cases hc4 : (gI s 10 5) = 0
      · rw [if_pos hc4] at h
        refine g_if_ne_f 67 233 hM rfl rfl rfl (zR_gI _ _ _) hc4 ?_
        refine g_aload_n 68 hM rfl rfl rfl ?_
        refine g_getF 71 hM rfl rfl rfl rfl rfl ?_
        obtain ⟨r6, s7, h5, h⟩ := zb_some h
        refine g_call 74 _ [] hM rfl rfl rfl rfl rfl (xM_62 _) rfl (z_rcv2 rfl) rfl rfl (by omega) (w_62 (by omega) h5) rfl ?_
        refine g_aload_n 75 hM rfl rfl rfl ?_
        refine g_getF 78 hM rfl rfl rfl rfl rfl ?_
        refine g_getI 81 4 (gI s7 8 4) hM rfl rfl rfl rfl rfl rfl rfl ?_
        refine g_iconst 82 hM rfl rfl ?_
        by_cases hc8 : (gI s7 8 4) = 1
        · rw [if_pos hc8] at h
          refine g_ic_ne_f 85 98 hM rfl rfl rfl (zR_gI _ _ _) (zR_lit rfl) hc8 ?_
          refine g_aload_n 86 hM rfl rfl rfl ?_
          refine g_iconst 87 hM rfl rfl ?_
          refine g_aload_n 88 hM rfl rfl rfl ?_
          refine g_getF 91 hM rfl rfl rfl rfl rfl ?_
          refine g_getI 94 5 (gI s7 8 5) hM rfl rfl rfl rfl rfl rfl rfl ?_
          obtain ⟨r10, s11, h9, h⟩ := zb_some h
          refine g_call 97 _ [] hM rfl rfl rfl rfl rfl (xM_74 _) rfl (z_rcv2 rfl) rfl rfl (by omega) (w_74 (by omega) h9) rfl ?_
          cases h
          rw [show r = _ from hK]
          exact g_ret hM rfl rfl
        · rw [if_neg hc8] at h
          refine g_ic_ne_t 98 hM rfl rfl (zR_gI _ _ _) (zR_lit rfl) hc8 ?_
          refine g_aload_n 99 hM rfl rfl rfl ?_
          refine g_getF 102 hM rfl rfl rfl rfl rfl ?_
          refine g_getI 105 3 (gI s7 8 3) hM rfl rfl rfl rfl rfl rfl rfl ?_
          refine g_sipush 108 hM rfl rfl rfl ?_
          by_cases hc12 : 200 < (gI s7 8 3)
          · rw [if_pos hc12] at h
            refine g_ic_le_f 111 125 hM rfl rfl rfl (zR_gI _ _ _) (zR_lit rfl) hc12 ?_
            refine g_aload_n 112 hM rfl rfl rfl ?_
            refine g_bipush 114 hM rfl rfl rfl ?_
            refine g_aload_n 115 hM rfl rfl rfl ?_
            refine g_getF 118 hM rfl rfl rfl rfl rfl ?_
            refine g_getI 121 5 (gI s7 8 5) hM rfl rfl rfl rfl rfl rfl rfl ?_
            obtain ⟨r14, s15, h13, h⟩ := zb_some h
            refine g_call 124 _ [] hM rfl rfl rfl rfl rfl (xM_74 _) rfl (z_rcv2 rfl) rfl rfl (by omega) (w_74 (by omega) h13) rfl ?_
            cases h
            rw [show r = _ from hK]
            exact g_ret hM rfl rfl
          · rw [if_neg hc12] at h
            refine g_ic_le_t 125 hM rfl rfl (zR_gI _ _ _) (zR_lit rfl) hc12 ?_
            refine g_aload_n 126 hM rfl rfl rfl ?_
            refine g_getI 129 4 (gI s7 10 4) hM rfl rfl rfl rfl rfl rfl rfl ?_
            by_cases hc16 : t_73_129 (gI s7 10 4) = 160
            · rw [if_pos hc16] at h
              refine g_tsw 160 hM rfl (zR_gI _ _ _) hc16 rfl rfl rfl ?_
              refine g_aload_n 161 hM rfl rfl rfl ?_
              refine g_aload_n 162 hM rfl rfl rfl ?_
              refine g_getF 165 hM rfl rfl rfl rfl rfl ?_
              refine g_getI 168 4 (gI s7 8 4) hM rfl rfl rfl rfl rfl rfl rfl ?_
              obtain ⟨r18, s19, h17, h⟩ := zb_some h
              refine g_call 171 _ [] hM rfl rfl rfl rfl rfl (xM_75 _) rfl (z_rcv2 rfl) rfl rfl (by omega) (w_75 (by omega) h17) rfl ?_
              refine g_goto 227 hM rfl rfl ?_
              refine g_iinc 230 hM rfl rfl rfl rfl ?_
              refine g_goto 46 hM rfl rfl ?_
              cases h
              exact g_lv [(0, .ref 10), (3, .int (Int32.ofInt (v3 + 1)))] rfl ⟨rfl, rfl, trivial⟩ hK
            · rw [if_neg hc16] at h
              by_cases hc20 : t_73_129 (gI s7 10 4) = 174
              · rw [if_pos hc20] at h
                refine g_tsw 174 hM rfl (zR_gI _ _ _) hc20 rfl rfl rfl ?_
                refine g_aload_n 175 hM rfl rfl rfl ?_
                refine g_aload_n 176 hM rfl rfl rfl ?_
                refine g_getF 179 hM rfl rfl rfl rfl rfl ?_
                refine g_getI 182 4 (gI s7 8 4) hM rfl rfl rfl rfl rfl rfl rfl ?_
                obtain ⟨r22, s23, h21, h⟩ := zb_some h
                refine g_call 185 _ [] hM rfl rfl rfl rfl rfl (xM_84 _) rfl (z_rcv2 rfl) rfl rfl (by omega) (w_84 (by omega) h21) rfl ?_
                refine g_goto 227 hM rfl rfl ?_
                refine g_iinc 230 hM rfl rfl rfl rfl ?_
                refine g_goto 46 hM rfl rfl ?_
                cases h
                exact g_lv [(0, .ref 10), (3, .int (Int32.ofInt (v3 + 1)))] rfl ⟨rfl, rfl, trivial⟩ hK
              · rw [if_neg hc20] at h
                by_cases hc24 : t_73_129 (gI s7 10 4) = 188
                · rw [if_pos hc24] at h
                  refine g_tsw 188 hM rfl (zR_gI _ _ _) hc24 rfl rfl rfl ?_
                  refine g_aload_n 189 hM rfl rfl rfl ?_
                  refine g_aload_n 190 hM rfl rfl rfl ?_
                  refine g_getF 193 hM rfl rfl rfl rfl rfl ?_
                  refine g_getI 196 4 (gI s7 8 4) hM rfl rfl rfl rfl rfl rfl rfl ?_
                  obtain ⟨r26, s27, h25, h⟩ := zb_some h
                  refine g_call 199 _ [] hM rfl rfl rfl rfl rfl (xM_85 _) rfl (z_rcv2 rfl) rfl rfl (by omega) (w_85 (by omega) h25) rfl ?_
                  refine g_goto 227 hM rfl rfl ?_
                  refine g_iinc 230 hM rfl rfl rfl rfl ?_
                  refine g_goto 46 hM rfl rfl ?_
                  cases h
                  exact g_lv [(0, .ref 10), (3, .int (Int32.ofInt (v3 + 1)))] rfl ⟨rfl, rfl, trivial⟩ hK
                · rw [if_neg hc24] at h
                  by_cases hc28 : t_73_129 (gI s7 10 4) = 202
                  · rw [if_pos hc28] at h
                    refine g_tsw 202 hM rfl (zR_gI _ _ _) hc28 rfl rfl rfl ?_
                    refine g_aload_n 203 hM rfl rfl rfl ?_
                    refine g_aload_n 204 hM rfl rfl rfl ?_
                    refine g_getF 207 hM rfl rfl rfl rfl rfl ?_
                    refine g_getI 210 4 (gI s7 8 4) hM rfl rfl rfl rfl rfl rfl rfl ?_
                    obtain ⟨r30, s31, h29, h⟩ := zb_some h
                    refine g_call 213 _ [] hM rfl rfl rfl rfl rfl (xM_86 _) rfl (z_rcv2 rfl) rfl rfl (by omega) (w_86 (by omega) h29) rfl ?_
                    refine g_goto 227 hM rfl rfl ?_
                    refine g_iinc 230 hM rfl rfl rfl rfl ?_
                    refine g_goto 46 hM rfl rfl ?_
                    cases h
                    exact g_lv [(0, .ref 10), (3, .int (Int32.ofInt (v3 + 1)))] rfl ⟨rfl, rfl, trivial⟩ hK
                  · rw [if_neg hc28] at h
                    by_cases hc32 : t_73_129 (gI s7 10 4) = 216
                    · rw [if_pos hc32] at h
                      refine g_tsw 216 hM rfl (zR_gI _ _ _) hc32 rfl rfl rfl ?_
                      refine g_aload_n 217 hM rfl rfl rfl ?_
                      refine g_aload_n 218 hM rfl rfl rfl ?_
                      refine g_getF 221 hM rfl rfl rfl rfl rfl ?_
                      refine g_getI 224 4 (gI s7 8 4) hM rfl rfl rfl rfl rfl rfl rfl ?_
                      obtain ⟨r34, s35, h33, h⟩ := zb_some h
                      refine g_call 227 _ [] hM rfl rfl rfl rfl rfl (xM_87 _) rfl (z_rcv2 rfl) rfl rfl (by omega) (w_87 (by omega) h33) rfl ?_
                      refine g_iinc 230 hM rfl rfl rfl rfl ?_
                      refine g_goto 46 hM rfl rfl ?_
                      cases h
                      exact g_lv [(0, .ref 10), (3, .int (Int32.ofInt (v3 + 1)))] rfl ⟨rfl, rfl, trivial⟩ hK
                    · rw [if_neg hc32] at h
                      cases h
      · rw [if_neg hc4] at h
        refine g_if_ne_t 233 hM rfl rfl (zR_gI _ _ _) hc4 ?_
        cases h
        exact g_lv [] rfl trivial hK
    · rw [if_neg hc3] at h
      refine g_if_ne_t 233 hM rfl rfl (zR_gI _ _ _) hc3 ?_
      cases h
      exact g_lv [] rfl trivial hK
theorem wl_73_46 {k : zK} {d : Nat} {x : am_H} {r : am_A × am_H} {n : Nat} {e : (Int × zS)} {t : ((zS) ⊕ (Unit × zS))} (hd : 6 ≤ d) (h : zlp (fun (q : Int × zS) => b_73_46 q.1 q.2) n e = some t) (hK : K_73_46 k d x r t) : G_73_46 k d x r e := zlp_go (G := fun e => G_73_46 k d x r e) (K := K_73_46 k d x r) (fun e e1 h1 hg => wb_73_46 (q := .inl e1) hd h1 hg) (fun e t1 h1 hk => wb_73_46 (q := .inr t1) hd h1 hk) n e t h hK
/-- RelationFinder$Parser.read(LRelationFinder$Code;Z)V -/
def f_73 (c1 : Nat) (v2 : Int) (s : zS) : Option (Unit × zS) := zg (zC c1 = true) (zg (zC (gP (sP s 10 2 c1) 10 2) = true) (zb (f_138 (gP (sP s 10 2 c1) 10 2) (sP s 10 2 c1)) (fun r4 s5 => zb (f_61 s5) (fun r7 s8 => zg (v2 = 0 ∨ v2 = 1) (zo (zlp (fun (q : Int × zS) => b_73_46 q.1 q.2) zF (0, (sI (sI (sI (sI (sI s8 10 3 v2) 10 4 0) 10 5 0) 10 8 0) 10 15 0))) (fun e10 => Sum.elim (fun e12 => some ((), e12)) (fun q13 => some q13) e10))))))
theorem w_73 {k : zK} {d : Nat} {x : am_H} {c1 : Nat} {v2 : Int} {s : zS} {q : (Unit × zS)} (hd : 6 ≤ d) (h : f_73 c1 v2 s = some q) : zgo k d 73 (0, [(0, .ref 10), (1, .ref c1), (2, .int (Int32.ofInt v2))], []) (hp s ++ x) (.inl (none), hp q.2 ++ x) := by
  unfold f_73 at h
  have hM := xM_73 k.1
  refine g_aload_n 1 hM rfl rfl rfl ?_
  refine g_aload_n 2 hM rfl rfl rfl ?_
  obtain ⟨hg1, h⟩ := zg_some h
  refine g_putN 5 2 hM rfl rfl rfl rfl rfl rfl rfl (zC_ne hg1) ?_
  refine g_aload_n 6 hM rfl rfl rfl ?_
  obtain ⟨hg2, h⟩ := zg_some h
  refine g_getN 9 2 (gP (sP s 10 2 c1) 10 2) hM rfl rfl rfl rfl rfl rfl rfl (zC_ne hg2) ?_
  obtain ⟨r4, s5, h3, h⟩ := zb_some h
  refine g_call 12 _ [] hM rfl rfl rfl rfl rfl (xM_138 _) rfl (z_rcv2 (zC_obj hg2)) rfl rfl (by omega) (w_138 (by omega) h3) rfl ?_
  refine g_aload_n 13 hM rfl rfl rfl ?_
  refine g_getF 16 hM rfl rfl rfl rfl rfl ?_
  obtain ⟨r7, s8, h6, h⟩ := zb_some h
  refine g_call 19 _ [] hM rfl rfl rfl rfl rfl (xM_61 _) rfl (z_rcv2 rfl) rfl rfl (by omega) (w_61 (by omega) h6) rfl ?_
  refine g_aload_n 20 hM rfl rfl rfl ?_
  refine g_iload_n 21 hM rfl rfl rfl ?_
  obtain ⟨hg9, h⟩ := zg_some h
  refine g_putI 24 3 hM rfl rfl rfl rfl rfl rfl (z_fitB hg9 rfl) ?_
  refine g_aload_n 25 hM rfl rfl rfl ?_
  refine g_iconst 26 hM rfl rfl ?_
  refine g_putI 29 4 hM rfl rfl rfl rfl rfl rfl rfl ?_
  refine g_aload_n 30 hM rfl rfl rfl ?_
  refine g_iconst 31 hM rfl rfl ?_
  refine g_putI 34 5 hM rfl rfl rfl rfl rfl rfl rfl ?_
  refine g_aload_n 35 hM rfl rfl rfl ?_
  refine g_iconst 36 hM rfl rfl ?_
  refine g_putI 39 8 hM rfl rfl rfl rfl rfl rfl rfl ?_
  refine g_aload_n 40 hM rfl rfl rfl ?_
  refine g_iconst 41 hM rfl rfl ?_
  refine g_putI 44 15 hM rfl rfl rfl rfl rfl rfl rfl ?_
  refine g_iconst 45 hM rfl rfl ?_
  refine g_istore_n 46 hM rfl rfl rfl ?_
  obtain ⟨e10, h11, h⟩ := zo_some h
  refine g_lv [(0, .ref 10), (3, .int (Int32.ofInt 0))] rfl ⟨rfl, rfl, trivial⟩ ?_
  refine wl_73_46 (by omega) h11 ?_
  rcases e10 with e12 | q13
  · simp only [ze_l] at h
    show zgo k d 73 (233, [], []) (hp e12 ++ x) (.inl (none), hp q.2 ++ x)
    cases h
    exact g_ret hM rfl rfl
  · cases h
    rfl
/-- RelationFinder$Tape.clear()V -/
def f_70 (s : zS) : Option (Unit × zS) := some ((), (sI s 8 1 0))
theorem w_70 {k : zK} {d : Nat} {x : am_H} {s : zS} {q : (Unit × zS)} (hd : 0 ≤ d) (h : f_70 s = some q) : zgo k d 70 (0, [(0, .ref 8)], []) (hp s ++ x) (.inl (none), hp q.2 ++ x) := by
  unfold f_70 at h
  have hM := xM_70 k.1
  refine g_aload_n 1 hM rfl rfl rfl ?_
  refine g_iconst 2 hM rfl rfl ?_
  refine g_putI 5 1 hM rfl rfl rfl rfl rfl rfl rfl ?_
  cases h
  exact g_ret hM rfl rfl
/-- RelationFinder.readText(Z)I -/
def f_17 (v1 : Int) (s : zS) : Option (Int × zS) := zb (f_73 (gP s 0 6) v1 s) (fun r2 s3 => zb (f_70 s3) (fun r5 s6 => if (gI s6 10 15) = 0 then (if (gI s6 10 15) = 0 then (some (0, (sI (sI s6 0 14 (gI s6 10 15)) 0 15 (-1)))) else (some (((-1) - (gI s6 10 16)), (sI (sI s6 0 14 (gI s6 10 15)) 0 15 (-1))))) else (if (gI s6 10 15) = 0 then (some (0, (sI (sI s6 0 14 (gI s6 10 15)) 0 15 (gI s6 10 16)))) else (some (((-1) - (gI s6 10 16)), (sI (sI s6 0 14 (gI s6 10 15)) 0 15 (gI s6 10 16)))))))
theorem w_17 {k : zK} {d : Nat} {x : am_H} {v1 : Int} {s : zS} {q : (Int × zS)} (hd : 7 ≤ d) (h : f_17 v1 s = some q) : zgo k d 17 (0, [(0, .ref 0), (1, .int (Int32.ofInt v1))], []) (hp s ++ x) (.inl (some (.int (Int32.ofInt q.1))), hp q.2 ++ x) := by
  unfold f_17 at h
  have hM := xM_17 k.1
  refine g_aload_n 1 hM rfl rfl rfl ?_
  refine g_getF 4 hM rfl rfl rfl rfl rfl ?_
  refine g_aload_n 5 hM rfl rfl rfl ?_
  refine g_getP 8 6 (gP s 0 6) hM rfl rfl rfl rfl rfl rfl rfl ?_
  refine g_iload_n 9 hM rfl rfl rfl ?_
  obtain ⟨r2, s3, h1, h⟩ := zb_some h
  refine g_call 12 _ [] hM rfl rfl rfl rfl rfl (xM_73 _) rfl (z_rcv2 rfl) rfl rfl (by omega) (w_73 (by omega) h1) rfl ?_
  refine g_aload_n 13 hM rfl rfl rfl ?_
  refine g_getF 16 hM rfl rfl rfl rfl rfl ?_
  obtain ⟨r5, s6, h4, h⟩ := zb_some h
  refine g_call 19 _ [] hM rfl rfl rfl rfl rfl (xM_70 _) rfl (z_rcv2 rfl) rfl rfl (by omega) (w_70 (by omega) h4) rfl ?_
  refine g_aload_n 20 hM rfl rfl rfl ?_
  refine g_aload_n 21 hM rfl rfl rfl ?_
  refine g_getF 24 hM rfl rfl rfl rfl rfl ?_
  refine g_getI 27 15 (gI s6 10 15) hM rfl rfl rfl rfl rfl rfl rfl ?_
  refine g_putI 30 14 hM rfl rfl rfl rfl rfl rfl rfl ?_
  refine g_aload_n 31 hM rfl rfl rfl ?_
  refine g_aload_n 32 hM rfl rfl rfl ?_
  refine g_getF 35 hM rfl rfl rfl rfl rfl ?_
  refine g_getI 38 15 (gI s6 10 15) hM rfl rfl rfl rfl rfl rfl rfl ?_
  by_cases hc7 : (gI s6 10 15) = 0
  · rw [if_pos hc7] at h
    refine g_if_ne_f 41 45 hM rfl rfl rfl (zR_gI _ _ _) hc7 ?_
    refine g_iconst 42 hM rfl rfl ?_
    refine g_goto 52 hM rfl rfl ?_
    refine g_putI 55 15 hM rfl rfl rfl rfl rfl rfl rfl ?_
    refine g_aload_n 56 hM rfl rfl rfl ?_
    refine g_getF 59 hM rfl rfl rfl rfl rfl ?_
    refine g_getI 62 15 (gI s6 10 15) hM rfl rfl rfl rfl rfl rfl rfl ?_
    by_cases hc8 : (gI s6 10 15) = 0
    · rw [if_pos hc8] at h
      refine g_if_ne_f 65 69 hM rfl rfl rfl (zR_gI _ _ _) hc8 ?_
      refine g_iconst 66 hM rfl rfl ?_
      refine g_goto 78 hM rfl rfl ?_
      cases h
      exact g_ret hM rfl rfl
    · rw [if_neg hc8] at h
      refine g_if_ne_t 69 hM rfl rfl (zR_gI _ _ _) hc8 ?_
      refine g_iconst 70 hM rfl rfl ?_
      refine g_aload_n 71 hM rfl rfl rfl ?_
      refine g_getF 74 hM rfl rfl rfl rfl rfl ?_
      refine g_getI 77 16 (gI s6 10 16) hM rfl rfl rfl rfl rfl rfl rfl ?_
      refine g_isub 78 hM rfl rfl ?_
      cases h
      exact g_ret hM rfl rfl
  · rw [if_neg hc7] at h
    refine g_if_ne_t 45 hM rfl rfl (zR_gI _ _ _) hc7 ?_
    refine g_aload_n 46 hM rfl rfl rfl ?_
    refine g_getF 49 hM rfl rfl rfl rfl rfl ?_
    refine g_getI 52 16 (gI s6 10 16) hM rfl rfl rfl rfl rfl rfl rfl ?_
    refine g_putI 55 15 hM rfl rfl rfl rfl rfl rfl rfl ?_
    refine g_aload_n 56 hM rfl rfl rfl ?_
    refine g_getF 59 hM rfl rfl rfl rfl rfl ?_
    refine g_getI 62 15 (gI s6 10 15) hM rfl rfl rfl rfl rfl rfl rfl ?_
    by_cases hc9 : (gI s6 10 15) = 0
    · rw [if_pos hc9] at h
      refine g_if_ne_f 65 69 hM rfl rfl rfl (zR_gI _ _ _) hc9 ?_
      refine g_iconst 66 hM rfl rfl ?_
      refine g_goto 78 hM rfl rfl ?_
      cases h
      exact g_ret hM rfl rfl
    · rw [if_neg hc9] at h
      refine g_if_ne_t 69 hM rfl rfl (zR_gI _ _ _) hc9 ?_
      refine g_iconst 70 hM rfl rfl ?_
      refine g_aload_n 71 hM rfl rfl rfl ?_
      refine g_getF 74 hM rfl rfl rfl rfl rfl ?_
      refine g_getI 77 16 (gI s6 10 16) hM rfl rfl rfl rfl rfl rfl rfl ?_
      refine g_isub 78 hM rfl rfl ?_
      cases h
      exact g_ret hM rfl rfl
/-- RelationFinder.keepFormula(I)V -/
def f_22 (v1 : Int) (s : zS) : Option (Unit × zS) := zg (0 ≤ v1 ∧ v1 < 17) (zg (zC (gP s 0 6) = true) (some ((), (sI (sJ (sP (sP s 28 v1 (gP s 0 6)) 0 6 (gP s 28 v1)) 174 v1 (0#64)) 0 12 (-1)))))
theorem w_22 {k : zK} {d : Nat} {x : am_H} {v1 : Int} {s : zS} {q : (Unit × zS)} (hd : 0 ≤ d) (h : f_22 v1 s = some q) : zgo k d 22 (0, [(0, .ref 0), (1, .int (Int32.ofInt v1))], []) (hp s ++ x) (.inl (none), hp q.2 ++ x) := by
  unfold f_22 at h
  have hM := xM_22 k.1
  refine g_aload_n 1 hM rfl rfl rfl ?_
  refine g_getF 4 hM rfl rfl rfl rfl rfl ?_
  refine g_iload_n 5 hM rfl rfl rfl ?_
  obtain ⟨hg1, h⟩ := zg_some h
  refine g_aaload 6 (gP s 28 v1) hM rfl rfl rfl rfl rfl hg1 rfl ?_
  refine g_astore_n 7 hM rfl rfl rfl ?_
  refine g_aload_n 8 hM rfl rfl rfl ?_
  refine g_getF 11 hM rfl rfl rfl rfl rfl ?_
  refine g_iload_n 12 hM rfl rfl rfl ?_
  refine g_aload_n 13 hM rfl rfl rfl ?_
  refine g_getP 16 6 (gP s 0 6) hM rfl rfl rfl rfl rfl rfl rfl ?_
  obtain ⟨hg2, h⟩ := zg_some h
  refine g_aastore 17 hM rfl rfl rfl (zC_obj hg2) rfl rfl rfl rfl hg1 ?_
  refine g_aload_n 18 hM rfl rfl rfl ?_
  refine g_aload_n 19 hM rfl rfl rfl ?_
  refine g_putP 22 6 hM rfl rfl rfl rfl rfl rfl rfl ?_
  refine g_aload_n 23 hM rfl rfl rfl ?_
  refine g_getF 26 hM rfl rfl rfl rfl rfl ?_
  refine g_iload_n 27 hM rfl rfl rfl ?_
  refine g_lconst 28 (0#64) hM rfl rfl rfl ?_
  refine g_lastore 29 hM rfl rfl rfl rfl hg1 ?_
  refine g_aload_n 30 hM rfl rfl rfl ?_
  refine g_iconst 31 hM rfl rfl ?_
  refine g_putI 34 12 hM rfl rfl rfl rfl rfl rfl rfl ?_
  cases h
  exact g_ret hM rfl rfl
/-- RelationFinder.claim()I -/
def f_16 (s : zS) : Option (Int × zS) := zb (f_17 1 s) (fun r2 s3 => zg (zR r2) (if r2 = 0 then (zb (f_22 16 s3) (fun r7 s8 => some (r2, (sI s8 0 11 1)))) else (some (r2, s3))))
theorem w_16 {k : zK} {d : Nat} {x : am_H} {s : zS} {q : (Int × zS)} (hd : 8 ≤ d) (h : f_16 s = some q) : zgo k d 16 (0, [(0, .ref 0)], []) (hp s ++ x) (.inl (some (.int (Int32.ofInt q.1))), hp q.2 ++ x) := by
  unfold f_16 at h
  have hM := xM_16 k.1
  refine g_aload_n 1 hM rfl rfl rfl ?_
  refine g_iconst 2 hM rfl rfl ?_
  obtain ⟨r2, s3, h1, h⟩ := zb_some h
  refine g_call 5 _ [.int (Int32.ofInt r2)] hM rfl rfl rfl rfl rfl (xM_17 _) rfl (z_rcv2 rfl) rfl rfl (by omega) (w_17 (by omega) h1) rfl ?_
  refine g_istore_n 6 hM rfl rfl rfl ?_
  refine g_iload_n 7 hM rfl rfl rfl ?_
  obtain ⟨hg4, h⟩ := zg_some h
  by_cases hc5 : r2 = 0
  · rw [if_pos hc5] at h
    refine g_if_ne_f 10 21 hM rfl rfl rfl hg4 hc5 ?_
    refine g_aload_n 11 hM rfl rfl rfl ?_
    refine g_bipush 13 hM rfl rfl rfl ?_
    obtain ⟨r7, s8, h6, h⟩ := zb_some h
    refine g_call 16 _ [] hM rfl rfl rfl rfl rfl (xM_22 _) rfl (z_rcv2 rfl) rfl rfl (by omega) (w_22 (by omega) h6) rfl ?_
    refine g_aload_n 17 hM rfl rfl rfl ?_
    refine g_iconst 18 hM rfl rfl ?_
    refine g_putI 21 11 hM rfl rfl rfl rfl rfl rfl rfl ?_
    refine g_iload_n 22 hM rfl rfl rfl ?_
    cases h
    exact g_ret hM rfl rfl
  · rw [if_neg hc5] at h
    refine g_if_ne_t 21 hM rfl rfl hg4 hc5 ?_
    refine g_iload_n 22 hM rfl rfl rfl ?_
    cases h
    exact g_ret hM rfl rfl
/-- RelationFinder.allFacts()I -/
def f_24 (s : zS) : Option Int := some ((1 * 2 ^ zsh (gI s 0 10)) - 1)
theorem w_24 {k : zK} {d : Nat} {x : am_H} {s : zS} {q : Int} (hd : 0 ≤ d) (h : f_24 s = some q) : zgo k d 24 (0, [(0, .ref 0)], []) (hp s ++ x) (.inl (some (.int (Int32.ofInt q))), hp s ++ x) := by
  unfold f_24 at h
  have hM := xM_24 k.1
  refine g_iconst 1 hM rfl rfl ?_
  refine g_aload_n 2 hM rfl rfl rfl ?_
  refine g_getI 5 10 (gI s 0 10) hM rfl rfl rfl rfl rfl rfl rfl ?_
  refine g_ishl 6 hM rfl rfl ?_
  refine g_iconst 7 hM rfl rfl ?_
  refine g_isub 8 hM rfl rfl ?_
  cases h
  exact g_ret hM rfl rfl
def G_25_5 (k : zK) (d : Nat) (x : am_H) (r : am_A × am_H) (v1 : Int) (v2 : Int) (e : (Int × zS)) : Prop := zgo k d 25 (5, [(0, .ref 0), (1, .int (Int32.ofInt v1)), (2, .int (Int32.ofInt v2)), (3, .int (Int32.ofInt e.1))], []) (hp e.2 ++ x) r
def K_25_5 (k : zK) (d : Nat) (x : am_H) (r : am_A × am_H) (v1 : Int) (v2 : Int) (t : ((zS) ⊕ (Int × zS))) : Prop := Sum.elim (fun e => zgo k d 25 (83, [], []) (hp e ++ x) r) (fun q => r = (.inl (some (.int (Int32.ofInt q.1))), hp q.2 ++ x)) t
/-- RelationFinder$World.blocks()I -/
def f_49 (s : zS) : Option Int := if 6 < (gI s 1 8) then (some (1 * 2 ^ zsh ((gI s 1 8) - 6))) else (some 1)
theorem w_49 {k : zK} {d : Nat} {x : am_H} {s : zS} {q : Int} (hd : 0 ≤ d) (h : f_49 s = some q) : zgo k d 49 (0, [(0, .ref 1)], []) (hp s ++ x) (.inl (some (.int (Int32.ofInt q))), hp s ++ x) := by
  unfold f_49 at h
  have hM := xM_49 k.1
  refine g_aload_n 1 hM rfl rfl rfl ?_
  refine g_getI 4 8 (gI s 1 8) hM rfl rfl rfl rfl rfl rfl rfl ?_
  refine g_bipush 6 hM rfl rfl rfl ?_
  by_cases hc1 : 6 < (gI s 1 8)
  · rw [if_pos hc1] at h
    refine g_ic_gt_t 13 hM rfl rfl (zR_gI _ _ _) (zR_lit rfl) hc1 ?_
    refine g_iconst 14 hM rfl rfl ?_
    refine g_aload_n 15 hM rfl rfl rfl ?_
    refine g_getI 18 8 (gI s 1 8) hM rfl rfl rfl rfl rfl rfl rfl ?_
    refine g_bipush 20 hM rfl rfl rfl ?_
    refine g_isub 21 hM rfl rfl ?_
    refine g_ishl 22 hM rfl rfl ?_
    cases h
    exact g_ret hM rfl rfl
  · rw [if_neg hc1] at h
    refine g_ic_gt_f 9 13 hM rfl rfl rfl (zR_gI _ _ _) (zR_lit rfl) hc1 ?_
    refine g_iconst 10 hM rfl rfl ?_
    refine g_goto 22 hM rfl rfl ?_
    cases h
    exact g_ret hM rfl rfl
/-- RelationFinder$World.wholeBlock()J -/
def f_50 (s : zS) : Option (BitVec 64) := if (gI s 1 8) < 6 then (zg (zR (1 * 2 ^ zsh (gI s 1 8))) (some (((1#64) <<< zshl (1 * 2 ^ zsh (gI s 1 8))) - (1#64)))) else (some (18446744073709551615#64))
theorem w_50 {k : zK} {d : Nat} {x : am_H} {s : zS} {q : (BitVec 64)} (hd : 0 ≤ d) (h : f_50 s = some q) : zgo k d 50 (0, [(0, .ref 1)], []) (hp s ++ x) (.inl (some (.long (Int64.ofBitVec q))), hp s ++ x) := by
  unfold f_50 at h
  have hM := xM_50 k.1
  refine g_aload_n 1 hM rfl rfl rfl ?_
  refine g_getI 4 8 (gI s 1 8) hM rfl rfl rfl rfl rfl rfl rfl ?_
  refine g_bipush 6 hM rfl rfl rfl ?_
  by_cases hc1 : (gI s 1 8) < 6
  · rw [if_pos hc1] at h
    refine g_ic_lt_t 15 hM rfl rfl (zR_gI _ _ _) (zR_lit rfl) hc1 ?_
    refine g_lconst 16 (1#64) hM rfl rfl rfl ?_
    refine g_iconst 17 hM rfl rfl ?_
    refine g_aload_n 18 hM rfl rfl rfl ?_
    refine g_getI 21 8 (gI s 1 8) hM rfl rfl rfl rfl rfl rfl rfl ?_
    refine g_ishl 22 hM rfl rfl ?_
    obtain ⟨hg2, h⟩ := zg_some h
    refine g_lshl 23 hM rfl rfl hg2 ?_
    refine g_lconst 24 (1#64) hM rfl rfl rfl ?_
    refine g_lsub 25 hM rfl rfl ?_
    cases h
    exact g_ret hM rfl rfl
  · rw [if_neg hc1] at h
    refine g_ic_lt_f 9 15 hM rfl rfl rfl (zR_gI _ _ _) (zR_lit rfl) hc1 ?_
    refine g_ldc2 12 (18446744073709551615#64) hM rfl rfl rfl (by decide) ?_
    refine g_goto 25 hM rfl rfl ?_
    cases h
    exact g_ret hM rfl rfl
