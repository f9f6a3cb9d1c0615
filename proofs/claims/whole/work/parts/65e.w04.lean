/-! THE PURE LAYER: methods as functions, and runs that do what they say (4). By program. -/
/-- RelationFinderModel.holds()I -/
def f_241 (s : zS) : Option (Int × zS) := zb (f_239 s) (fun r2 s3 => zg (zR r2) (if r2 = 0 then (some (0, s3)) else (zb (f_156 1 s3) (fun r7 s8 => zg (zR r7) (if r7 = 0 then (some (((-1) - (gI s8 177 5)), s8)) else (zb (f_154 s8) (fun r12 s13 => zb (f_195 (gI s13 177 22) s13) (fun r15 s16 => zb (f_198 17 s16) (fun r18 s19 => zg (zR r18) (if r18 = 0 then (some (0, s19)) else (some (1, s19))))))))))))
theorem w_241 {k : zK} {d : Nat} {x : am_H} {s : zS} {q : (Int × zS)} (hd : 9 ≤ d) (h : f_241 s = some q) : zgo k d 241 (0, [(0, .ref 177)], []) (hp s ++ x) (.inl (some (.int (Int32.ofInt q.1))), hp q.2 ++ x) := by
  unfold f_241 at h
  have hM := xM_241 k.1
  refine g_aload_n 1 hM rfl rfl rfl ?_
  obtain ⟨r2, s3, h1, h⟩ := zb_some h
  refine g_call 4 _ [.int (Int32.ofInt r2)] hM rfl rfl rfl rfl rfl (xM_239 _) rfl (z_rcv2 rfl) rfl rfl (by omega) (w_239 (by omega) h1) rfl ?_
  obtain ⟨hg4, h⟩ := zg_some h
  by_cases hc5 : r2 = 0
  · rw [if_pos hc5] at h
    refine g_if_ne_f 7 9 hM rfl rfl rfl hg4 hc5 ?_
    refine g_iconst 8 hM rfl rfl ?_
    cases h
    exact g_ret hM rfl rfl
  · rw [if_neg hc5] at h
    refine g_if_ne_t 9 hM rfl rfl hg4 hc5 ?_
    refine g_aload_n 10 hM rfl rfl rfl ?_
    refine g_iconst 11 hM rfl rfl ?_
    obtain ⟨r7, s8, h6, h⟩ := zb_some h
    refine g_call 14 _ [.int (Int32.ofInt r7)] hM rfl rfl rfl rfl rfl (xM_156 _) rfl (z_rcv2 rfl) rfl rfl (by omega) (w_156 (by omega) h6) rfl ?_
    obtain ⟨hg9, h⟩ := zg_some h
    by_cases hc10 : r7 = 0
    · rw [if_pos hc10] at h
      refine g_if_ne_f 17 24 hM rfl rfl rfl hg9 hc10 ?_
      refine g_iconst 18 hM rfl rfl ?_
      refine g_aload_n 19 hM rfl rfl rfl ?_
      refine g_getI 22 5 (gI s8 177 5) hM rfl rfl rfl rfl rfl rfl rfl ?_
      refine g_isub 23 hM rfl rfl ?_
      cases h
      exact g_ret hM rfl rfl
    · rw [if_neg hc10] at h
      refine g_if_ne_t 24 hM rfl rfl hg9 hc10 ?_
      refine g_aload_n 25 hM rfl rfl rfl ?_
      obtain ⟨r12, s13, h11, h⟩ := zb_some h
      refine g_call 28 _ [] hM rfl rfl rfl rfl rfl (xM_154 _) rfl (z_rcv2 rfl) rfl rfl (by omega) (w_154 (by omega) h11) rfl ?_
      refine g_aload_n 29 hM rfl rfl rfl ?_
      refine g_aload_n 30 hM rfl rfl rfl ?_
      refine g_getI 33 22 (gI s13 177 22) hM rfl rfl rfl rfl rfl rfl rfl ?_
      obtain ⟨r15, s16, h14, h⟩ := zb_some h
      refine g_call 36 _ [] hM rfl rfl rfl rfl rfl (xM_195 _) rfl (z_rcv2 rfl) rfl rfl (by omega) (w_195 (by omega) h14) rfl ?_
      refine g_aload_n 37 hM rfl rfl rfl ?_
      refine g_bipush 39 hM rfl rfl rfl ?_
      obtain ⟨r18, s19, h17, h⟩ := zb_some h
      refine g_call 42 _ [.int (Int32.ofInt r18)] hM rfl rfl rfl rfl rfl (xM_198 _) rfl (z_rcv2 rfl) rfl rfl (by omega) (w_198 (by omega) h17) rfl ?_
      obtain ⟨hg20, h⟩ := zg_some h
      by_cases hc21 : r18 = 0
      · rw [if_pos hc21] at h
        refine g_if_eq_t 49 hM rfl rfl hg20 hc21 ?_
        refine g_iconst 50 hM rfl rfl ?_
        cases h
        exact g_ret hM rfl rfl
      · rw [if_neg hc21] at h
        refine g_if_eq_f 45 49 hM rfl rfl rfl hg20 hc21 ?_
        refine g_iconst 46 hM rfl rfl ?_
        refine g_goto 50 hM rfl rfl ?_
        cases h
        exact g_ret hM rfl rfl
def t_242_10 (a : Int) : Nat := zswt 0 7 [56, 61, 66, 71, 76, 89, 102, 107] 112 a
/-- RelationFinderModel.told(I)I -/
def f_242 (v1 : Int) (s : zS) : Option (Int × zS) := zb (f_154 (sI s 177 0 0)) (fun r2 s3 => zg (zR v1) (if t_242_10 v1 = 56 then (some ((gI s3 177 1), s3)) else (if t_242_10 v1 = 61 then (some ((gI s3 177 10), s3)) else (if t_242_10 v1 = 66 then (some ((gI s3 177 13), s3)) else (if t_242_10 v1 = 71 then (some ((gI s3 177 18), s3)) else (if t_242_10 v1 = 76 then (if (gI s3 177 19) = 0 then (some (0, s3)) else (some (1, s3))) else (if t_242_10 v1 = 89 then (if (gI s3 177 21) = 0 then (some (0, s3)) else (some (1, s3))) else (if t_242_10 v1 = 102 then (some ((gI s3 177 3), s3)) else (if t_242_10 v1 = 107 then (some ((gI s3 177 25), s3)) else (if t_242_10 v1 = 112 then (some ((-1), s3)) else (none)))))))))))
theorem w_242 {k : zK} {d : Nat} {x : am_H} {v1 : Int} {s : zS} {q : (Int × zS)} (hd : 1 ≤ d) (h : f_242 v1 s = some q) : zgo k d 242 (0, [(0, .ref 177), (1, .int (Int32.ofInt v1))], []) (hp s ++ x) (.inl (some (.int (Int32.ofInt q.1))), hp q.2 ++ x) := by
  unfold f_242 at h
  have hM := xM_242 k.1
  refine g_aload_n 1 hM rfl rfl rfl ?_
  refine g_iconst 2 hM rfl rfl ?_
  refine g_putI 5 0 hM rfl rfl rfl rfl rfl rfl rfl ?_
  refine g_aload_n 6 hM rfl rfl rfl ?_
  obtain ⟨r2, s3, h1, h⟩ := zb_some h
  refine g_call 9 _ [] hM rfl rfl rfl rfl rfl (xM_154 _) rfl (z_rcv2 rfl) rfl rfl (by omega) (w_154 (by omega) h1) rfl ?_
  refine g_iload_n 10 hM rfl rfl rfl ?_
  obtain ⟨hg4, h⟩ := zg_some h
  by_cases hc5 : t_242_10 v1 = 56
  · rw [if_pos hc5] at h
    refine g_tsw 56 hM rfl hg4 hc5 rfl rfl rfl ?_
    refine g_aload_n 57 hM rfl rfl rfl ?_
    refine g_getI 60 1 (gI s3 177 1) hM rfl rfl rfl rfl rfl rfl rfl ?_
    cases h
    exact g_ret hM rfl rfl
  · rw [if_neg hc5] at h
    by_cases hc6 : t_242_10 v1 = 61
    · rw [if_pos hc6] at h
      refine g_tsw 61 hM rfl hg4 hc6 rfl rfl rfl ?_
      refine g_aload_n 62 hM rfl rfl rfl ?_
      refine g_getI 65 10 (gI s3 177 10) hM rfl rfl rfl rfl rfl rfl rfl ?_
      cases h
      exact g_ret hM rfl rfl
    · rw [if_neg hc6] at h
      by_cases hc7 : t_242_10 v1 = 66
      · rw [if_pos hc7] at h
        refine g_tsw 66 hM rfl hg4 hc7 rfl rfl rfl ?_
        refine g_aload_n 67 hM rfl rfl rfl ?_
        refine g_getI 70 13 (gI s3 177 13) hM rfl rfl rfl rfl rfl rfl rfl ?_
        cases h
        exact g_ret hM rfl rfl
      · rw [if_neg hc7] at h
        by_cases hc8 : t_242_10 v1 = 71
        · rw [if_pos hc8] at h
          refine g_tsw 71 hM rfl hg4 hc8 rfl rfl rfl ?_
          refine g_aload_n 72 hM rfl rfl rfl ?_
          refine g_getI 75 18 (gI s3 177 18) hM rfl rfl rfl rfl rfl rfl rfl ?_
          cases h
          exact g_ret hM rfl rfl
        · rw [if_neg hc8] at h
          by_cases hc9 : t_242_10 v1 = 76
          · rw [if_pos hc9] at h
            refine g_tsw 76 hM rfl hg4 hc9 rfl rfl rfl ?_
            refine g_aload_n 77 hM rfl rfl rfl ?_
            refine g_getI 80 19 (gI s3 177 19) hM rfl rfl rfl rfl rfl rfl rfl ?_
            by_cases hc10 : (gI s3 177 19) = 0
            · rw [if_pos hc10] at h
              refine g_if_eq_t 87 hM rfl rfl (zR_gI _ _ _) hc10 ?_
              refine g_iconst 88 hM rfl rfl ?_
              cases h
              exact g_ret hM rfl rfl
            · rw [if_neg hc10] at h
              refine g_if_eq_f 83 87 hM rfl rfl rfl (zR_gI _ _ _) hc10 ?_
              refine g_iconst 84 hM rfl rfl ?_
              refine g_goto 88 hM rfl rfl ?_
              cases h
              exact g_ret hM rfl rfl
          · rw [if_neg hc9] at h
            by_cases hc11 : t_242_10 v1 = 89
            · rw [if_pos hc11] at h
              refine g_tsw 89 hM rfl hg4 hc11 rfl rfl rfl ?_
              refine g_aload_n 90 hM rfl rfl rfl ?_
              refine g_getI 93 21 (gI s3 177 21) hM rfl rfl rfl rfl rfl rfl rfl ?_
              by_cases hc12 : (gI s3 177 21) = 0
              · rw [if_pos hc12] at h
                refine g_if_eq_t 100 hM rfl rfl (zR_gI _ _ _) hc12 ?_
                refine g_iconst 101 hM rfl rfl ?_
                cases h
                exact g_ret hM rfl rfl
              · rw [if_neg hc12] at h
                refine g_if_eq_f 96 100 hM rfl rfl rfl (zR_gI _ _ _) hc12 ?_
                refine g_iconst 97 hM rfl rfl ?_
                refine g_goto 101 hM rfl rfl ?_
                cases h
                exact g_ret hM rfl rfl
            · rw [if_neg hc11] at h
              by_cases hc13 : t_242_10 v1 = 102
              · rw [if_pos hc13] at h
                refine g_tsw 102 hM rfl hg4 hc13 rfl rfl rfl ?_
                refine g_aload_n 103 hM rfl rfl rfl ?_
                refine g_getI 106 3 (gI s3 177 3) hM rfl rfl rfl rfl rfl rfl rfl ?_
                cases h
                exact g_ret hM rfl rfl
              · rw [if_neg hc13] at h
                by_cases hc14 : t_242_10 v1 = 107
                · rw [if_pos hc14] at h
                  refine g_tsw 107 hM rfl hg4 hc14 rfl rfl rfl ?_
                  refine g_aload_n 108 hM rfl rfl rfl ?_
                  refine g_getI 111 25 (gI s3 177 25) hM rfl rfl rfl rfl rfl rfl rfl ?_
                  cases h
                  exact g_ret hM rfl rfl
                · rw [if_neg hc14] at h
                  by_cases hc15 : t_242_10 v1 = 112
                  · rw [if_pos hc15] at h
                    refine g_tsw 112 hM rfl hg4 hc15 rfl rfl rfl ?_
                    refine g_iconst 113 hM rfl rfl ?_
                    cases h
                    exact g_ret hM rfl rfl
                  · rw [if_neg hc15] at h
                    cases h
/-- RelationFinder.fault(Z)I -/
def f_15 (v1 : Int) (s : zS) : Option Int := zg (zR v1) (if v1 = 0 then (some (gI s 0 14)) else (some (gI s 0 15)))
theorem w_15 {k : zK} {d : Nat} {x : am_H} {v1 : Int} {s : zS} {q : Int} (hd : 0 ≤ d) (h : f_15 v1 s = some q) : zgo k d 15 (0, [(0, .ref 0), (1, .int (Int32.ofInt v1))], []) (hp s ++ x) (.inl (some (.int (Int32.ofInt q))), hp s ++ x) := by
  unfold f_15 at h
  have hM := xM_15 k.1
  refine g_iload_n 1 hM rfl rfl rfl ?_
  obtain ⟨hg1, h⟩ := zg_some h
  by_cases hc2 : v1 = 0
  · rw [if_pos hc2] at h
    refine g_if_eq_t 11 hM rfl rfl hg1 hc2 ?_
    refine g_aload_n 12 hM rfl rfl rfl ?_
    refine g_getI 15 14 (gI s 0 14) hM rfl rfl rfl rfl rfl rfl rfl ?_
    cases h
    exact g_ret hM rfl rfl
  · rw [if_neg hc2] at h
    refine g_if_eq_f 4 11 hM rfl rfl rfl hg1 hc2 ?_
    refine g_aload_n 5 hM rfl rfl rfl ?_
    refine g_getI 8 15 (gI s 0 15) hM rfl rfl rfl rfl rfl rfl rfl ?_
    refine g_goto 15 hM rfl rfl ?_
    cases h
    exact g_ret hM rfl rfl
/-- RelationFinder$Code.clear()V -/
def f_138 (c0 : Nat) (s : zS) : Option (Unit × zS) := zg (zC c0 = true) (some ((), (sI (sI s c0 0 0) c0 8 0)))
theorem w_138 {k : zK} {d : Nat} {x : am_H} {c0 : Nat} {s : zS} {q : (Unit × zS)} (hd : 0 ≤ d) (h : f_138 c0 s = some q) : zgo k d 138 (0, [(0, .ref c0)], []) (hp s ++ x) (.inl (none), hp q.2 ++ x) := by
  unfold f_138 at h
  have hM := xM_138 k.1
  refine g_aload_n 1 hM rfl rfl rfl ?_
  refine g_iconst 2 hM rfl rfl ?_
  obtain ⟨hg1, h⟩ := zg_some h
  refine g_putI 5 0 hM rfl rfl rfl (zC_obj hg1) rfl rfl rfl ?_
  refine g_aload_n 6 hM rfl rfl rfl ?_
  refine g_iconst 7 hM rfl rfl ?_
  refine g_putI 10 8 hM rfl rfl rfl (zC_obj hg1) rfl rfl rfl ?_
  cases h
  exact g_ret hM rfl rfl
/-- RelationFinder$Tape.rewind()V -/
def f_61 (s : zS) : Option (Unit × zS) := some ((), (sI (sI s 8 2 0) 8 3 0))
theorem w_61 {k : zK} {d : Nat} {x : am_H} {s : zS} {q : (Unit × zS)} (hd : 0 ≤ d) (h : f_61 s = some q) : zgo k d 61 (0, [(0, .ref 8)], []) (hp s ++ x) (.inl (none), hp q.2 ++ x) := by
  unfold f_61 at h
  have hM := xM_61 k.1
  refine g_aload_n 1 hM rfl rfl rfl ?_
  refine g_iconst 2 hM rfl rfl ?_
  refine g_putI 5 2 hM rfl rfl rfl rfl rfl rfl rfl ?_
  refine g_aload_n 6 hM rfl rfl rfl ?_
  refine g_iconst 7 hM rfl rfl ?_
  refine g_putI 10 3 hM rfl rfl rfl rfl rfl rfl rfl ?_
  cases h
  exact g_ret hM rfl rfl
def G_73_46 (k : zK) (d : Nat) (x : am_H) (r : am_A × am_H) (e : (Int × zS)) : Prop := zgo k d 73 (46, [(0, .ref 10), (3, .int (Int32.ofInt e.1))], []) (hp e.2 ++ x) r
def K_73_46 (k : zK) (d : Nat) (x : am_H) (r : am_A × am_H) (t : ((zS) ⊕ (Unit × zS))) : Prop := Sum.elim (fun e => zgo k d 73 (233, [], []) (hp e ++ x) r) (fun q => r = (.inl (none), hp q.2 ++ x)) t
def G_63_2 (k : zK) (d : Nat) (x : am_H) (r : am_A × am_H) (s : zS) (e : (Int)) : Prop := zgo k d 63 (2, [(0, .ref 8), (2, .int (Int32.ofInt e))], []) (hp s ++ x) r
def K_63_2 (k : zK) (d : Nat) (x : am_H) (r : am_A × am_H) (s : zS) (t : (Int)) : Prop := zgo k d 63 (27, [(2, .int (Int32.ofInt t))], []) (hp s ++ x) r
def b_63_2 (s : zS) (v2 : Int) : Option ((Int) ⊕ (Int)) := zg (zR v2) (if v2 < (gI s 8 1) then (zg (0 ≤ v2 ∧ v2 < 600) (if 32 < (gI s 9 v2) then (some (.inr v2)) else (some (.inl (v2 + 1))))) else (some (.inr v2)))
theorem wb_63_2 {k : zK} {d : Nat} {x : am_H} {r : am_A × am_H} {v2 : Int} {s : zS} {q : (Int) ⊕ (Int)} (hd : 0 ≤ d) (h : b_63_2 s v2 = some q) (hK : Sum.elim (G_63_2 k d x r s) (K_63_2 k d x r s) q) : G_63_2 k d x r s v2 := by
  unfold b_63_2 at h
  have hM := xM_63 k.1
  show zgo k d 63 (2, [(0, .ref 8), (2, .int (Int32.ofInt v2))], []) (hp s ++ x) r
  refine g_iload_n 3 hM rfl rfl rfl ?_
  refine g_aload_n 4 hM rfl rfl rfl ?_
  refine g_getI 7 1 (gI s 8 1) hM rfl rfl rfl rfl rfl rfl rfl ?_
  obtain ⟨hg1, h⟩ := zg_some h
  by_cases hc2 : v2 < (gI s 8 1)
  · rw [if_pos hc2] at h
    refine g_ic_ge_f 10 27 hM rfl rfl rfl hg1 (zR_gI _ _ _) hc2 ?_
    refine g_aload_n 11 hM rfl rfl rfl ?_
    refine g_getF 14 hM rfl rfl rfl rfl rfl ?_
    refine g_iload_n 15 hM rfl rfl rfl ?_
    obtain ⟨hg3, h⟩ := zg_some h
    refine g_iaload 16 (gI s 9 v2) hM rfl rfl rfl rfl hg3 rfl ?_
    refine g_bipush 18 hM rfl rfl rfl ?_
    by_cases hc4 : 32 < (gI s 9 v2)
    · rw [if_pos hc4] at h
      refine g_ic_gt_t 27 hM rfl rfl (zR_gI _ _ _) (zR_lit rfl) hc4 ?_
      cases h
      exact g_lv [(2, .int (Int32.ofInt v2))] rfl ⟨rfl, trivial⟩ hK
    · rw [if_neg hc4] at h
      refine g_ic_gt_f 21 27 hM rfl rfl rfl (zR_gI _ _ _) (zR_lit rfl) hc4 ?_
      refine g_iinc 24 hM rfl rfl rfl rfl ?_
      refine g_goto 2 hM rfl rfl ?_
      cases h
      exact g_lv [(0, .ref 8), (2, .int (Int32.ofInt (v2 + 1)))] rfl ⟨rfl, rfl, trivial⟩ hK
  · rw [if_neg hc2] at h
    refine g_ic_ge_t 27 hM rfl rfl hg1 (zR_gI _ _ _) hc2 ?_
    cases h
    exact g_lv [(2, .int (Int32.ofInt v2))] rfl ⟨rfl, trivial⟩ hK
theorem wl_63_2 {k : zK} {d : Nat} {x : am_H} {r : am_A × am_H} {s : zS} {n : Nat} {e : (Int)} {t : (Int)} (hd : 0 ≤ d) (h : zlp (fun (q : Int) => b_63_2 s q) n e = some t) (hK : K_63_2 k d x r s t) : G_63_2 k d x r s e := zlp_go (G := fun e => G_63_2 k d x r s e) (K := K_63_2 k d x r s) (fun e e1 h1 hg => wb_63_2 (q := .inl e1) hd h1 hg) (fun e t1 h1 hk => wb_63_2 (q := .inr t1) hd h1 hk) n e t h hK
/-- RelationFinder$Tape.blanksEnd(I)I -/
def f_63 (v1 : Int) (s : zS) : Option Int := zo (zlp (fun (q : Int) => b_63_2 s q) zF v1) (fun e1 => some e1)
theorem w_63 {k : zK} {d : Nat} {x : am_H} {v1 : Int} {s : zS} {q : Int} (hd : 0 ≤ d) (h : f_63 v1 s = some q) : zgo k d 63 (0, [(0, .ref 8), (1, .int (Int32.ofInt v1))], []) (hp s ++ x) (.inl (some (.int (Int32.ofInt q))), hp s ++ x) := by
  unfold f_63 at h
  have hM := xM_63 k.1
  refine g_iload_n 1 hM rfl rfl rfl ?_
  refine g_istore_n 2 hM rfl rfl rfl ?_
  obtain ⟨e1, h2, h⟩ := zo_some h
  refine g_lv [(0, .ref 8), (2, .int (Int32.ofInt v1))] rfl ⟨rfl, rfl, trivial⟩ ?_
  refine wl_63_2 (by omega) h2 ?_
  show zgo k d 63 (27, [(2, .int (Int32.ofInt e1))], []) (hp s ++ x) (.inl (some (.int (Int32.ofInt q))), hp s ++ x)
  refine g_iload_n 28 hM rfl rfl rfl ?_
  cases h
  exact g_ret hM rfl rfl
/-- RelationFinder.isLetter(I)Z -/
def f_18 (v0 : Int) : Option Int := zg (zR v0) (if v0 < 97 then (some 0) else (if 122 < v0 then (some 0) else (some 1)))
theorem w_18 {k : zK} {d : Nat} {x : am_H} {v0 : Int} {s : zS} {q : Int} (hd : 0 ≤ d) (h : f_18 v0 = some q) : zgo k d 18 (0, [(0, .int (Int32.ofInt v0))], []) (hp s ++ x) (.inl (some (.int (Int32.ofInt q))), hp s ++ x) := by
  unfold f_18 at h
  have hM := xM_18 k.1
  refine g_iload_n 1 hM rfl rfl rfl ?_
  refine g_bipush 3 hM rfl rfl rfl ?_
  obtain ⟨hg1, h⟩ := zg_some h
  by_cases hc2 : v0 < 97
  · rw [if_pos hc2] at h
    refine g_ic_lt_t 16 hM rfl rfl hg1 (zR_lit rfl) hc2 ?_
    refine g_iconst 17 hM rfl rfl ?_
    cases h
    exact g_ret hM rfl rfl
  · rw [if_neg hc2] at h
    refine g_ic_lt_f 6 16 hM rfl rfl rfl hg1 (zR_lit rfl) hc2 ?_
    refine g_iload_n 7 hM rfl rfl rfl ?_
    refine g_bipush 9 hM rfl rfl rfl ?_
    by_cases hc3 : 122 < v0
    · rw [if_pos hc3] at h
      refine g_ic_gt_t 16 hM rfl rfl hg1 (zR_lit rfl) hc3 ?_
      refine g_iconst 17 hM rfl rfl ?_
      cases h
      exact g_ret hM rfl rfl
    · rw [if_neg hc3] at h
      refine g_ic_gt_f 12 16 hM rfl rfl rfl hg1 (zR_lit rfl) hc3 ?_
      refine g_iconst 13 hM rfl rfl ?_
      refine g_goto 17 hM rfl rfl ?_
      cases h
      exact g_ret hM rfl rfl
/-- RelationFinder.isDigit(I)Z -/
def f_20 (v0 : Int) : Option Int := zg (zR v0) (if v0 < 48 then (some 0) else (if 57 < v0 then (some 0) else (some 1)))
theorem w_20 {k : zK} {d : Nat} {x : am_H} {v0 : Int} {s : zS} {q : Int} (hd : 0 ≤ d) (h : f_20 v0 = some q) : zgo k d 20 (0, [(0, .int (Int32.ofInt v0))], []) (hp s ++ x) (.inl (some (.int (Int32.ofInt q))), hp s ++ x) := by
  unfold f_20 at h
  have hM := xM_20 k.1
  refine g_iload_n 1 hM rfl rfl rfl ?_
  refine g_bipush 3 hM rfl rfl rfl ?_
  obtain ⟨hg1, h⟩ := zg_some h
  by_cases hc2 : v0 < 48
  · rw [if_pos hc2] at h
    refine g_ic_lt_t 16 hM rfl rfl hg1 (zR_lit rfl) hc2 ?_
    refine g_iconst 17 hM rfl rfl ?_
    cases h
    exact g_ret hM rfl rfl
  · rw [if_neg hc2] at h
    refine g_ic_lt_f 6 16 hM rfl rfl rfl hg1 (zR_lit rfl) hc2 ?_
    refine g_iload_n 7 hM rfl rfl rfl ?_
    refine g_bipush 9 hM rfl rfl rfl ?_
    by_cases hc3 : 57 < v0
    · rw [if_pos hc3] at h
      refine g_ic_gt_t 16 hM rfl rfl hg1 (zR_lit rfl) hc3 ?_
      refine g_iconst 17 hM rfl rfl ?_
      cases h
      exact g_ret hM rfl rfl
    · rw [if_neg hc3] at h
      refine g_ic_gt_f 12 16 hM rfl rfl rfl hg1 (zR_lit rfl) hc3 ?_
      refine g_iconst 13 hM rfl rfl ?_
      refine g_goto 17 hM rfl rfl ?_
      cases h
      exact g_ret hM rfl rfl
def G_68_41 (k : zK) (d : Nat) (x : am_H) (r : am_A × am_H) (v1 : Int) (v2 : Int) (e : (Int × zS)) : Prop := zgo k d 68 (41, [(0, .ref 8), (1, .int (Int32.ofInt v1)), (2, .int (Int32.ofInt v2)), (3, .int (Int32.ofInt e.1))], []) (hp e.2 ++ x) r
def K_68_41 (k : zK) (d : Nat) (x : am_H) (r : am_A × am_H) (v1 : Int) (v2 : Int) (t : ((zS) ⊕ (Unit × zS))) : Prop := Sum.elim (fun e => zgo k d 68 (101, [(0, .ref 8), (1, .int (Int32.ofInt v1))], []) (hp e ++ x) r) (fun q => r = (.inl (none), hp q.2 ++ x)) t
/-- java/lang/String.coder()B -/
def f_244 : Option Int := some 0
theorem w_244 {k : zK} {d : Nat} {x : am_H} {s : zS} {q : Int} (hd : 0 ≤ d) (h : f_244 = some q) : zgo k d 244 (0, [(0, .ref (am_big + 4))], []) (hp s ++ x) (.inl (some (.int (Int32.ofInt q))), hp s ++ x) := by
  unfold f_244 at h
  have hM := xM_244 k.1
  refine g_getstI 3 1 hM rfl rfl rfl (by decide) ?_
  refine g_if_eq_f 6 13 hM rfl rfl rfl (zR_lit rfl) (by decide) ?_
  refine g_aload_n 7 hM rfl rfl rfl ?_
  refine g_kgetI 10 0 hM rfl rfl rfl rfl (by decide) ?_
  refine g_goto 14 hM rfl rfl ?_
  cases h
  exact g_ret hM rfl rfl
/-- java/lang/String.length()I -/
def f_243 : Option Int := zo (f_244) (fun r2 => zg ((0 : Int) ≤ 8 ∧ zR 8) (some (8 / 2 ^ zsh 0)))
theorem w_243 {k : zK} {d : Nat} {x : am_H} {s : zS} {q : Int} (hd : 1 ≤ d) (h : f_243 = some q) : zgo k d 243 (0, [(0, .ref (am_big + 4))], []) (hp s ++ x) (.inl (some (.int (Int32.ofInt q))), hp s ++ x) := by
  unfold f_243 at h
  have hM := xM_243 k.1
  refine g_aload_n 1 hM rfl rfl rfl ?_
  refine g_kgetR 4 hM rfl rfl rfl rfl ?_
  refine g_kalen5 5 hM rfl rfl ?_
  refine g_aload_n 6 hM rfl rfl rfl ?_
  obtain ⟨r2, h1, h⟩ := zo_some h
  have hqh1 : some 0 = some r2 := h1
  cases hqh1
  refine g_call 9 _ [.int (Int32.ofInt 0), .int (Int32.ofInt 8)] hM rfl rfl rfl rfl rfl (xM_244 _) rfl (z_rcv3 rfl) rfl rfl (by omega) (w_244 (by omega) h1) rfl ?_
  obtain ⟨hg3, h⟩ := zg_some h
  refine g_ishr 10 hM rfl rfl hg3 ?_
  cases h
  exact g_ret hM rfl rfl
/-- java/lang/String.isLatin1()Z -/
def f_246 : Option Int := some 1
theorem w_246 {k : zK} {d : Nat} {x : am_H} {s : zS} {q : Int} (hd : 0 ≤ d) (h : f_246 = some q) : zgo k d 246 (0, [(0, .ref (am_big + 4))], []) (hp s ++ x) (.inl (some (.int (Int32.ofInt q))), hp s ++ x) := by
  unfold f_246 at h
  have hM := xM_246 k.1
  refine g_getstI 3 1 hM rfl rfl rfl (by decide) ?_
  refine g_if_eq_f 6 17 hM rfl rfl rfl (zR_lit rfl) (by decide) ?_
  refine g_aload_n 7 hM rfl rfl rfl ?_
  refine g_kgetI 10 0 hM rfl rfl rfl rfl (by decide) ?_
  refine g_if_ne_f 13 17 hM rfl rfl rfl (zR_lit rfl) (by decide) ?_
  refine g_iconst 14 hM rfl rfl ?_
  refine g_goto 18 hM rfl rfl ?_
  cases h
  exact g_ret hM rfl rfl
/-- jdk/internal/util/Preconditions.checkIndex(IILjava/util/function/BiFunction;)I -/
def f_249 (v0 : Int) (v1 : Int) : Option Int := zg (zR v0) (if v0 < 0 then (none) else (zg (zR v1) (if v0 < v1 then (some v0) else (none))))
theorem w_249 {k : zK} {d : Nat} {x : am_H} {v0 : Int} {v1 : Int} {s : zS} {q : Int} (hd : 0 ≤ d) (h : f_249 v0 v1 = some q) : zgo k d 249 (0, [(0, .int (Int32.ofInt v0)), (1, .int (Int32.ofInt v1)), (2, (zvz k.1))], []) (hp s ++ x) (.inl (some (.int (Int32.ofInt q))), hp s ++ x) := by
  obtain ⟨b, kL, kX⟩ := k
  cases b
  · unfold f_249 at h
    have hM := xM_249 false
    refine g_iload_n 1 hM rfl rfl rfl ?_
    obtain ⟨hg1, h⟩ := zg_some h
    by_cases hc2 : v0 < 0
    · rw [if_pos hc2] at h
      cases h
    · rw [if_neg hc2] at h
      refine g_if_lt_f 4 9 hM rfl rfl rfl hg1 hc2 ?_
      refine g_iload_n 5 hM rfl rfl rfl ?_
      refine g_iload_n 6 hM rfl rfl rfl ?_
      obtain ⟨hg3, h⟩ := zg_some h
      by_cases hc4 : v0 < v1
      · rw [if_pos hc4] at h
        refine g_ic_lt_t 16 hM rfl rfl hg1 hg3 hc4 ?_
        refine g_iload_n 17 hM rfl rfl rfl ?_
        cases h
        exact g_ret hM rfl rfl
      · rw [if_neg hc4] at h
        cases h
  · unfold f_249 at h
    have hM := xM_249 true
    refine g_iload_n 1 hM rfl rfl rfl ?_
    obtain ⟨hg1, h⟩ := zg_some h
    by_cases hc2 : v0 < 0
    · rw [if_pos hc2] at h
      cases h
    · rw [if_neg hc2] at h
      refine g_if_lt_f 4 9 hM rfl rfl rfl hg1 hc2 ?_
      refine g_iload_n 5 hM rfl rfl rfl ?_
      refine g_iload_n 6 hM rfl rfl rfl ?_
      obtain ⟨hg3, h⟩ := zg_some h
      by_cases hc4 : v0 < v1
      · rw [if_pos hc4] at h
        refine g_ic_lt_t 16 hM rfl rfl hg1 hg3 hc4 ?_
        refine g_iload_n 17 hM rfl rfl rfl ?_
        cases h
        exact g_ret hM rfl rfl
      · rw [if_neg hc4] at h
        cases h
/-- java/lang/String.checkIndex(II)V -/
def f_248 (v0 : Int) (v1 : Int) : Option Unit := zo (f_249 v0 v1) (fun r2 => some ())
theorem w_248 {k : zK} {d : Nat} {x : am_H} {v0 : Int} {v1 : Int} {s : zS} {q : Unit} (hd : 1 ≤ d) (h : f_248 v0 v1 = some q) : zgo k d 248 (0, [(0, .int (Int32.ofInt v0)), (1, .int (Int32.ofInt v1))], []) (hp s ++ x) (.inl (none), hp s ++ x) := by
  obtain ⟨b, kL, kX⟩ := k
  cases b
  · unfold f_248 at h
    have hM := xM_248 false
    refine g_iload_n 1 hM rfl rfl rfl ?_
    refine g_iload_n 2 hM rfl rfl rfl ?_
    refine g_getstatic 5 hM rfl rfl rfl ?_
    obtain ⟨r2, h1, h⟩ := zo_some h
    refine g_call 8 _ [.int (Int32.ofInt r2)] hM rfl rfl rfl rfl rfl (xM_249 _) rfl rfl rfl rfl (by omega) (w_249 (by omega) h1) rfl ?_
    refine g_pop 9 hM rfl rfl rfl ?_
    cases h
    exact g_ret hM rfl rfl
  · unfold f_248 at h
    have hM := xM_248 true
    refine g_iload_n 1 hM rfl rfl rfl ?_
    refine g_iload_n 2 hM rfl rfl rfl ?_
    refine g_getstatic 5 hM rfl rfl rfl ?_
    obtain ⟨r2, h1, h⟩ := zo_some h
    refine g_call 8 _ [.int (Int32.ofInt r2)] hM rfl rfl rfl rfl rfl (xM_249 _) rfl rfl rfl rfl (by omega) (w_249 (by omega) h1) rfl ?_
    refine g_pop 9 hM rfl rfl rfl ?_
    cases h
    exact g_ret hM rfl rfl
/-- java/lang/StringLatin1.charAt([BI)C -/
def f_247 (v1 : Int) : Option Int := zo (f_248 v1 8) (fun r2 => zg (0 ≤ v1 ∧ v1 < 8) (zg (0 ≤ ((zand (zst0 v1) 255) % 65536) ∧ ((zand (zst0 v1) 255) % 65536) ≤ 65535) (some ((zand (zst0 v1) 255) % 65536))))
theorem w_247 {k : zK} {d : Nat} {x : am_H} {v1 : Int} {s : zS} {q : Int} (hd : 2 ≤ d) (h : f_247 v1 = some q) : zgo k d 247 (0, [(0, .ref (am_big + 5)), (1, .int (Int32.ofInt v1))], []) (hp s ++ x) (.inl (some (.int (Int32.ofInt q))), hp s ++ x) := by
  unfold f_247 at h
  have hM := xM_247 k.1
  refine g_iload_n 1 hM rfl rfl rfl ?_
  refine g_aload_n 2 hM rfl rfl rfl ?_
  refine g_kalen5 3 hM rfl rfl ?_
  obtain ⟨r2, h1, h⟩ := zo_some h
  refine g_call 6 _ [] hM rfl rfl rfl rfl rfl (xM_248 _) rfl rfl rfl rfl (by omega) (w_248 (by omega) h1) rfl ?_
  refine g_aload_n 7 hM rfl rfl rfl ?_
  refine g_iload_n 8 hM rfl rfl rfl ?_
  obtain ⟨hg3, h⟩ := zg_some h
  refine g_kbaload5 9 hM rfl rfl hg3 ?_
  refine g_sipush 12 hM rfl rfl rfl ?_
  refine g_iand 13 hM rfl rfl ?_
  refine g_i2c 14 hM rfl rfl ?_
  obtain ⟨hg4, h⟩ := zg_some h
  cases h
  exact g_ret hM rfl (z_retC hg4)
/-- java/lang/String.charAt(I)C -/
def f_245 (v1 : Int) : Option Int := zo (f_246) (fun r2 => zo (f_247 v1) (fun r4 => zg (0 ≤ r4 ∧ r4 ≤ 65535) (some r4)))
theorem w_245 {k : zK} {d : Nat} {x : am_H} {v1 : Int} {s : zS} {q : Int} (hd : 3 ≤ d) (h : f_245 v1 = some q) : zgo k d 245 (0, [(0, .ref (am_big + 4)), (1, .int (Int32.ofInt v1))], []) (hp s ++ x) (.inl (some (.int (Int32.ofInt q))), hp s ++ x) := by
  unfold f_245 at h
  have hM := xM_245 k.1
  refine g_aload_n 1 hM rfl rfl rfl ?_
  obtain ⟨r2, h1, h⟩ := zo_some h
  have hqh1 : some 1 = some r2 := h1
  cases hqh1
  refine g_call 4 _ [.int (Int32.ofInt 1)] hM rfl rfl rfl rfl rfl (xM_246 _) rfl (z_rcv3 rfl) rfl rfl (by omega) (w_246 (by omega) h1) rfl ?_
  refine g_if_eq_f 7 16 hM rfl rfl rfl (zR_lit rfl) (by decide) ?_
  refine g_aload_n 8 hM rfl rfl rfl ?_
  refine g_kgetR 11 hM rfl rfl rfl rfl ?_
  refine g_iload_n 12 hM rfl rfl rfl ?_
  obtain ⟨r4, h3, h⟩ := zo_some h
  refine g_call 15 _ [.int (Int32.ofInt r4)] hM rfl rfl rfl rfl rfl (xM_247 _) rfl rfl rfl rfl (by omega) (w_247 (by omega) h3) rfl ?_
  obtain ⟨hg5, h⟩ := zg_some h
  cases h
  exact g_ret hM rfl (z_retC hg5)
def b_68_41 (v1 : Int) (v2 : Int) (v3 : Int) (s : zS) : Option ((Int × zS) ⊕ ((zS) ⊕ (Unit × zS))) := zo (f_243) (fun r2 => zg (zR (v3 + 1)) (zg (zR r2) (if (v3 + 1) < r2 then (zo (f_245 v3) (fun r7 => zg (zR r7) (zg (zR v1) (if r7 = v1 then (zo (f_245 (v3 + 1)) (fun r12 => zg (zR r12) (zg (zR v2) (if r12 = v2 then (zg (0 ≤ v3 ∧ zR v3 ∧ (0 : Int) < 2 ∧ zR 2) (some (.inr (.inr ((), (sI (sI s 8 4 (20 + (v3 / 2))) 8 2 ((gI s 8 2) + 2))))))) else (some (.inl ((v3 + 2), s))))))) else (some (.inl ((v3 + 2), s))))))) else (some (.inr (.inl s))))))
theorem wb_68_41 {k : zK} {d : Nat} {x : am_H} {r : am_A × am_H} {v1 : Int} {v2 : Int} {v3 : Int} {s : zS} {q : (Int × zS) ⊕ ((zS) ⊕ (Unit × zS))} (hd : 4 ≤ d) (h : b_68_41 v1 v2 v3 s = some q) (hK : Sum.elim (G_68_41 k d x r v1 v2) (K_68_41 k d x r v1 v2) q) : G_68_41 k d x r v1 v2 (v3, s) := by
  unfold b_68_41 at h
  have hM := xM_68 k.1
  show zgo k d 68 (41, [(0, .ref 8), (1, .int (Int32.ofInt v1)), (2, .int (Int32.ofInt v2)), (3, .int (Int32.ofInt v3))], []) (hp s ++ x) r
  refine g_iload_n 42 hM rfl rfl rfl ?_
  refine g_iconst 43 hM rfl rfl ?_
  refine g_iadd 44 hM rfl rfl ?_
  refine g_ldcS 46 hM rfl rfl rfl ?_
  obtain ⟨r2, h1, h⟩ := zo_some h
  refine g_call 49 _ [.int (Int32.ofInt r2), .int (Int32.ofInt (v3 + 1))] hM rfl rfl rfl rfl rfl (xM_243 _) rfl (z_rcv3 rfl) rfl rfl (by omega) (w_243 (by omega) h1) rfl ?_
  obtain ⟨hg3, h⟩ := zg_some h
  obtain ⟨hg4, h⟩ := zg_some h
  by_cases hc5 : (v3 + 1) < r2
  · rw [if_pos hc5] at h
    refine g_ic_ge_f 52 101 hM rfl rfl rfl hg3 hg4 hc5 ?_
    refine g_ldcS 54 hM rfl rfl rfl ?_
    refine g_iload_n 55 hM rfl rfl rfl ?_
    obtain ⟨r7, h6, h⟩ := zo_some h
    refine g_call 58 _ [.int (Int32.ofInt r7)] hM rfl rfl rfl rfl rfl (xM_245 _) rfl (z_rcv3 rfl) rfl rfl (by omega) (w_245 (by omega) h6) rfl ?_
    refine g_iload_n 59 hM rfl rfl rfl ?_
    obtain ⟨hg8, h⟩ := zg_some h
    obtain ⟨hg9, h⟩ := zg_some h
    by_cases hc10 : r7 = v1
    · rw [if_pos hc10] at h
      refine g_ic_ne_f 62 95 hM rfl rfl rfl hg8 hg9 hc10 ?_
      refine g_ldcS 64 hM rfl rfl rfl ?_
      refine g_iload_n 65 hM rfl rfl rfl ?_
      refine g_iconst 66 hM rfl rfl ?_
      refine g_iadd 67 hM rfl rfl ?_
      obtain ⟨r12, h11, h⟩ := zo_some h
      refine g_call 70 _ [.int (Int32.ofInt r12)] hM rfl rfl rfl rfl rfl (xM_245 _) rfl (z_rcv3 rfl) rfl rfl (by omega) (w_245 (by omega) h11) rfl ?_
      refine g_iload_n 71 hM rfl rfl rfl ?_
      obtain ⟨hg13, h⟩ := zg_some h
      obtain ⟨hg14, h⟩ := zg_some h
      by_cases hc15 : r12 = v2
      · rw [if_pos hc15] at h
        refine g_ic_ne_f 74 95 hM rfl rfl rfl hg13 hg14 hc15 ?_
        refine g_aload_n 75 hM rfl rfl rfl ?_
        refine g_bipush 77 hM rfl rfl rfl ?_
        refine g_iload_n 78 hM rfl rfl rfl ?_
        refine g_iconst 79 hM rfl rfl ?_
        obtain ⟨hg16, h⟩ := zg_some h
        refine g_idiv 80 hM rfl rfl hg16 ?_
        refine g_iadd 81 hM rfl rfl ?_
        refine g_putI 84 4 hM rfl rfl rfl rfl rfl rfl rfl ?_
        refine g_aload_n 85 hM rfl rfl rfl ?_
        refine g_dup 86 hM rfl rfl rfl ?_
        refine g_getI 89 2 (gI s 8 2) hM rfl rfl rfl rfl rfl rfl rfl ?_
        refine g_iconst 90 hM rfl rfl ?_
        refine g_iadd 91 hM rfl rfl ?_
        refine g_putI 94 2 hM rfl rfl rfl rfl rfl rfl rfl ?_
        cases h
        rw [show r = _ from hK]
        exact g_ret hM rfl rfl
      · rw [if_neg hc15] at h
        refine g_ic_ne_t 95 hM rfl rfl hg13 hg14 hc15 ?_
        refine g_iinc 98 hM rfl rfl rfl rfl ?_
        refine g_goto 41 hM rfl rfl ?_
        cases h
        exact g_lv [(0, .ref 8), (1, .int (Int32.ofInt v1)), (2, .int (Int32.ofInt v2)), (3, .int (Int32.ofInt (v3 + 2)))] rfl ⟨rfl, rfl, rfl, rfl, trivial⟩ hK
    · rw [if_neg hc10] at h
      refine g_ic_ne_t 95 hM rfl rfl hg8 hg9 hc10 ?_
      refine g_iinc 98 hM rfl rfl rfl rfl ?_
      refine g_goto 41 hM rfl rfl ?_
      cases h
      exact g_lv [(0, .ref 8), (1, .int (Int32.ofInt v1)), (2, .int (Int32.ofInt v2)), (3, .int (Int32.ofInt (v3 + 2)))] rfl ⟨rfl, rfl, rfl, rfl, trivial⟩ hK
  · rw [if_neg hc5] at h
    refine g_ic_ge_t 101 hM rfl rfl hg3 hg4 hc5 ?_
    cases h
    exact g_lv [(0, .ref 8), (1, .int (Int32.ofInt v1))] rfl ⟨rfl, rfl, trivial⟩ hK
theorem wl_68_41 {k : zK} {d : Nat} {x : am_H} {r : am_A × am_H} {v1 : Int} {v2 : Int} {n : Nat} {e : (Int × zS)} {t : ((zS) ⊕ (Unit × zS))} (hd : 4 ≤ d) (h : zlp (fun (q : Int × zS) => b_68_41 v1 v2 q.1 q.2) n e = some t) (hK : K_68_41 k d x r v1 v2 t) : G_68_41 k d x r v1 v2 e := zlp_go (G := fun e => G_68_41 k d x r v1 v2 e) (K := K_68_41 k d x r v1 v2) (fun e e1 h1 hg => wb_68_41 (q := .inl e1) hd h1 hg) (fun e t1 h1 hk => wb_68_41 (q := .inr t1) hd h1 hk) n e t h hK
/-- java/lang/String.isLatin1()Z -/
def f_246_906 : Option Int := some 1
theorem w_246_906 {k : zK} {d : Nat} {x : am_H} {s : zS} {q : Int} (hd : 0 ≤ d) (h : f_246_906 = some q) : zgo k d 246 (0, [(0, .ref (am_big + 6))], []) (hp s ++ x) (.inl (some (.int (Int32.ofInt q))), hp s ++ x) := by
  unfold f_246_906 at h
  have hM := xM_246 k.1
  refine g_getstI 3 1 hM rfl rfl rfl (by decide) ?_
  refine g_if_eq_f 6 17 hM rfl rfl rfl (zR_lit rfl) (by decide) ?_
  refine g_aload_n 7 hM rfl rfl rfl ?_
  refine g_kgetI 10 0 hM rfl rfl rfl rfl (by decide) ?_
  refine g_if_ne_f 13 17 hM rfl rfl rfl (zR_lit rfl) (by decide) ?_
  refine g_iconst 14 hM rfl rfl ?_
  refine g_goto 18 hM rfl rfl ?_
  cases h
  exact g_ret hM rfl rfl
/-- java/lang/String.coder()B -/
def f_244_906 : Option Int := some 0
theorem w_244_906 {k : zK} {d : Nat} {x : am_H} {s : zS} {q : Int} (hd : 0 ≤ d) (h : f_244_906 = some q) : zgo k d 244 (0, [(0, .ref (am_big + 6))], []) (hp s ++ x) (.inl (some (.int (Int32.ofInt q))), hp s ++ x) := by
  unfold f_244_906 at h
  have hM := xM_244 k.1
  refine g_getstI 3 1 hM rfl rfl rfl (by decide) ?_
  refine g_if_eq_f 6 13 hM rfl rfl rfl (zR_lit rfl) (by decide) ?_
  refine g_aload_n 7 hM rfl rfl rfl ?_
  refine g_kgetI 10 0 hM rfl rfl rfl rfl (by decide) ?_
  refine g_goto 14 hM rfl rfl ?_
  cases h
  exact g_ret hM rfl rfl
/-- java/lang/String.length()I -/
def f_243_906 : Option Int := zo (f_244_906) (fun r2 => zg ((0 : Int) ≤ 19 ∧ zR 19) (some (19 / 2 ^ zsh 0)))
theorem w_243_906 {k : zK} {d : Nat} {x : am_H} {s : zS} {q : Int} (hd : 1 ≤ d) (h : f_243_906 = some q) : zgo k d 243 (0, [(0, .ref (am_big + 6))], []) (hp s ++ x) (.inl (some (.int (Int32.ofInt q))), hp s ++ x) := by
  unfold f_243_906 at h
  have hM := xM_243 k.1
  refine g_aload_n 1 hM rfl rfl rfl ?_
  refine g_kgetR 4 hM rfl rfl rfl rfl ?_
  refine g_kalen7 5 hM rfl rfl ?_
  refine g_aload_n 6 hM rfl rfl rfl ?_
  obtain ⟨r2, h1, h⟩ := zo_some h
  have hqh1 : some 0 = some r2 := h1
  cases hqh1
  refine g_call 9 _ [.int (Int32.ofInt 0), .int (Int32.ofInt 19)] hM rfl rfl rfl rfl rfl (xM_244 _) rfl (z_rcv3 rfl) rfl rfl (by omega) (w_244_906 (by omega) h1) rfl ?_
  obtain ⟨hg3, h⟩ := zg_some h
  refine g_ishr 10 hM rfl rfl hg3 ?_
  cases h
  exact g_ret hM rfl rfl
/-- java/lang/StringLatin1.canEncode(I)Z -/
def f_257 (v0 : Int) : Option Int := zg (zR v0) (if v0 < 0 then (some 0) else (if 255 < v0 then (some 0) else (some 1)))
theorem w_257 {k : zK} {d : Nat} {x : am_H} {v0 : Int} {s : zS} {q : Int} (hd : 0 ≤ d) (h : f_257 v0 = some q) : zgo k d 257 (0, [(0, .int (Int32.ofInt v0))], []) (hp s ++ x) (.inl (some (.int (Int32.ofInt q))), hp s ++ x) := by
  unfold f_257 at h
  have hM := xM_257 k.1
  refine g_iload_n 1 hM rfl rfl rfl ?_
  obtain ⟨hg1, h⟩ := zg_some h
  by_cases hc2 : v0 < 0
  · rw [if_pos hc2] at h
    refine g_if_lt_t 15 hM rfl rfl hg1 hc2 ?_
    refine g_iconst 16 hM rfl rfl ?_
    cases h
    exact g_ret hM rfl rfl
  · rw [if_neg hc2] at h
    refine g_if_lt_f 4 15 hM rfl rfl rfl hg1 hc2 ?_
    refine g_iload_n 5 hM rfl rfl rfl ?_
    refine g_sipush 8 hM rfl rfl rfl ?_
    by_cases hc3 : 255 < v0
    · rw [if_pos hc3] at h
      refine g_ic_gt_t 15 hM rfl rfl hg1 (zR_lit rfl) hc3 ?_
      refine g_iconst 16 hM rfl rfl ?_
      cases h
      exact g_ret hM rfl rfl
    · rw [if_neg hc3] at h
      refine g_ic_gt_f 11 15 hM rfl rfl rfl hg1 (zR_lit rfl) hc3 ?_
      refine g_iconst 12 hM rfl rfl ?_
      refine g_goto 16 hM rfl rfl ?_
      cases h
      exact g_ret hM rfl rfl
def G_258_7 (k : zK) (d : Nat) (x : am_H) (r : am_A × am_H) (v3 : Int) (v4 : Int) (s : zS) (e : (Int)) : Prop := zgo k d 258 (7, [(0, .ref (am_big + 7)), (3, .int (Int32.ofInt v3)), (4, .int (Int32.ofInt v4)), (5, .int (Int32.ofInt e))], []) (hp s ++ x) r
def K_258_7 (k : zK) (d : Nat) (x : am_H) (r : am_A × am_H) (v3 : Int) (v4 : Int) (s : zS) (t : ((Unit) ⊕ Int)) : Prop := Sum.elim (fun e => zgo k d 258 (31, [], []) (hp s ++ x) r) (fun q => r = (.inl (some (.int (Int32.ofInt q))), hp s ++ x)) t
def b_258_7 (v3 : Int) (v4 : Int) (s : zS) (v5 : Int) : Option ((Int) ⊕ ((Unit) ⊕ Int)) := zg (zR v5) (zg (zR v3) (if v5 < v3 then (zg (0 ≤ v5 ∧ v5 < 19) (zg (zR v4) (if (zst1 v5) = v4 then (some (.inr (.inr v5))) else (some (.inl (v5 + 1)))))) else (some (.inr (.inl ())))))
theorem wb_258_7 {k : zK} {d : Nat} {x : am_H} {r : am_A × am_H} {v3 : Int} {v4 : Int} {v5 : Int} {s : zS} {q : (Int) ⊕ ((Unit) ⊕ Int)} (hd : 0 ≤ d) (h : b_258_7 v3 v4 s v5 = some q) (hK : Sum.elim (G_258_7 k d x r v3 v4 s) (K_258_7 k d x r v3 v4 s) q) : G_258_7 k d x r v3 v4 s v5 := by
  unfold b_258_7 at h
  have hM := xM_258 k.1
  show zgo k d 258 (7, [(0, .ref (am_big + 7)), (3, .int (Int32.ofInt v3)), (4, .int (Int32.ofInt v4)), (5, .int (Int32.ofInt v5))], []) (hp s ++ x) r
  refine g_iload 9 hM rfl rfl rfl ?_
  refine g_iload_n 10 hM rfl rfl rfl ?_
  obtain ⟨hg1, h⟩ := zg_some h
  obtain ⟨hg2, h⟩ := zg_some h
  by_cases hc3 : v5 < v3
  · rw [if_pos hc3] at h
    refine g_ic_ge_f 13 31 hM rfl rfl rfl hg1 hg2 hc3 ?_
    refine g_aload_n 14 hM rfl rfl rfl ?_
    refine g_iload 16 hM rfl rfl rfl ?_
    obtain ⟨hg4, h⟩ := zg_some h
    refine g_kbaload7 17 hM rfl rfl hg4 ?_
    refine g_iload 19 hM rfl rfl rfl ?_
    obtain ⟨hg5, h⟩ := zg_some h
    by_cases hc6 : (zst1 v5) = v4
    · rw [if_pos hc6] at h
      refine g_ic_ne_f 22 25 hM rfl rfl rfl (zR_toInt _) hg5 hc6 ?_
      refine g_iload 24 hM rfl rfl rfl ?_
      cases h
      rw [show r = _ from hK]
      exact g_ret hM rfl rfl
    · rw [if_neg hc6] at h
      refine g_ic_ne_t 25 hM rfl rfl (zR_toInt _) hg5 hc6 ?_
      refine g_iinc 28 hM rfl rfl rfl rfl ?_
      refine g_goto 7 hM rfl rfl ?_
      cases h
      exact g_lv [(0, .ref (am_big + 7)), (3, .int (Int32.ofInt v3)), (4, .int (Int32.ofInt v4)), (5, .int (Int32.ofInt (v5 + 1)))] rfl ⟨rfl, rfl, rfl, rfl, trivial⟩ hK
  · rw [if_neg hc3] at h
    refine g_ic_ge_t 31 hM rfl rfl hg1 hg2 hc3 ?_
    cases h
    exact g_lv [] rfl trivial hK
theorem wl_258_7 {k : zK} {d : Nat} {x : am_H} {r : am_A × am_H} {v3 : Int} {v4 : Int} {s : zS} {n : Nat} {e : (Int)} {t : ((Unit) ⊕ Int)} (hd : 0 ≤ d) (h : zlp (fun (q : Int) => b_258_7 v3 v4 s q) n e = some t) (hK : K_258_7 k d x r v3 v4 s t) : G_258_7 k d x r v3 v4 s e := zlp_go (G := fun e => G_258_7 k d x r v3 v4 s e) (K := K_258_7 k d x r v3 v4 s) (fun e e1 h1 hg => wb_258_7 (q := .inl e1) hd h1 hg) (fun e t1 h1 hk => wb_258_7 (q := .inr t1) hd h1 hk) n e t h hK
/-- java/lang/StringLatin1.indexOfChar([BIII)I -/
def f_258 (v1 : Int) (v2 : Int) (v3 : Int) (s : zS) : Option Int := zo (zlp (fun (q : Int) => b_258_7 v3 (Int.bmod v1 256) s q) zF v2) (fun e1 => Sum.elim (fun e3 => some (-1)) (fun q4 => some q4) e1)
theorem w_258 {k : zK} {d : Nat} {x : am_H} {v1 : Int} {v2 : Int} {v3 : Int} {s : zS} {q : Int} (hd : 0 ≤ d) (h : f_258 v1 v2 v3 s = some q) : zgo k d 258 (0, [(0, .ref (am_big + 7)), (1, .int (Int32.ofInt v1)), (2, .int (Int32.ofInt v2)), (3, .int (Int32.ofInt v3))], []) (hp s ++ x) (.inl (some (.int (Int32.ofInt q))), hp s ++ x) := by
  unfold f_258 at h
  have hM := xM_258 k.1
  refine g_iload_n 1 hM rfl rfl rfl ?_
  refine g_i2b 2 hM rfl rfl ?_
  refine g_istore 4 hM rfl rfl rfl ?_
  refine g_iload_n 5 hM rfl rfl rfl ?_
  refine g_istore 7 hM rfl rfl rfl ?_
  obtain ⟨e1, h2, h⟩ := zo_some h
  refine g_lv [(0, .ref (am_big + 7)), (3, .int (Int32.ofInt v3)), (4, .int (Int32.ofInt (Int.bmod v1 256))), (5, .int (Int32.ofInt v2))] rfl ⟨rfl, rfl, rfl, rfl, trivial⟩ ?_
  refine wl_258_7 (by omega) h2 ?_
  rcases e1 with e3 | q4
  · simp only [ze_l] at h
    show zgo k d 258 (31, [], []) (hp s ++ x) (.inl (some (.int (Int32.ofInt q))), hp s ++ x)
    refine g_iconst 32 hM rfl rfl ?_
    cases h
    exact g_ret hM rfl rfl
  · cases h
    rfl
/-- java/lang/StringLatin1.indexOf([BIII)I -/
def f_256 (v1 : Int) (v2 : Int) (v3 : Int) (s : zS) : Option Int := zo (f_257 v1) (fun r2 => zg (zR r2) (if r2 = 0 then (some (-1)) else (zg (zR v2) (zg (zR v3) (zg (zR (zmax v2 0)) (zg (zR (zmin v3 19)) (if (zmax v2 0) < (zmin v3 19) then (zo (f_258 v1 (zmax v2 0) (zmin v3 19) s) (fun r11 => some r11)) else (some (-1)))))))))
theorem w_256 {k : zK} {d : Nat} {x : am_H} {v1 : Int} {v2 : Int} {v3 : Int} {s : zS} {q : Int} (hd : 1 ≤ d) (h : f_256 v1 v2 v3 s = some q) : zgo k d 256 (0, [(0, .ref (am_big + 7)), (1, .int (Int32.ofInt v1)), (2, .int (Int32.ofInt v2)), (3, .int (Int32.ofInt v3))], []) (hp s ++ x) (.inl (some (.int (Int32.ofInt q))), hp s ++ x) := by
  unfold f_256 at h
  have hM := xM_256 k.1
  refine g_iload_n 1 hM rfl rfl rfl ?_
  obtain ⟨r2, h1, h⟩ := zo_some h
  refine g_call 4 _ [.int (Int32.ofInt r2)] hM rfl rfl rfl rfl rfl (xM_257 _) rfl rfl rfl rfl (by omega) (w_257 (by omega) h1) rfl ?_
  obtain ⟨hg3, h⟩ := zg_some h
  by_cases hc4 : r2 = 0
  · rw [if_pos hc4] at h
    refine g_if_ne_f 7 9 hM rfl rfl rfl hg3 hc4 ?_
    refine g_iconst 8 hM rfl rfl ?_
    cases h
    exact g_ret hM rfl rfl
  · rw [if_neg hc4] at h
    refine g_if_ne_t 9 hM rfl rfl hg3 hc4 ?_
    refine g_iload_n 10 hM rfl rfl rfl ?_
    refine g_iconst 11 hM rfl rfl ?_
    obtain ⟨hg5, h⟩ := zg_some h
    refine g_max 14 hM rfl (fun _ => rfl) rfl rfl rfl hg5 (zR_lit rfl) rfl (by omega) ?_
    refine g_istore_n 15 hM rfl rfl rfl ?_
    refine g_iload_n 16 hM rfl rfl rfl ?_
    refine g_aload_n 17 hM rfl rfl rfl ?_
    refine g_kalen7 18 hM rfl rfl ?_
    obtain ⟨hg6, h⟩ := zg_some h
    refine g_min 21 hM rfl (fun _ => rfl) rfl rfl rfl hg6 (zR_lit rfl) rfl (by omega) ?_
    refine g_istore_n 22 hM rfl rfl rfl ?_
    refine g_iload_n 23 hM rfl rfl rfl ?_
    refine g_iload_n 24 hM rfl rfl rfl ?_
    obtain ⟨hg7, h⟩ := zg_some h
    obtain ⟨hg8, h⟩ := zg_some h
    by_cases hc9 : (zmax v2 0) < (zmin v3 19)
    · rw [if_pos hc9] at h
      refine g_ic_lt_t 29 hM rfl rfl hg7 hg8 hc9 ?_
      refine g_aload_n 30 hM rfl rfl rfl ?_
      refine g_iload_n 31 hM rfl rfl rfl ?_
      refine g_iload_n 32 hM rfl rfl rfl ?_
      refine g_iload_n 33 hM rfl rfl rfl ?_
      obtain ⟨r11, h10, h⟩ := zo_some h
      refine g_call 36 _ [.int (Int32.ofInt r11)] hM rfl rfl rfl rfl rfl (xM_258 _) rfl rfl rfl rfl (by omega) (w_258 (by omega) h10) rfl ?_
      cases h
      exact g_ret hM rfl rfl
    · rw [if_neg hc9] at h
      refine g_ic_lt_f 27 29 hM rfl rfl rfl hg7 hg8 hc9 ?_
      refine g_iconst 28 hM rfl rfl ?_
      cases h
      exact g_ret hM rfl rfl
/-- java/lang/String.indexOf(II)I -/
def f_255 (v1 : Int) (v2 : Int) (s : zS) : Option Int := zo (f_246_906) (fun r2 => zo (f_243_906) (fun r4 => zo (f_256 v1 v2 r4 s) (fun r6 => some r6)))
theorem w_255 {k : zK} {d : Nat} {x : am_H} {v1 : Int} {v2 : Int} {s : zS} {q : Int} (hd : 2 ≤ d) (h : f_255 v1 v2 s = some q) : zgo k d 255 (0, [(0, .ref (am_big + 6)), (1, .int (Int32.ofInt v1)), (2, .int (Int32.ofInt v2))], []) (hp s ++ x) (.inl (some (.int (Int32.ofInt q))), hp s ++ x) := by
  unfold f_255 at h
  have hM := xM_255 k.1
  refine g_aload_n 1 hM rfl rfl rfl ?_
  obtain ⟨r2, h1, h⟩ := zo_some h
  have hqh1 : some 1 = some r2 := h1
  cases hqh1
  refine g_call 4 _ [.int (Int32.ofInt 1)] hM rfl rfl rfl rfl rfl (xM_246 _) rfl (z_rcv3 rfl) rfl rfl (by omega) (w_246_906 (by omega) h1) rfl ?_
  refine g_if_eq_f 7 23 hM rfl rfl rfl (zR_lit rfl) (by decide) ?_
  refine g_aload_n 8 hM rfl rfl rfl ?_
  refine g_kgetR 11 hM rfl rfl rfl rfl ?_
  refine g_iload_n 12 hM rfl rfl rfl ?_
  refine g_iload_n 13 hM rfl rfl rfl ?_
  refine g_aload_n 14 hM rfl rfl rfl ?_
  obtain ⟨r4, h3, h⟩ := zo_some h
  refine g_call 17 _ [.int (Int32.ofInt r4), .int (Int32.ofInt v2), .int (Int32.ofInt v1), .ref (am_big + 7)] hM rfl rfl rfl rfl rfl (xM_243 _) rfl (z_rcv3 rfl) rfl rfl (by omega) (w_243_906 (by omega) h3) rfl ?_
  obtain ⟨r6, h5, h⟩ := zo_some h
  refine g_call 20 _ [.int (Int32.ofInt r6)] hM rfl rfl rfl rfl rfl (xM_256 _) rfl rfl rfl rfl (by omega) (w_256 (by omega) h5) rfl ?_
  refine g_goto 36 hM rfl rfl ?_
  cases h
  exact g_ret hM rfl rfl
/-- java/lang/String.indexOf(I)I -/
def f_254 (v1 : Int) (s : zS) : Option Int := zo (f_255 v1 0 s) (fun r2 => some r2)
theorem w_254 {k : zK} {d : Nat} {x : am_H} {v1 : Int} {s : zS} {q : Int} (hd : 3 ≤ d) (h : f_254 v1 s = some q) : zgo k d 254 (0, [(0, .ref (am_big + 6)), (1, .int (Int32.ofInt v1))], []) (hp s ++ x) (.inl (some (.int (Int32.ofInt q))), hp s ++ x) := by
  unfold f_254 at h
  have hM := xM_254 k.1
  refine g_aload_n 1 hM rfl rfl rfl ?_
  refine g_iload_n 2 hM rfl rfl rfl ?_
  refine g_iconst 3 hM rfl rfl ?_
  obtain ⟨r2, h1, h⟩ := zo_some h
  refine g_call 6 _ [.int (Int32.ofInt r2)] hM rfl rfl rfl rfl rfl (xM_255 _) rfl (z_rcv3 rfl) rfl rfl (by omega) (w_255 (by omega) h1) rfl ?_
  cases h
  exact g_ret hM rfl rfl
def j_68_38 (v1 : Int) (t0 : Int) (s : zS) : Option (Unit × zS) := zo (zlp (fun (q : Int × zS) => b_68_41 v1 t0 q.1 q.2) zF (0, s)) (fun e1 => Sum.elim (fun e3 => zo (f_254 (v1 % 65536) e3) (fun r6 => zg (zR r6) (if r6 < 0 then (some ((), (sI (sI e3 8 4 1) 8 2 ((gI e3 8 2) + 1)))) else (some ((), (sI (sI e3 8 4 (24 + r6)) 8 2 ((gI e3 8 2) + 1))))))) (fun q4 => some q4) e1)
theorem wj_68_38 {k : zK} {d : Nat} {x : am_H} {v1 : Int} {t0 : Int} {s : zS} {q : (Unit × zS)} (hd : 4 ≤ d) (h : j_68_38 v1 t0 s = some q) : zgo k d 68 (38, [(0, .ref 8), (1, .int (Int32.ofInt v1))], [.int (Int32.ofInt t0)]) (hp s ++ x) (.inl (none), hp q.2 ++ x) := by
  unfold j_68_38 at h
  have hM := xM_68 k.1
  refine g_istore_n 39 hM rfl rfl rfl ?_
  refine g_iconst 40 hM rfl rfl ?_
  refine g_istore_n 41 hM rfl rfl rfl ?_
  obtain ⟨e1, h2, h⟩ := zo_some h
  refine g_lv [(0, .ref 8), (1, .int (Int32.ofInt v1)), (2, .int (Int32.ofInt t0)), (3, .int (Int32.ofInt 0))] rfl ⟨rfl, rfl, rfl, rfl, trivial⟩ ?_
  refine wl_68_41 (by omega) h2 ?_
  rcases e1 with e3 | q4
  · simp only [ze_l] at h
    show zgo k d 68 (101, [(0, .ref 8), (1, .int (Int32.ofInt v1))], []) (hp e3 ++ x) (.inl (none), hp q.2 ++ x)
    refine g_ldcS 103 hM rfl rfl rfl ?_
    refine g_iload_n 104 hM rfl rfl rfl ?_
    refine g_i2c 105 hM rfl rfl ?_
    obtain ⟨r6, h5, h⟩ := zo_some h
    refine g_call 108 _ [.int (Int32.ofInt r6)] hM rfl rfl rfl rfl rfl (xM_254 _) rfl (z_rcv3 rfl) rfl rfl (by omega) (w_254 (by omega) h5) rfl ?_
    refine g_istore_n 109 hM rfl rfl rfl ?_
    refine g_aload_n 110 hM rfl rfl rfl ?_
    refine g_iload_n 111 hM rfl rfl rfl ?_
    obtain ⟨hg7, h⟩ := zg_some h
    by_cases hc8 : r6 < 0
    · rw [if_pos hc8] at h
      refine g_if_ge_f 114 118 hM rfl rfl rfl hg7 hc8 ?_
      refine g_iconst 115 hM rfl rfl ?_
      refine g_goto 122 hM rfl rfl ?_
      refine g_putI 125 4 hM rfl rfl rfl rfl rfl rfl rfl ?_
      refine g_aload_n 126 hM rfl rfl rfl ?_
      refine g_dup 127 hM rfl rfl rfl ?_
      refine g_getI 130 2 (gI e3 8 2) hM rfl rfl rfl rfl rfl rfl rfl ?_
      refine g_iconst 131 hM rfl rfl ?_
      refine g_iadd 132 hM rfl rfl ?_
      refine g_putI 135 2 hM rfl rfl rfl rfl rfl rfl rfl ?_
      cases h
      exact g_ret hM rfl rfl
    · rw [if_neg hc8] at h
      refine g_if_ge_t 118 hM rfl rfl hg7 hc8 ?_
      refine g_bipush 120 hM rfl rfl rfl ?_
      refine g_iload_n 121 hM rfl rfl rfl ?_
      refine g_iadd 122 hM rfl rfl ?_
      refine g_putI 125 4 hM rfl rfl rfl rfl rfl rfl rfl ?_
      refine g_aload_n 126 hM rfl rfl rfl ?_
      refine g_dup 127 hM rfl rfl rfl ?_
      refine g_getI 130 2 (gI e3 8 2) hM rfl rfl rfl rfl rfl rfl rfl ?_
      refine g_iconst 131 hM rfl rfl ?_
      refine g_iadd 132 hM rfl rfl ?_
      refine g_putI 135 2 hM rfl rfl rfl rfl rfl rfl rfl ?_
      cases h
      exact g_ret hM rfl rfl
  · cases h
    rfl
/-- RelationFinder$Tape.readSign()V -/
def f_68 (s : zS) : Option (Unit × zS) := zg (0 ≤ (gI s 8 2) ∧ (gI s 8 2) < 600) (zg (zR ((gI s 8 2) + 1)) (if ((gI s 8 2) + 1) < (gI s 8 1) then (zg (0 ≤ ((gI s 8 2) + 1) ∧ ((gI s 8 2) + 1) < 600) (j_68_38 (gI s 9 (gI s 8 2)) (gI s 9 ((gI s 8 2) + 1)) s)) else (j_68_38 (gI s 9 (gI s 8 2)) 0 s)))
theorem w_68 {k : zK} {d : Nat} {x : am_H} {s : zS} {q : (Unit × zS)} (hd : 4 ≤ d) (h : f_68 s = some q) : zgo k d 68 (0, [(0, .ref 8)], []) (hp s ++ x) (.inl (none), hp q.2 ++ x) := by
  unfold f_68 at h
  have hM := xM_68 k.1
  refine g_aload_n 1 hM rfl rfl rfl ?_
  refine g_getF 4 hM rfl rfl rfl rfl rfl ?_
  refine g_aload_n 5 hM rfl rfl rfl ?_
  refine g_getI 8 2 (gI s 8 2) hM rfl rfl rfl rfl rfl rfl rfl ?_
  obtain ⟨hg1, h⟩ := zg_some h
  refine g_iaload 9 (gI s 9 (gI s 8 2)) hM rfl rfl rfl rfl hg1 rfl ?_
  refine g_istore_n 10 hM rfl rfl rfl ?_
  refine g_aload_n 11 hM rfl rfl rfl ?_
  refine g_getI 14 2 (gI s 8 2) hM rfl rfl rfl rfl rfl rfl rfl ?_
  refine g_iconst 15 hM rfl rfl ?_
  refine g_iadd 16 hM rfl rfl ?_
  refine g_aload_n 17 hM rfl rfl rfl ?_
  refine g_getI 20 1 (gI s 8 1) hM rfl rfl rfl rfl rfl rfl rfl ?_
  obtain ⟨hg2, h⟩ := zg_some h
  by_cases hc3 : ((gI s 8 2) + 1) < (gI s 8 1)
  · rw [if_pos hc3] at h
    refine g_ic_ge_f 23 37 hM rfl rfl rfl hg2 (zR_gI _ _ _) hc3 ?_
    refine g_aload_n 24 hM rfl rfl rfl ?_
    refine g_getF 27 hM rfl rfl rfl rfl rfl ?_
    refine g_aload_n 28 hM rfl rfl rfl ?_
    refine g_getI 31 2 (gI s 8 2) hM rfl rfl rfl rfl rfl rfl rfl ?_
    refine g_iconst 32 hM rfl rfl ?_
    refine g_iadd 33 hM rfl rfl ?_
    obtain ⟨hg4, h⟩ := zg_some h
    refine g_iaload 34 (gI s 9 ((gI s 8 2) + 1)) hM rfl rfl rfl rfl hg4 rfl ?_
    refine g_goto 38 hM rfl rfl ?_
    refine g_lv [(0, .ref 8), (1, .int (Int32.ofInt (gI s 9 (gI s 8 2))))] rfl ⟨rfl, rfl, trivial⟩ ?_
    exact wj_68_38 (by omega) h
  · rw [if_neg hc3] at h
    refine g_ic_ge_t 37 hM rfl rfl hg2 (zR_gI _ _ _) hc3 ?_
    refine g_iconst 38 hM rfl rfl ?_
    refine g_lv [(0, .ref 8), (1, .int (Int32.ofInt (gI s 9 (gI s 8 2))))] rfl ⟨rfl, rfl, trivial⟩ ?_
    exact wj_68_38 (by omega) h
def G_67_5 (k : zK) (d : Nat) (x : am_H) (r : am_A × am_H) (e : (zS)) : Prop := zgo k d 67 (5, [(0, .ref 8)], []) (hp e ++ x) r
def K_67_5 (k : zK) (d : Nat) (x : am_H) (r : am_A × am_H) (t : (zS)) : Prop := zgo k d 67 (68, [(0, .ref 8)], []) (hp t ++ x) r
def b_67_5 (s : zS) : Option ((zS) ⊕ (zS)) := if (gI s 8 2) < (gI s 8 1) then (zg (0 ≤ (gI s 8 2) ∧ (gI s 8 2) < 600) (zo (f_20 (gI s 9 (gI s 8 2))) (fun r4 => zg (zR r4) (if r4 = 0 then (some (.inr s)) else (some (.inl (sI (sI s 8 7 ((((gI s 8 7) * 10) + (gI s 9 (gI s 8 2))) - 48)) 8 2 ((gI s 8 2) + 1)))))))) else (some (.inr s))
theorem wb_67_5 {k : zK} {d : Nat} {x : am_H} {r : am_A × am_H} {s : zS} {q : (zS) ⊕ (zS)} (hd : 1 ≤ d) (h : b_67_5 s = some q) (hK : Sum.elim (G_67_5 k d x r) (K_67_5 k d x r) q) : G_67_5 k d x r s := by
  unfold b_67_5 at h
  have hM := xM_67 k.1
  show zgo k d 67 (5, [(0, .ref 8)], []) (hp s ++ x) r
  refine g_aload_n 6 hM rfl rfl rfl ?_
  refine g_getI 9 2 (gI s 8 2) hM rfl rfl rfl rfl rfl rfl rfl ?_
  refine g_aload_n 10 hM rfl rfl rfl ?_
  refine g_getI 13 1 (gI s 8 1) hM rfl rfl rfl rfl rfl rfl rfl ?_
  by_cases hc1 : (gI s 8 2) < (gI s 8 1)
  · rw [if_pos hc1] at h
    refine g_ic_ge_f 16 68 hM rfl rfl rfl (zR_gI _ _ _) (zR_gI _ _ _) hc1 ?_
    refine g_aload_n 17 hM rfl rfl rfl ?_
    refine g_getF 20 hM rfl rfl rfl rfl rfl ?_
    refine g_aload_n 21 hM rfl rfl rfl ?_
    refine g_getI 24 2 (gI s 8 2) hM rfl rfl rfl rfl rfl rfl rfl ?_
    obtain ⟨hg2, h⟩ := zg_some h
    refine g_iaload 25 (gI s 9 (gI s 8 2)) hM rfl rfl rfl rfl hg2 rfl ?_
    obtain ⟨r4, h3, h⟩ := zo_some h
    refine g_call 28 _ [.int (Int32.ofInt r4)] hM rfl rfl rfl rfl rfl (xM_20 _) rfl rfl rfl rfl (by omega) (w_20 (by omega) h3) rfl ?_
    obtain ⟨hg5, h⟩ := zg_some h
    by_cases hc6 : r4 = 0
    · rw [if_pos hc6] at h
      refine g_if_eq_t 68 hM rfl rfl hg5 hc6 ?_
      cases h
      exact g_lv [(0, .ref 8)] rfl ⟨rfl, trivial⟩ hK
    · rw [if_neg hc6] at h
      refine g_if_eq_f 31 68 hM rfl rfl rfl hg5 hc6 ?_
      refine g_aload_n 32 hM rfl rfl rfl ?_
      refine g_aload_n 33 hM rfl rfl rfl ?_
      refine g_getI 36 7 (gI s 8 7) hM rfl rfl rfl rfl rfl rfl rfl ?_
      refine g_bipush 38 hM rfl rfl rfl ?_
      refine g_imul 39 hM rfl rfl ?_
      refine g_aload_n 40 hM rfl rfl rfl ?_
      refine g_getF 43 hM rfl rfl rfl rfl rfl ?_
      refine g_aload_n 44 hM rfl rfl rfl ?_
      refine g_getI 47 2 (gI s 8 2) hM rfl rfl rfl rfl rfl rfl rfl ?_
      refine g_iaload 48 (gI s 9 (gI s 8 2)) hM rfl rfl rfl rfl hg2 rfl ?_
      refine g_iadd 49 hM rfl rfl ?_
      refine g_bipush 51 hM rfl rfl rfl ?_
      refine g_isub 52 hM rfl rfl ?_
      refine g_putI 55 7 hM rfl rfl rfl rfl rfl rfl rfl ?_
      refine g_aload_n 56 hM rfl rfl rfl ?_
      refine g_dup 57 hM rfl rfl rfl ?_
      refine g_getI 60 2 (gI s 8 2) hM rfl rfl rfl rfl rfl rfl rfl ?_
      refine g_iconst 61 hM rfl rfl ?_
      refine g_iadd 62 hM rfl rfl ?_
      refine g_putI 65 2 hM rfl rfl rfl rfl rfl rfl rfl ?_
      refine g_goto 5 hM rfl rfl ?_
      cases h
      exact g_lv [(0, .ref 8)] rfl ⟨rfl, trivial⟩ hK
  · rw [if_neg hc1] at h
    refine g_ic_ge_t 68 hM rfl rfl (zR_gI _ _ _) (zR_gI _ _ _) hc1 ?_
    cases h
    exact g_lv [(0, .ref 8)] rfl ⟨rfl, trivial⟩ hK
theorem wl_67_5 {k : zK} {d : Nat} {x : am_H} {r : am_A × am_H} {n : Nat} {e : (zS)} {t : (zS)} (hd : 1 ≤ d) (h : zlp (fun (q : zS) => b_67_5 q) n e = some t) (hK : K_67_5 k d x r t) : G_67_5 k d x r e := zlp_go (G := fun e => G_67_5 k d x r e) (K := K_67_5 k d x r) (fun e e1 h1 hg => wb_67_5 (q := .inl e1) hd h1 hg) (fun e t1 h1 hk => wb_67_5 (q := .inr t1) hd h1 hk) n e t h hK
/-- RelationFinder$Tape.readNumber()V -/
def f_67 (s : zS) : Option (Unit × zS) := zo (zlp (fun (q : zS) => b_67_5 q) zF (sI s 8 7 0)) (fun e1 => zg (zR ((gI e1 8 2) - (gI e1 8 5))) (if 3 < ((gI e1 8 2) - (gI e1 8 5)) then (some ((), (sI e1 8 4 1))) else (some ((), (sI e1 8 4 3)))))
theorem w_67 {k : zK} {d : Nat} {x : am_H} {s : zS} {q : (Unit × zS)} (hd : 1 ≤ d) (h : f_67 s = some q) : zgo k d 67 (0, [(0, .ref 8)], []) (hp s ++ x) (.inl (none), hp q.2 ++ x) := by
  unfold f_67 at h
  have hM := xM_67 k.1
  refine g_aload_n 1 hM rfl rfl rfl ?_
  refine g_iconst 2 hM rfl rfl ?_
  refine g_putI 5 7 hM rfl rfl rfl rfl rfl rfl rfl ?_
  obtain ⟨e1, h2, h⟩ := zo_some h
  refine g_lv [(0, .ref 8)] rfl ⟨rfl, trivial⟩ ?_
  refine wl_67_5 (by omega) h2 ?_
  show zgo k d 67 (68, [(0, .ref 8)], []) (hp e1 ++ x) (.inl (none), hp q.2 ++ x)
  refine g_aload_n 69 hM rfl rfl rfl ?_
  refine g_aload_n 70 hM rfl rfl rfl ?_
  refine g_getI 73 2 (gI e1 8 2) hM rfl rfl rfl rfl rfl rfl rfl ?_
  refine g_aload_n 74 hM rfl rfl rfl ?_
  refine g_getI 77 5 (gI e1 8 5) hM rfl rfl rfl rfl rfl rfl rfl ?_
  refine g_isub 78 hM rfl rfl ?_
  refine g_iconst 79 hM rfl rfl ?_
  obtain ⟨hg3, h⟩ := zg_some h
  by_cases hc4 : 3 < ((gI e1 8 2) - (gI e1 8 5))
  · rw [if_pos hc4] at h
    refine g_ic_gt_t 86 hM rfl rfl hg3 (zR_lit rfl) hc4 ?_
    refine g_iconst 87 hM rfl rfl ?_
    refine g_putI 90 4 hM rfl rfl rfl rfl rfl rfl rfl ?_
    cases h
    exact g_ret hM rfl rfl
  · rw [if_neg hc4] at h
    refine g_ic_gt_f 82 86 hM rfl rfl rfl hg3 (zR_lit rfl) hc4 ?_
    refine g_iconst 83 hM rfl rfl ?_
    refine g_goto 87 hM rfl rfl ?_
    refine g_putI 90 4 hM rfl rfl rfl rfl rfl rfl rfl ?_
    cases h
    exact g_ret hM rfl rfl
def G_65_2 (k : zK) (d : Nat) (x : am_H) (r : am_A × am_H) (s : zS) (e : (Int)) : Prop := zgo k d 65 (2, [(0, .ref 8), (2, .int (Int32.ofInt e))], []) (hp s ++ x) r
def K_65_2 (k : zK) (d : Nat) (x : am_H) (r : am_A × am_H) (s : zS) (t : (Int)) : Prop := zgo k d 65 (28, [(2, .int (Int32.ofInt t))], []) (hp s ++ x) r
def b_65_2 (s : zS) (v2 : Int) : Option ((Int) ⊕ (Int)) := zg (zR v2) (if v2 < (gI s 8 1) then (zg (0 ≤ v2 ∧ v2 < 600) (zo (f_18 (gI s 9 v2)) (fun r5 => zg (zR r5) (if r5 = 0 then (some (.inr v2)) else (some (.inl (v2 + 1))))))) else (some (.inr v2)))
theorem wb_65_2 {k : zK} {d : Nat} {x : am_H} {r : am_A × am_H} {v2 : Int} {s : zS} {q : (Int) ⊕ (Int)} (hd : 1 ≤ d) (h : b_65_2 s v2 = some q) (hK : Sum.elim (G_65_2 k d x r s) (K_65_2 k d x r s) q) : G_65_2 k d x r s v2 := by
  unfold b_65_2 at h
  have hM := xM_65 k.1
  show zgo k d 65 (2, [(0, .ref 8), (2, .int (Int32.ofInt v2))], []) (hp s ++ x) r
  refine g_iload_n 3 hM rfl rfl rfl ?_
  refine g_aload_n 4 hM rfl rfl rfl ?_
  refine g_getI 7 1 (gI s 8 1) hM rfl rfl rfl rfl rfl rfl rfl ?_
  obtain ⟨hg1, h⟩ := zg_some h
  by_cases hc2 : v2 < (gI s 8 1)
  · rw [if_pos hc2] at h
    refine g_ic_ge_f 10 28 hM rfl rfl rfl hg1 (zR_gI _ _ _) hc2 ?_
    refine g_aload_n 11 hM rfl rfl rfl ?_
    refine g_getF 14 hM rfl rfl rfl rfl rfl ?_
    refine g_iload_n 15 hM rfl rfl rfl ?_
    obtain ⟨hg3, h⟩ := zg_some h
    refine g_iaload 16 (gI s 9 v2) hM rfl rfl rfl rfl hg3 rfl ?_
    obtain ⟨r5, h4, h⟩ := zo_some h
    refine g_call 19 _ [.int (Int32.ofInt r5)] hM rfl rfl rfl rfl rfl (xM_18 _) rfl rfl rfl rfl (by omega) (w_18 (by omega) h4) rfl ?_
    obtain ⟨hg6, h⟩ := zg_some h
    by_cases hc7 : r5 = 0
    · rw [if_pos hc7] at h
      refine g_if_eq_t 28 hM rfl rfl hg6 hc7 ?_
      cases h
      exact g_lv [(2, .int (Int32.ofInt v2))] rfl ⟨rfl, trivial⟩ hK
    · rw [if_neg hc7] at h
      refine g_if_eq_f 22 28 hM rfl rfl rfl hg6 hc7 ?_
      refine g_iinc 25 hM rfl rfl rfl rfl ?_
      refine g_goto 2 hM rfl rfl ?_
      cases h
      exact g_lv [(0, .ref 8), (2, .int (Int32.ofInt (v2 + 1)))] rfl ⟨rfl, rfl, trivial⟩ hK
  · rw [if_neg hc2] at h
    refine g_ic_ge_t 28 hM rfl rfl hg1 (zR_gI _ _ _) hc2 ?_
    cases h
    exact g_lv [(2, .int (Int32.ofInt v2))] rfl ⟨rfl, trivial⟩ hK
theorem wl_65_2 {k : zK} {d : Nat} {x : am_H} {r : am_A × am_H} {s : zS} {n : Nat} {e : (Int)} {t : (Int)} (hd : 1 ≤ d) (h : zlp (fun (q : Int) => b_65_2 s q) n e = some t) (hK : K_65_2 k d x r s t) : G_65_2 k d x r s e := zlp_go (G := fun e => G_65_2 k d x r s e) (K := K_65_2 k d x r s) (fun e e1 h1 hg => wb_65_2 (q := .inl e1) hd h1 hg) (fun e t1 h1 hk => wb_65_2 (q := .inr t1) hd h1 hk) n e t h hK
/-- RelationFinder$Tape.lettersEnd(I)I -/
def f_65 (v1 : Int) (s : zS) : Option Int := zo (zlp (fun (q : Int) => b_65_2 s q) zF v1) (fun e1 => some e1)
theorem w_65 {k : zK} {d : Nat} {x : am_H} {v1 : Int} {s : zS} {q : Int} (hd : 1 ≤ d) (h : f_65 v1 s = some q) : zgo k d 65 (0, [(0, .ref 8), (1, .int (Int32.ofInt v1))], []) (hp s ++ x) (.inl (some (.int (Int32.ofInt q))), hp s ++ x) := by
  unfold f_65 at h
  have hM := xM_65 k.1
  refine g_iload_n 1 hM rfl rfl rfl ?_
  refine g_istore_n 2 hM rfl rfl rfl ?_
  obtain ⟨e1, h2, h⟩ := zo_some h
  refine g_lv [(0, .ref 8), (2, .int (Int32.ofInt v1))] rfl ⟨rfl, rfl, trivial⟩ ?_
  refine wl_65_2 (by omega) h2 ?_
  show zgo k d 65 (28, [(2, .int (Int32.ofInt e1))], []) (hp s ++ x) (.inl (some (.int (Int32.ofInt q))), hp s ++ x)
  refine g_iload_n 29 hM rfl rfl rfl ?_
  cases h
  exact g_ret hM rfl rfl
def G_66_5 (k : zK) (d : Nat) (x : am_H) (r : am_A × am_H) (v2 : Int) (s : zS) (e : (BitVec 64 × Int)) : Prop := zgo k d 66 (5, [(0, .ref 8), (2, .int (Int32.ofInt v2)), (3, .long (Int64.ofBitVec e.1)), (5, .int (Int32.ofInt e.2))], []) (hp s ++ x) r
def K_66_5 (k : zK) (d : Nat) (x : am_H) (r : am_A × am_H) (v2 : Int) (s : zS) (t : (BitVec 64)) : Prop := zgo k d 66 (31, [(3, .long (Int64.ofBitVec t))], []) (hp s ++ x) r
def b_66_5 (v2 : Int) (s : zS) (w3 : BitVec 64) (v5 : Int) : Option ((BitVec 64 × Int) ⊕ (BitVec 64)) := zg (zR v5) (zg (zR v2) (if v5 < v2 then (zg (0 ≤ v5 ∧ v5 < 600) (some (.inl (((w3 <<< zshl 8) ||| (BitVec.ofInt 64 (gI s 9 v5))), (v5 + 1))))) else (some (.inr w3))))
theorem wb_66_5 {k : zK} {d : Nat} {x : am_H} {r : am_A × am_H} {v2 : Int} {w3 : BitVec 64} {v5 : Int} {s : zS} {q : (BitVec 64 × Int) ⊕ (BitVec 64)} (hd : 0 ≤ d) (h : b_66_5 v2 s w3 v5 = some q) (hK : Sum.elim (G_66_5 k d x r v2 s) (K_66_5 k d x r v2 s) q) : G_66_5 k d x r v2 s (w3, v5) := by
  unfold b_66_5 at h
  have hM := xM_66 k.1
  show zgo k d 66 (5, [(0, .ref 8), (2, .int (Int32.ofInt v2)), (3, .long (Int64.ofBitVec w3)), (5, .int (Int32.ofInt v5))], []) (hp s ++ x) r
  refine g_iload 7 hM rfl rfl rfl ?_
  refine g_iload_n 8 hM rfl rfl rfl ?_
  obtain ⟨hg1, h⟩ := zg_some h
  obtain ⟨hg2, h⟩ := zg_some h
  by_cases hc3 : v5 < v2
  · rw [if_pos hc3] at h
    refine g_ic_ge_f 11 31 hM rfl rfl rfl hg1 hg2 hc3 ?_
    refine g_lload_n 12 hM rfl rfl rfl ?_
    refine g_bipush 14 hM rfl rfl rfl ?_
    refine g_lshl 15 hM rfl rfl (zR_lit rfl) ?_
    refine g_aload_n 16 hM rfl rfl rfl ?_
    refine g_getF 19 hM rfl rfl rfl rfl rfl ?_
    refine g_iload 21 hM rfl rfl rfl ?_
    obtain ⟨hg4, h⟩ := zg_some h
    refine g_iaload 22 (gI s 9 v5) hM rfl rfl rfl rfl hg4 rfl ?_
    refine g_i2l 23 hM rfl rfl (zR_gI _ _ _) ?_
    refine g_lor 24 hM rfl rfl ?_
    refine g_lstore_n 25 hM rfl rfl rfl ?_
    refine g_iinc 28 hM rfl rfl rfl rfl ?_
    refine g_goto 5 hM rfl rfl ?_
    cases h
    exact g_lv [(0, .ref 8), (2, .int (Int32.ofInt v2)), (3, .long (Int64.ofBitVec ((w3 <<< zshl 8) ||| (BitVec.ofInt 64 (gI s 9 v5))))), (5, .int (Int32.ofInt (v5 + 1)))] rfl ⟨rfl, rfl, rfl, rfl, trivial⟩ hK
  · rw [if_neg hc3] at h
    refine g_ic_ge_t 31 hM rfl rfl hg1 hg2 hc3 ?_
    cases h
    exact g_lv [(3, .long (Int64.ofBitVec w3))] rfl ⟨rfl, trivial⟩ hK
theorem wl_66_5 {k : zK} {d : Nat} {x : am_H} {r : am_A × am_H} {v2 : Int} {s : zS} {n : Nat} {e : (BitVec 64 × Int)} {t : (BitVec 64)} (hd : 0 ≤ d) (h : zlp (fun (q : BitVec 64 × Int) => b_66_5 v2 s q.1 q.2) n e = some t) (hK : K_66_5 k d x r v2 s t) : G_66_5 k d x r v2 s e := zlp_go (G := fun e => G_66_5 k d x r v2 s e) (K := K_66_5 k d x r v2 s) (fun e e1 h1 hg => wb_66_5 (q := .inl e1) hd h1 hg) (fun e t1 h1 hk => wb_66_5 (q := .inr t1) hd h1 hk) n e t h hK
/-- RelationFinder$Tape.wordBetween(II)J -/
def f_66 (v1 : Int) (v2 : Int) (s : zS) : Option (BitVec 64) := zo (zlp (fun (q : BitVec 64 × Int) => b_66_5 v2 s q.1 q.2) zF ((0#64), v1)) (fun e1 => some e1)
theorem w_66 {k : zK} {d : Nat} {x : am_H} {v1 : Int} {v2 : Int} {s : zS} {q : (BitVec 64)} (hd : 0 ≤ d) (h : f_66 v1 v2 s = some q) : zgo k d 66 (0, [(0, .ref 8), (1, .int (Int32.ofInt v1)), (2, .int (Int32.ofInt v2))], []) (hp s ++ x) (.inl (some (.long (Int64.ofBitVec q))), hp s ++ x) := by
  unfold f_66 at h
  have hM := xM_66 k.1
  refine g_lconst 1 (0#64) hM rfl rfl rfl ?_
  refine g_lstore_n 2 hM rfl rfl rfl ?_
  refine g_iload_n 3 hM rfl rfl rfl ?_
  refine g_istore 5 hM rfl rfl rfl ?_
  obtain ⟨e1, h2, h⟩ := zo_some h
  refine g_lv [(0, .ref 8), (2, .int (Int32.ofInt v2)), (3, .long (Int64.ofBitVec (0#64))), (5, .int (Int32.ofInt v1))] rfl ⟨rfl, rfl, rfl, rfl, trivial⟩ ?_
  refine wl_66_5 (by omega) h2 ?_
  show zgo k d 66 (31, [(3, .long (Int64.ofBitVec e1))], []) (hp s ++ x) (.inl (some (.long (Int64.ofBitVec q))), hp s ++ x)
  refine g_lload_n 32 hM rfl rfl rfl ?_
  cases h
  exact g_ret hM rfl rfl
def G_19_2 (k : zK) (d : Nat) (x : am_H) (r : am_A × am_H) (w0 : BitVec 64) (s : zS) (e : (Int)) : Prop := zgo k d 19 (2, [(0, .long (Int64.ofBitVec w0)), (2, .int (Int32.ofInt e))], []) (hp s ++ x) r
def K_19_2 (k : zK) (d : Nat) (x : am_H) (r : am_A × am_H) (w0 : BitVec 64) (s : zS) (t : ((Unit) ⊕ Int)) : Prop := Sum.elim (fun e => zgo k d 19 (30, [], []) (hp s ++ x) r) (fun q => r = (.inl (some (.int (Int32.ofInt q))), hp s ++ x)) t
def b_19_2 (w0 : BitVec 64) (s : zS) (v2 : Int) : Option ((Int) ⊕ ((Unit) ⊕ Int)) := zg (zR v2) (if v2 < 16 then (zg (0 ≤ v2 ∧ v2 < 16) (if (zkw v2) = w0 then (some (.inr (.inr (4 + v2)))) else (some (.inl (v2 + 1))))) else (some (.inr (.inl ()))))
theorem wb_19_2 {k : zK} {d : Nat} {x : am_H} {r : am_A × am_H} {w0 : BitVec 64} {v2 : Int} {s : zS} {q : (Int) ⊕ ((Unit) ⊕ Int)} (hd : 0 ≤ d) (h : b_19_2 w0 s v2 = some q) (hK : Sum.elim (G_19_2 k d x r w0 s) (K_19_2 k d x r w0 s) q) : G_19_2 k d x r w0 s v2 := by
  unfold b_19_2 at h
  have hM := xM_19 k.1
  show zgo k d 19 (2, [(0, .long (Int64.ofBitVec w0)), (2, .int (Int32.ofInt v2))], []) (hp s ++ x) r
  refine g_iload_n 3 hM rfl rfl rfl ?_
  refine g_getstatic 6 hM rfl rfl rfl ?_
  refine g_kalen1 7 hM rfl rfl ?_
  obtain ⟨hg1, h⟩ := zg_some h
  by_cases hc2 : v2 < 16
  · rw [if_pos hc2] at h
    refine g_ic_ge_f 10 30 hM rfl rfl rfl hg1 (zR_lit rfl) hc2 ?_
    refine g_getstatic 13 hM rfl rfl rfl ?_
    refine g_iload_n 14 hM rfl rfl rfl ?_
    obtain ⟨hg3, h⟩ := zg_some h
    refine g_klaload1 15 hM rfl rfl hg3 ?_
    refine g_lload_n 16 hM rfl rfl rfl ?_
    by_cases hc4 : (zkw v2) = w0
    · rw [if_pos hc4] at h
      refine g_lc_ne_f 17 20 24 hM rfl rfl rfl rfl rfl hc4 ?_
      refine g_iconst 21 hM rfl rfl ?_
      refine g_iload_n 22 hM rfl rfl rfl ?_
      refine g_iadd 23 hM rfl rfl ?_
      cases h
      rw [show r = _ from hK]
      exact g_ret hM rfl rfl
    · rw [if_neg hc4] at h
      refine g_lc_ne_t 17 24 hM rfl rfl rfl rfl hc4 ?_
      refine g_iinc 27 hM rfl rfl rfl rfl ?_
      refine g_goto 2 hM rfl rfl ?_
      cases h
      exact g_lv [(0, .long (Int64.ofBitVec w0)), (2, .int (Int32.ofInt (v2 + 1)))] rfl ⟨rfl, rfl, trivial⟩ hK
  · rw [if_neg hc2] at h
    refine g_ic_ge_t 30 hM rfl rfl hg1 (zR_lit rfl) hc2 ?_
    cases h
    exact g_lv [] rfl trivial hK
theorem wl_19_2 {k : zK} {d : Nat} {x : am_H} {r : am_A × am_H} {w0 : BitVec 64} {s : zS} {n : Nat} {e : (Int)} {t : ((Unit) ⊕ Int)} (hd : 0 ≤ d) (h : zlp (fun (q : Int) => b_19_2 w0 s q) n e = some t) (hK : K_19_2 k d x r w0 s t) : G_19_2 k d x r w0 s e := zlp_go (G := fun e => G_19_2 k d x r w0 s e) (K := K_19_2 k d x r w0 s) (fun e e1 h1 hg => wb_19_2 (q := .inl e1) hd h1 hg) (fun e t1 h1 hk => wb_19_2 (q := .inr t1) hd h1 hk) n e t h hK
/-- RelationFinder.kindOfWord(J)I -/
def f_19 (w0 : BitVec 64) (s : zS) : Option Int := zo (zlp (fun (q : Int) => b_19_2 w0 s q) zF 0) (fun e1 => Sum.elim (fun e3 => some 2) (fun q4 => some q4) e1)
theorem w_19 {k : zK} {d : Nat} {x : am_H} {w0 : BitVec 64} {s : zS} {q : Int} (hd : 0 ≤ d) (h : f_19 w0 s = some q) : zgo k d 19 (0, [(0, .long (Int64.ofBitVec w0))], []) (hp s ++ x) (.inl (some (.int (Int32.ofInt q))), hp s ++ x) := by
  unfold f_19 at h
  have hM := xM_19 k.1
  refine g_iconst 1 hM rfl rfl ?_
  refine g_istore_n 2 hM rfl rfl rfl ?_
  obtain ⟨e1, h2, h⟩ := zo_some h
  refine g_lv [(0, .long (Int64.ofBitVec w0)), (2, .int (Int32.ofInt 0))] rfl ⟨rfl, rfl, trivial⟩ ?_
  refine wl_19_2 (by omega) h2 ?_
  rcases e1 with e3 | q4
  · simp only [ze_l] at h
    show zgo k d 19 (30, [], []) (hp s ++ x) (.inl (some (.int (Int32.ofInt q))), hp s ++ x)
    refine g_iconst 31 hM rfl rfl ?_
    cases h
    exact g_ret hM rfl rfl
  · cases h
    rfl
/-- RelationFinder$Tape.readWord()V -/
def f_64 (s : zS) : Option (Unit × zS) := zo (f_65 (gI s 8 5) s) (fun r2 => zo (f_66 (gI s 8 5) (gI (sI s 8 2 r2) 8 2) (sI s 8 2 r2)) (fun r4 => zg (zR ((gI (sI s 8 2 r2) 8 2) - (gI s 8 5))) (if 7 < ((gI (sI s 8 2 r2) 8 2) - (gI s 8 5)) then (if (gI (sI (sJ (sI s 8 2 r2) 8 6 r4) 8 4 1) 8 4) = 2 then (if 6 < ((gI (sI s 8 2 r2) 8 2) - (gI s 8 5)) then (some ((), (sI (sI (sJ (sI s 8 2 r2) 8 6 r4) 8 4 1) 8 4 1))) else (some ((), (sI (sJ (sI s 8 2 r2) 8 6 r4) 8 4 1)))) else (some ((), (sI (sJ (sI s 8 2 r2) 8 6 r4) 8 4 1)))) else (zo (f_19 (gJ (sJ (sI s 8 2 r2) 8 6 r4) 8 6) (sJ (sI s 8 2 r2) 8 6 r4)) (fun r10 => if (gI (sI (sJ (sI s 8 2 r2) 8 6 r4) 8 4 r10) 8 4) = 2 then (if 6 < ((gI (sI s 8 2 r2) 8 2) - (gI s 8 5)) then (some ((), (sI (sI (sJ (sI s 8 2 r2) 8 6 r4) 8 4 r10) 8 4 1))) else (some ((), (sI (sJ (sI s 8 2 r2) 8 6 r4) 8 4 r10)))) else (some ((), (sI (sJ (sI s 8 2 r2) 8 6 r4) 8 4 r10))))))))
theorem w_64 {k : zK} {d : Nat} {x : am_H} {s : zS} {q : (Unit × zS)} (hd : 2 ≤ d) (h : f_64 s = some q) : zgo k d 64 (0, [(0, .ref 8)], []) (hp s ++ x) (.inl (none), hp q.2 ++ x) := by
  unfold f_64 at h
  have hM := xM_64 k.1
  refine g_aload_n 1 hM rfl rfl rfl ?_
  refine g_aload_n 2 hM rfl rfl rfl ?_
  refine g_aload_n 3 hM rfl rfl rfl ?_
  refine g_getI 6 5 (gI s 8 5) hM rfl rfl rfl rfl rfl rfl rfl ?_
  obtain ⟨r2, h1, h⟩ := zo_some h
  refine g_call 9 _ [.int (Int32.ofInt r2), .ref 8] hM rfl rfl rfl rfl rfl (xM_65 _) rfl (z_rcv2 rfl) rfl rfl (by omega) (w_65 (by omega) h1) rfl ?_
  refine g_putI 12 2 hM rfl rfl rfl rfl rfl rfl rfl ?_
  refine g_aload_n 13 hM rfl rfl rfl ?_
  refine g_getI 16 2 (gI (sI s 8 2 r2) 8 2) hM rfl rfl rfl rfl rfl rfl rfl ?_
  refine g_aload_n 17 hM rfl rfl rfl ?_
  refine g_getI 20 5 (gI s 8 5) hM rfl rfl rfl rfl rfl rfl rfl ?_
  refine g_isub 21 hM rfl rfl ?_
  refine g_istore_n 22 hM rfl rfl rfl ?_
  refine g_aload_n 23 hM rfl rfl rfl ?_
  refine g_aload_n 24 hM rfl rfl rfl ?_
  refine g_aload_n 25 hM rfl rfl rfl ?_
  refine g_getI 28 5 (gI s 8 5) hM rfl rfl rfl rfl rfl rfl rfl ?_
  refine g_aload_n 29 hM rfl rfl rfl ?_
  refine g_getI 32 2 (gI (sI s 8 2 r2) 8 2) hM rfl rfl rfl rfl rfl rfl rfl ?_
  obtain ⟨r4, h3, h⟩ := zo_some h
  refine g_call 35 _ [.long (Int64.ofBitVec r4), .ref 8] hM rfl rfl rfl rfl rfl (xM_66 _) rfl (z_rcv2 rfl) rfl rfl (by omega) (w_66 (by omega) h3) rfl ?_
  refine g_putJ 38 6 hM rfl rfl rfl rfl rfl rfl rfl ?_
  refine g_aload_n 39 hM rfl rfl rfl ?_
  refine g_iload_n 40 hM rfl rfl rfl ?_
  refine g_bipush 42 hM rfl rfl rfl ?_
  obtain ⟨hg5, h⟩ := zg_some h
  by_cases hc6 : 7 < ((gI (sI s 8 2 r2) 8 2) - (gI s 8 5))
  · rw [if_pos hc6] at h
    refine g_ic_gt_t 55 hM rfl rfl hg5 (zR_lit rfl) hc6 ?_
    refine g_iconst 56 hM rfl rfl ?_
    refine g_putI 59 4 hM rfl rfl rfl rfl rfl rfl rfl ?_
    refine g_aload_n 60 hM rfl rfl rfl ?_
    refine g_getI 63 4 (gI (sI (sJ (sI s 8 2 r2) 8 6 r4) 8 4 1) 8 4) hM rfl rfl rfl rfl rfl rfl rfl ?_
    refine g_iconst 64 hM rfl rfl ?_
    by_cases hc7 : (gI (sI (sJ (sI s 8 2 r2) 8 6 r4) 8 4 1) 8 4) = 2
    · rw [if_pos hc7] at h
      refine g_ic_ne_f 67 78 hM rfl rfl rfl (zR_gI _ _ _) (zR_lit rfl) hc7 ?_
      refine g_iload_n 68 hM rfl rfl rfl ?_
      refine g_bipush 70 hM rfl rfl rfl ?_
      by_cases hc8 : 6 < ((gI (sI s 8 2 r2) 8 2) - (gI s 8 5))
      · rw [if_pos hc8] at h
        refine g_ic_le_f 73 78 hM rfl rfl rfl hg5 (zR_lit rfl) hc8 ?_
        refine g_aload_n 74 hM rfl rfl rfl ?_
        refine g_iconst 75 hM rfl rfl ?_
        refine g_putI 78 4 hM rfl rfl rfl rfl rfl rfl rfl ?_
        cases h
        exact g_ret hM rfl rfl
      · rw [if_neg hc8] at h
        refine g_ic_le_t 78 hM rfl rfl hg5 (zR_lit rfl) hc8 ?_
        cases h
        exact g_ret hM rfl rfl
    · rw [if_neg hc7] at h
      refine g_ic_ne_t 78 hM rfl rfl (zR_gI _ _ _) (zR_lit rfl) hc7 ?_
      cases h
      exact g_ret hM rfl rfl
  · rw [if_neg hc6] at h
    refine g_ic_gt_f 45 55 hM rfl rfl rfl hg5 (zR_lit rfl) hc6 ?_
    refine g_aload_n 46 hM rfl rfl rfl ?_
    refine g_getJ 49 6 (gJ (sJ (sI s 8 2 r2) 8 6 r4) 8 6) hM rfl rfl rfl rfl rfl rfl rfl ?_
    obtain ⟨r10, h9, h⟩ := zo_some h
    refine g_call 52 _ [.int (Int32.ofInt r10), .ref 8] hM rfl rfl rfl rfl rfl (xM_19 _) rfl rfl rfl rfl (by omega) (w_19 (by omega) h9) rfl ?_
    refine g_goto 56 hM rfl rfl ?_
    refine g_putI 59 4 hM rfl rfl rfl rfl rfl rfl rfl ?_
    refine g_aload_n 60 hM rfl rfl rfl ?_
    refine g_getI 63 4 (gI (sI (sJ (sI s 8 2 r2) 8 6 r4) 8 4 r10) 8 4) hM rfl rfl rfl rfl rfl rfl rfl ?_
    refine g_iconst 64 hM rfl rfl ?_
    by_cases hc11 : (gI (sI (sJ (sI s 8 2 r2) 8 6 r4) 8 4 r10) 8 4) = 2
    · rw [if_pos hc11] at h
      refine g_ic_ne_f 67 78 hM rfl rfl rfl (zR_gI _ _ _) (zR_lit rfl) hc11 ?_
      refine g_iload_n 68 hM rfl rfl rfl ?_
      refine g_bipush 70 hM rfl rfl rfl ?_
      by_cases hc12 : 6 < ((gI (sI s 8 2 r2) 8 2) - (gI s 8 5))
      · rw [if_pos hc12] at h
        refine g_ic_le_f 73 78 hM rfl rfl rfl hg5 (zR_lit rfl) hc12 ?_
        refine g_aload_n 74 hM rfl rfl rfl ?_
        refine g_iconst 75 hM rfl rfl ?_
        refine g_putI 78 4 hM rfl rfl rfl rfl rfl rfl rfl ?_
        cases h
        exact g_ret hM rfl rfl
      · rw [if_neg hc12] at h
        refine g_ic_le_t 78 hM rfl rfl hg5 (zR_lit rfl) hc12 ?_
        cases h
        exact g_ret hM rfl rfl
    · rw [if_neg hc11] at h
      refine g_ic_ne_t 78 hM rfl rfl (zR_gI _ _ _) (zR_lit rfl) hc11 ?_
      cases h
      exact g_ret hM rfl rfl
/-- RelationFinder$Tape.advance()V -/
def f_62 (s : zS) : Option (Unit × zS) := zo (f_63 (gI s 8 2) s) (fun r2 => if (gI (sI s 8 2 r2) 8 2) < (gI s 8 1) then (zg (0 ≤ (gI (sI s 8 2 r2) 8 2) ∧ (gI (sI s 8 2 r2) 8 2) < 600) (zo (f_18 (gI s 9 (gI (sI s 8 2 r2) 8 2))) (fun r6 => zg (zR r6) (if r6 = 0 then (zo (f_20 (gI s 9 (gI (sI s 8 2 r2) 8 2))) (fun r10 => zg (zR r10) (if r10 = 0 then (zb (f_68 (sI (sI (sI s 8 2 r2) 8 5 (gI (sI s 8 2 r2) 8 2)) 8 3 ((gI s 8 3) + 1))) (fun r14 s15 => some ((), s15))) else (zb (f_67 (sI (sI (sI s 8 2 r2) 8 5 (gI (sI s 8 2 r2) 8 2)) 8 3 ((gI s 8 3) + 1))) (fun r17 s18 => some ((), s18)))))) else (zb (f_64 (sI (sI (sI s 8 2 r2) 8 5 (gI (sI s 8 2 r2) 8 2)) 8 3 ((gI s 8 3) + 1))) (fun r20 s21 => some ((), s21))))))) else (some ((), (sI (sI (sI s 8 2 r2) 8 5 (gI (sI s 8 2 r2) 8 2)) 8 4 0))))
theorem w_62 {k : zK} {d : Nat} {x : am_H} {s : zS} {q : (Unit × zS)} (hd : 5 ≤ d) (h : f_62 s = some q) : zgo k d 62 (0, [(0, .ref 8)], []) (hp s ++ x) (.inl (none), hp q.2 ++ x) := by
  unfold f_62 at h
  have hM := xM_62 k.1
  refine g_aload_n 1 hM rfl rfl rfl ?_
  refine g_aload_n 2 hM rfl rfl rfl ?_
  refine g_aload_n 3 hM rfl rfl rfl ?_
  refine g_getI 6 2 (gI s 8 2) hM rfl rfl rfl rfl rfl rfl rfl ?_
  obtain ⟨r2, h1, h⟩ := zo_some h
  refine g_call 9 _ [.int (Int32.ofInt r2), .ref 8] hM rfl rfl rfl rfl rfl (xM_63 _) rfl (z_rcv2 rfl) rfl rfl (by omega) (w_63 (by omega) h1) rfl ?_
  refine g_putI 12 2 hM rfl rfl rfl rfl rfl rfl rfl ?_
  refine g_aload_n 13 hM rfl rfl rfl ?_
  refine g_aload_n 14 hM rfl rfl rfl ?_
  refine g_getI 17 2 (gI (sI s 8 2 r2) 8 2) hM rfl rfl rfl rfl rfl rfl rfl ?_
  refine g_putI 20 5 hM rfl rfl rfl rfl rfl rfl rfl ?_
  refine g_aload_n 21 hM rfl rfl rfl ?_
  refine g_getI 24 2 (gI (sI s 8 2 r2) 8 2) hM rfl rfl rfl rfl rfl rfl rfl ?_
  refine g_aload_n 25 hM rfl rfl rfl ?_
  refine g_getI 28 1 (gI s 8 1) hM rfl rfl rfl rfl rfl rfl rfl ?_
  by_cases hc3 : (gI (sI s 8 2 r2) 8 2) < (gI s 8 1)
  · rw [if_pos hc3] at h
    refine g_ic_lt_t 37 hM rfl rfl (zR_gI _ _ _) (zR_gI _ _ _) hc3 ?_
    refine g_aload_n 38 hM rfl rfl rfl ?_
    refine g_dup 39 hM rfl rfl rfl ?_
    refine g_getI 42 3 (gI s 8 3) hM rfl rfl rfl rfl rfl rfl rfl ?_
    refine g_iconst 43 hM rfl rfl ?_
    refine g_iadd 44 hM rfl rfl ?_
    refine g_putI 47 3 hM rfl rfl rfl rfl rfl rfl rfl ?_
    refine g_aload_n 48 hM rfl rfl rfl ?_
    refine g_getF 51 hM rfl rfl rfl rfl rfl ?_
    refine g_aload_n 52 hM rfl rfl rfl ?_
    refine g_getI 55 2 (gI (sI s 8 2 r2) 8 2) hM rfl rfl rfl rfl rfl rfl rfl ?_
    obtain ⟨hg4, h⟩ := zg_some h
    refine g_iaload 56 (gI s 9 (gI (sI s 8 2 r2) 8 2)) hM rfl rfl rfl rfl hg4 rfl ?_
    obtain ⟨r6, h5, h⟩ := zo_some h
    refine g_call 59 _ [.int (Int32.ofInt r6)] hM rfl rfl rfl rfl rfl (xM_18 _) rfl rfl rfl rfl (by omega) (w_18 (by omega) h5) rfl ?_
    obtain ⟨hg7, h⟩ := zg_some h
    by_cases hc8 : r6 = 0
    · rw [if_pos hc8] at h
      refine g_if_eq_t 69 hM rfl rfl hg7 hc8 ?_
      refine g_aload_n 70 hM rfl rfl rfl ?_
      refine g_getF 73 hM rfl rfl rfl rfl rfl ?_
      refine g_aload_n 74 hM rfl rfl rfl ?_
      refine g_getI 77 2 (gI (sI s 8 2 r2) 8 2) hM rfl rfl rfl rfl rfl rfl rfl ?_
      refine g_iaload 78 (gI s 9 (gI (sI s 8 2 r2) 8 2)) hM rfl rfl rfl rfl hg4 rfl ?_
      obtain ⟨r10, h9, h⟩ := zo_some h
      refine g_call 81 _ [.int (Int32.ofInt r10)] hM rfl rfl rfl rfl rfl (xM_20 _) rfl rfl rfl rfl (by omega) (w_20 (by omega) h9) rfl ?_
      obtain ⟨hg11, h⟩ := zg_some h
      by_cases hc12 : r10 = 0
      · rw [if_pos hc12] at h
        refine g_if_eq_t 91 hM rfl rfl hg11 hc12 ?_
        refine g_aload_n 92 hM rfl rfl rfl ?_
        obtain ⟨r14, s15, h13, h⟩ := zb_some h
        refine g_call 95 _ [] hM rfl rfl rfl rfl rfl (xM_68 _) rfl (z_rcv2 rfl) rfl rfl (by omega) (w_68 (by omega) h13) rfl ?_
        cases h
        exact g_ret hM rfl rfl
      · rw [if_neg hc12] at h
        refine g_if_eq_f 84 91 hM rfl rfl rfl hg11 hc12 ?_
        refine g_aload_n 85 hM rfl rfl rfl ?_
        obtain ⟨r17, s18, h16, h⟩ := zb_some h
        refine g_call 88 _ [] hM rfl rfl rfl rfl rfl (xM_67 _) rfl (z_rcv2 rfl) rfl rfl (by omega) (w_67 (by omega) h16) rfl ?_
        refine g_goto 95 hM rfl rfl ?_
        cases h
        exact g_ret hM rfl rfl
    · rw [if_neg hc8] at h
      refine g_if_eq_f 62 69 hM rfl rfl rfl hg7 hc8 ?_
      refine g_aload_n 63 hM rfl rfl rfl ?_
      obtain ⟨r20, s21, h19, h⟩ := zb_some h
      refine g_call 66 _ [] hM rfl rfl rfl rfl rfl (xM_64 _) rfl (z_rcv2 rfl) rfl rfl (by omega) (w_64 (by omega) h19) rfl ?_
      refine g_goto 95 hM rfl rfl ?_
      cases h
      exact g_ret hM rfl rfl
  · rw [if_neg hc3] at h
    refine g_ic_lt_f 31 37 hM rfl rfl rfl (zR_gI _ _ _) (zR_gI _ _ _) hc3 ?_
    refine g_aload_n 32 hM rfl rfl rfl ?_
    refine g_iconst 33 hM rfl rfl ?_
    refine g_putI 36 4 hM rfl rfl rfl rfl rfl rfl rfl ?_
    cases h
    exact g_ret hM rfl rfl
/-- RelationFinder$Parser.refuse(II)V -/
def f_74 (v1 : Int) (v2 : Int) (s : zS) : Option (Unit × zS) := some ((), (sI (sI s 10 15 v1) 10 16 v2))
theorem w_74 {k : zK} {d : Nat} {x : am_H} {v1 : Int} {v2 : Int} {s : zS} {q : (Unit × zS)} (hd : 0 ≤ d) (h : f_74 v1 v2 s = some q) : zgo k d 74 (0, [(0, .ref 10), (1, .int (Int32.ofInt v1)), (2, .int (Int32.ofInt v2))], []) (hp s ++ x) (.inl (none), hp q.2 ++ x) := by
  unfold f_74 at h
  have hM := xM_74 k.1
  refine g_aload_n 1 hM rfl rfl rfl ?_
  refine g_iload_n 2 hM rfl rfl rfl ?_
  refine g_putI 5 15 hM rfl rfl rfl rfl rfl rfl rfl ?_
  refine g_aload_n 6 hM rfl rfl rfl ?_
  refine g_iload_n 7 hM rfl rfl rfl ?_
  refine g_putI 10 16 hM rfl rfl rfl rfl rfl rfl rfl ?_
  cases h
  exact g_ret hM rfl rfl
def t_73_129 (a : Int) : Nat := zswt 0 3 [160, 174, 188, 202] 216 a
def t_75_1 (a : Int) : Nat := zswl [(2, 101), (15, 108), (16, 108), (17, 118), (28, 84), (29, 84), (30, 84), (35, 84), (39, 93)] 128 a
/-- RelationFinder.isConnective(I)Z -/
def f_21 (v0 : Int) : Option Int := zg (zR v0) (if v0 = 10 then (some 1) else (if v0 = 11 then (some 1) else (if v0 = 12 then (some 1) else (some 0))))
theorem w_21 {k : zK} {d : Nat} {x : am_H} {v0 : Int} {s : zS} {q : Int} (hd : 0 ≤ d) (h : f_21 v0 = some q) : zgo k d 21 (0, [(0, .int (Int32.ofInt v0))], []) (hp s ++ x) (.inl (some (.int (Int32.ofInt q))), hp s ++ x) := by
  unfold f_21 at h
  have hM := xM_21 k.1
  refine g_iload_n 1 hM rfl rfl rfl ?_
  refine g_bipush 3 hM rfl rfl rfl ?_
  obtain ⟨hg1, h⟩ := zg_some h
  by_cases hc2 : v0 = 10
  · rw [if_pos hc2] at h
    refine g_ic_eq_t 18 hM rfl rfl hg1 (zR_lit rfl) hc2 ?_
    refine g_iconst 19 hM rfl rfl ?_
    refine g_goto 23 hM rfl rfl ?_
    cases h
    exact g_ret hM rfl rfl
  · rw [if_neg hc2] at h
    refine g_ic_eq_f 6 18 hM rfl rfl rfl hg1 (zR_lit rfl) hc2 ?_
    refine g_iload_n 7 hM rfl rfl rfl ?_
    refine g_bipush 9 hM rfl rfl rfl ?_
    by_cases hc3 : v0 = 11
    · rw [if_pos hc3] at h
      refine g_ic_eq_t 18 hM rfl rfl hg1 (zR_lit rfl) hc3 ?_
      refine g_iconst 19 hM rfl rfl ?_
      refine g_goto 23 hM rfl rfl ?_
      cases h
      exact g_ret hM rfl rfl
    · rw [if_neg hc3] at h
      refine g_ic_eq_f 12 18 hM rfl rfl rfl hg1 (zR_lit rfl) hc3 ?_
      refine g_iload_n 13 hM rfl rfl rfl ?_
      refine g_bipush 15 hM rfl rfl rfl ?_
      by_cases hc4 : v0 = 12
      · rw [if_pos hc4] at h
        refine g_ic_ne_f 18 22 hM rfl rfl rfl hg1 (zR_lit rfl) hc4 ?_
        refine g_iconst 19 hM rfl rfl ?_
        refine g_goto 23 hM rfl rfl ?_
        cases h
        exact g_ret hM rfl rfl
      · rw [if_neg hc4] at h
        refine g_ic_ne_t 22 hM rfl rfl hg1 (zR_lit rfl) hc4 ?_
        refine g_iconst 23 hM rfl rfl ?_
        cases h
        exact g_ret hM rfl rfl
/-- RelationFinder$Code.add(III)I -/
def f_139 (c0 : Nat) (v1 : Int) (v2 : Int) (v3 : Int) (s : zS) : Option (Int × zS) := zg (zC c0 = true) (if (gI s c0 0) < 200 then (zg (0 ≤ (gI s c0 0) ∧ (gI s c0 0) < 200) (zg (0 ≤ (gI (sI s (c0 + 1) (gI s c0 0) v1) c0 0) ∧ (gI (sI s (c0 + 1) (gI s c0 0) v1) c0 0) < 200) (zg (0 ≤ (gI (sI (sI s (c0 + 1) (gI s c0 0) v1) (c0 + 2) (gI (sI s (c0 + 1) (gI s c0 0) v1) c0 0) v2) c0 0) ∧ (gI (sI (sI s (c0 + 1) (gI s c0 0) v1) (c0 + 2) (gI (sI s (c0 + 1) (gI s c0 0) v1) c0 0) v2) c0 0) < 200) (zg (0 ≤ (gI (sI (sI (sI s (c0 + 1) (gI s c0 0) v1) (c0 + 2) (gI (sI s (c0 + 1) (gI s c0 0) v1) c0 0) v2) (c0 + 3) (gI (sI (sI s (c0 + 1) (gI s c0 0) v1) (c0 + 2) (gI (sI s (c0 + 1) (gI s c0 0) v1) c0 0) v2) c0 0) v3) c0 0) ∧ (gI (sI (sI (sI s (c0 + 1) (gI s c0 0) v1) (c0 + 2) (gI (sI s (c0 + 1) (gI s c0 0) v1) c0 0) v2) (c0 + 3) (gI (sI (sI s (c0 + 1) (gI s c0 0) v1) (c0 + 2) (gI (sI s (c0 + 1) (gI s c0 0) v1) c0 0) v2) c0 0) v3) c0 0) < 200) (zg (0 ≤ (gI (sI (sI (sI (sI s (c0 + 1) (gI s c0 0) v1) (c0 + 2) (gI (sI s (c0 + 1) (gI s c0 0) v1) c0 0) v2) (c0 + 3) (gI (sI (sI s (c0 + 1) (gI s c0 0) v1) (c0 + 2) (gI (sI s (c0 + 1) (gI s c0 0) v1) c0 0) v2) c0 0) v3) (c0 + 4) (gI (sI (sI (sI s (c0 + 1) (gI s c0 0) v1) (c0 + 2) (gI (sI s (c0 + 1) (gI s c0 0) v1) c0 0) v2) (c0 + 3) (gI (sI (sI s (c0 + 1) (gI s c0 0) v1) (c0 + 2) (gI (sI s (c0 + 1) (gI s c0 0) v1) c0 0) v2) c0 0) v3) c0 0) ((gI (sI (sI (sI s (c0 + 1) (gI s c0 0) v1) (c0 + 2) (gI (sI s (c0 + 1) (gI s c0 0) v1) c0 0) v2) (c0 + 3) (gI (sI (sI s (c0 + 1) (gI s c0 0) v1) (c0 + 2) (gI (sI s (c0 + 1) (gI s c0 0) v1) c0 0) v2) c0 0) v3) c0 0) + 1)) c0 0) ∧ (gI (sI (sI (sI (sI s (c0 + 1) (gI s c0 0) v1) (c0 + 2) (gI (sI s (c0 + 1) (gI s c0 0) v1) c0 0) v2) (c0 + 3) (gI (sI (sI s (c0 + 1) (gI s c0 0) v1) (c0 + 2) (gI (sI s (c0 + 1) (gI s c0 0) v1) c0 0) v2) c0 0) v3) (c0 + 4) (gI (sI (sI (sI s (c0 + 1) (gI s c0 0) v1) (c0 + 2) (gI (sI s (c0 + 1) (gI s c0 0) v1) c0 0) v2) (c0 + 3) (gI (sI (sI s (c0 + 1) (gI s c0 0) v1) (c0 + 2) (gI (sI s (c0 + 1) (gI s c0 0) v1) c0 0) v2) c0 0) v3) c0 0) ((gI (sI (sI (sI s (c0 + 1) (gI s c0 0) v1) (c0 + 2) (gI (sI s (c0 + 1) (gI s c0 0) v1) c0 0) v2) (c0 + 3) (gI (sI (sI s (c0 + 1) (gI s c0 0) v1) (c0 + 2) (gI (sI s (c0 + 1) (gI s c0 0) v1) c0 0) v2) c0 0) v3) c0 0) + 1)) c0 0) < 200) (zg (0 ≤ (gI (sI (sI (sI (sI (sI s (c0 + 1) (gI s c0 0) v1) (c0 + 2) (gI (sI s (c0 + 1) (gI s c0 0) v1) c0 0) v2) (c0 + 3) (gI (sI (sI s (c0 + 1) (gI s c0 0) v1) (c0 + 2) (gI (sI s (c0 + 1) (gI s c0 0) v1) c0 0) v2) c0 0) v3) (c0 + 4) (gI (sI (sI (sI s (c0 + 1) (gI s c0 0) v1) (c0 + 2) (gI (sI s (c0 + 1) (gI s c0 0) v1) c0 0) v2) (c0 + 3) (gI (sI (sI s (c0 + 1) (gI s c0 0) v1) (c0 + 2) (gI (sI s (c0 + 1) (gI s c0 0) v1) c0 0) v2) c0 0) v3) c0 0) ((gI (sI (sI (sI s (c0 + 1) (gI s c0 0) v1) (c0 + 2) (gI (sI s (c0 + 1) (gI s c0 0) v1) c0 0) v2) (c0 + 3) (gI (sI (sI s (c0 + 1) (gI s c0 0) v1) (c0 + 2) (gI (sI s (c0 + 1) (gI s c0 0) v1) c0 0) v2) c0 0) v3) c0 0) + 1)) (c0 + 5) (gI (sI (sI (sI (sI s (c0 + 1) (gI s c0 0) v1) (c0 + 2) (gI (sI s (c0 + 1) (gI s c0 0) v1) c0 0) v2) (c0 + 3) (gI (sI (sI s (c0 + 1) (gI s c0 0) v1) (c0 + 2) (gI (sI s (c0 + 1) (gI s c0 0) v1) c0 0) v2) c0 0) v3) (c0 + 4) (gI (sI (sI (sI s (c0 + 1) (gI s c0 0) v1) (c0 + 2) (gI (sI s (c0 + 1) (gI s c0 0) v1) c0 0) v2) (c0 + 3) (gI (sI (sI s (c0 + 1) (gI s c0 0) v1) (c0 + 2) (gI (sI s (c0 + 1) (gI s c0 0) v1) c0 0) v2) c0 0) v3) c0 0) ((gI (sI (sI (sI s (c0 + 1) (gI s c0 0) v1) (c0 + 2) (gI (sI s (c0 + 1) (gI s c0 0) v1) c0 0) v2) (c0 + 3) (gI (sI (sI s (c0 + 1) (gI s c0 0) v1) (c0 + 2) (gI (sI s (c0 + 1) (gI s c0 0) v1) c0 0) v2) c0 0) v3) c0 0) + 1)) c0 0) ((gI (sI (sI (sI (sI s (c0 + 1) (gI s c0 0) v1) (c0 + 2) (gI (sI s (c0 + 1) (gI s c0 0) v1) c0 0) v2) (c0 + 3) (gI (sI (sI s (c0 + 1) (gI s c0 0) v1) (c0 + 2) (gI (sI s (c0 + 1) (gI s c0 0) v1) c0 0) v2) c0 0) v3) (c0 + 4) (gI (sI (sI (sI s (c0 + 1) (gI s c0 0) v1) (c0 + 2) (gI (sI s (c0 + 1) (gI s c0 0) v1) c0 0) v2) (c0 + 3) (gI (sI (sI s (c0 + 1) (gI s c0 0) v1) (c0 + 2) (gI (sI s (c0 + 1) (gI s c0 0) v1) c0 0) v2) c0 0) v3) c0 0) ((gI (sI (sI (sI s (c0 + 1) (gI s c0 0) v1) (c0 + 2) (gI (sI s (c0 + 1) (gI s c0 0) v1) c0 0) v2) (c0 + 3) (gI (sI (sI s (c0 + 1) (gI s c0 0) v1) (c0 + 2) (gI (sI s (c0 + 1) (gI s c0 0) v1) c0 0) v2) c0 0) v3) c0 0) + 1)) c0 0) + 1)) c0 0) ∧ (gI (sI (sI (sI (sI (sI s (c0 + 1) (gI s c0 0) v1) (c0 + 2) (gI (sI s (c0 + 1) (gI s c0 0) v1) c0 0) v2) (c0 + 3) (gI (sI (sI s (c0 + 1) (gI s c0 0) v1) (c0 + 2) (gI (sI s (c0 + 1) (gI s c0 0) v1) c0 0) v2) c0 0) v3) (c0 + 4) (gI (sI (sI (sI s (c0 + 1) (gI s c0 0) v1) (c0 + 2) (gI (sI s (c0 + 1) (gI s c0 0) v1) c0 0) v2) (c0 + 3) (gI (sI (sI s (c0 + 1) (gI s c0 0) v1) (c0 + 2) (gI (sI s (c0 + 1) (gI s c0 0) v1) c0 0) v2) c0 0) v3) c0 0) ((gI (sI (sI (sI s (c0 + 1) (gI s c0 0) v1) (c0 + 2) (gI (sI s (c0 + 1) (gI s c0 0) v1) c0 0) v2) (c0 + 3) (gI (sI (sI s (c0 + 1) (gI s c0 0) v1) (c0 + 2) (gI (sI s (c0 + 1) (gI s c0 0) v1) c0 0) v2) c0 0) v3) c0 0) + 1)) (c0 + 5) (gI (sI (sI (sI (sI s (c0 + 1) (gI s c0 0) v1) (c0 + 2) (gI (sI s (c0 + 1) (gI s c0 0) v1) c0 0) v2) (c0 + 3) (gI (sI (sI s (c0 + 1) (gI s c0 0) v1) (c0 + 2) (gI (sI s (c0 + 1) (gI s c0 0) v1) c0 0) v2) c0 0) v3) (c0 + 4) (gI (sI (sI (sI s (c0 + 1) (gI s c0 0) v1) (c0 + 2) (gI (sI s (c0 + 1) (gI s c0 0) v1) c0 0) v2) (c0 + 3) (gI (sI (sI s (c0 + 1) (gI s c0 0) v1) (c0 + 2) (gI (sI s (c0 + 1) (gI s c0 0) v1) c0 0) v2) c0 0) v3) c0 0) ((gI (sI (sI (sI s (c0 + 1) (gI s c0 0) v1) (c0 + 2) (gI (sI s (c0 + 1) (gI s c0 0) v1) c0 0) v2) (c0 + 3) (gI (sI (sI s (c0 + 1) (gI s c0 0) v1) (c0 + 2) (gI (sI s (c0 + 1) (gI s c0 0) v1) c0 0) v2) c0 0) v3) c0 0) + 1)) c0 0) ((gI (sI (sI (sI (sI s (c0 + 1) (gI s c0 0) v1) (c0 + 2) (gI (sI s (c0 + 1) (gI s c0 0) v1) c0 0) v2) (c0 + 3) (gI (sI (sI s (c0 + 1) (gI s c0 0) v1) (c0 + 2) (gI (sI s (c0 + 1) (gI s c0 0) v1) c0 0) v2) c0 0) v3) (c0 + 4) (gI (sI (sI (sI s (c0 + 1) (gI s c0 0) v1) (c0 + 2) (gI (sI s (c0 + 1) (gI s c0 0) v1) c0 0) v2) (c0 + 3) (gI (sI (sI s (c0 + 1) (gI s c0 0) v1) (c0 + 2) (gI (sI s (c0 + 1) (gI s c0 0) v1) c0 0) v2) c0 0) v3) c0 0) ((gI (sI (sI (sI s (c0 + 1) (gI s c0 0) v1) (c0 + 2) (gI (sI s (c0 + 1) (gI s c0 0) v1) c0 0) v2) (c0 + 3) (gI (sI (sI s (c0 + 1) (gI s c0 0) v1) (c0 + 2) (gI (sI s (c0 + 1) (gI s c0 0) v1) c0 0) v2) c0 0) v3) c0 0) + 1)) c0 0) + 1)) c0 0) < 200) (zg (0 ≤ (gI (sI (sI (sI (sI (sI (sI s (c0 + 1) (gI s c0 0) v1) (c0 + 2) (gI (sI s (c0 + 1) (gI s c0 0) v1) c0 0) v2) (c0 + 3) (gI (sI (sI s (c0 + 1) (gI s c0 0) v1) (c0 + 2) (gI (sI s (c0 + 1) (gI s c0 0) v1) c0 0) v2) c0 0) v3) (c0 + 4) (gI (sI (sI (sI s (c0 + 1) (gI s c0 0) v1) (c0 + 2) (gI (sI s (c0 + 1) (gI s c0 0) v1) c0 0) v2) (c0 + 3) (gI (sI (sI s (c0 + 1) (gI s c0 0) v1) (c0 + 2) (gI (sI s (c0 + 1) (gI s c0 0) v1) c0 0) v2) c0 0) v3) c0 0) ((gI (sI (sI (sI s (c0 + 1) (gI s c0 0) v1) (c0 + 2) (gI (sI s (c0 + 1) (gI s c0 0) v1) c0 0) v2) (c0 + 3) (gI (sI (sI s (c0 + 1) (gI s c0 0) v1) (c0 + 2) (gI (sI s (c0 + 1) (gI s c0 0) v1) c0 0) v2) c0 0) v3) c0 0) + 1)) (c0 + 5) (gI (sI (sI (sI (sI s (c0 + 1) (gI s c0 0) v1) (c0 + 2) (gI (sI s (c0 + 1) (gI s c0 0) v1) c0 0) v2) (c0 + 3) (gI (sI (sI s (c0 + 1) (gI s c0 0) v1) (c0 + 2) (gI (sI s (c0 + 1) (gI s c0 0) v1) c0 0) v2) c0 0) v3) (c0 + 4) (gI (sI (sI (sI s (c0 + 1) (gI s c0 0) v1) (c0 + 2) (gI (sI s (c0 + 1) (gI s c0 0) v1) c0 0) v2) (c0 + 3) (gI (sI (sI s (c0 + 1) (gI s c0 0) v1) (c0 + 2) (gI (sI s (c0 + 1) (gI s c0 0) v1) c0 0) v2) c0 0) v3) c0 0) ((gI (sI (sI (sI s (c0 + 1) (gI s c0 0) v1) (c0 + 2) (gI (sI s (c0 + 1) (gI s c0 0) v1) c0 0) v2) (c0 + 3) (gI (sI (sI s (c0 + 1) (gI s c0 0) v1) (c0 + 2) (gI (sI s (c0 + 1) (gI s c0 0) v1) c0 0) v2) c0 0) v3) c0 0) + 1)) c0 0) ((gI (sI (sI (sI (sI s (c0 + 1) (gI s c0 0) v1) (c0 + 2) (gI (sI s (c0 + 1) (gI s c0 0) v1) c0 0) v2) (c0 + 3) (gI (sI (sI s (c0 + 1) (gI s c0 0) v1) (c0 + 2) (gI (sI s (c0 + 1) (gI s c0 0) v1) c0 0) v2) c0 0) v3) (c0 + 4) (gI (sI (sI (sI s (c0 + 1) (gI s c0 0) v1) (c0 + 2) (gI (sI s (c0 + 1) (gI s c0 0) v1) c0 0) v2) (c0 + 3) (gI (sI (sI s (c0 + 1) (gI s c0 0) v1) (c0 + 2) (gI (sI s (c0 + 1) (gI s c0 0) v1) c0 0) v2) c0 0) v3) c0 0) ((gI (sI (sI (sI s (c0 + 1) (gI s c0 0) v1) (c0 + 2) (gI (sI s (c0 + 1) (gI s c0 0) v1) c0 0) v2) (c0 + 3) (gI (sI (sI s (c0 + 1) (gI s c0 0) v1) (c0 + 2) (gI (sI s (c0 + 1) (gI s c0 0) v1) c0 0) v2) c0 0) v3) c0 0) + 1)) c0 0) + 1)) (c0 + 6) (gI (sI (sI (sI (sI (sI s (c0 + 1) (gI s c0 0) v1) (c0 + 2) (gI (sI s (c0 + 1) (gI s c0 0) v1) c0 0) v2) (c0 + 3) (gI (sI (sI s (c0 + 1) (gI s c0 0) v1) (c0 + 2) (gI (sI s (c0 + 1) (gI s c0 0) v1) c0 0) v2) c0 0) v3) (c0 + 4) (gI (sI (sI (sI s (c0 + 1) (gI s c0 0) v1) (c0 + 2) (gI (sI s (c0 + 1) (gI s c0 0) v1) c0 0) v2) (c0 + 3) (gI (sI (sI s (c0 + 1) (gI s c0 0) v1) (c0 + 2) (gI (sI s (c0 + 1) (gI s c0 0) v1) c0 0) v2) c0 0) v3) c0 0) ((gI (sI (sI (sI s (c0 + 1) (gI s c0 0) v1) (c0 + 2) (gI (sI s (c0 + 1) (gI s c0 0) v1) c0 0) v2) (c0 + 3) (gI (sI (sI s (c0 + 1) (gI s c0 0) v1) (c0 + 2) (gI (sI s (c0 + 1) (gI s c0 0) v1) c0 0) v2) c0 0) v3) c0 0) + 1)) (c0 + 5) (gI (sI (sI (sI (sI s (c0 + 1) (gI s c0 0) v1) (c0 + 2) (gI (sI s (c0 + 1) (gI s c0 0) v1) c0 0) v2) (c0 + 3) (gI (sI (sI s (c0 + 1) (gI s c0 0) v1) (c0 + 2) (gI (sI s (c0 + 1) (gI s c0 0) v1) c0 0) v2) c0 0) v3) (c0 + 4) (gI (sI (sI (sI s (c0 + 1) (gI s c0 0) v1) (c0 + 2) (gI (sI s (c0 + 1) (gI s c0 0) v1) c0 0) v2) (c0 + 3) (gI (sI (sI s (c0 + 1) (gI s c0 0) v1) (c0 + 2) (gI (sI s (c0 + 1) (gI s c0 0) v1) c0 0) v2) c0 0) v3) c0 0) ((gI (sI (sI (sI s (c0 + 1) (gI s c0 0) v1) (c0 + 2) (gI (sI s (c0 + 1) (gI s c0 0) v1) c0 0) v2) (c0 + 3) (gI (sI (sI s (c0 + 1) (gI s c0 0) v1) (c0 + 2) (gI (sI s (c0 + 1) (gI s c0 0) v1) c0 0) v2) c0 0) v3) c0 0) + 1)) c0 0) ((gI (sI (sI (sI (sI s (c0 + 1) (gI s c0 0) v1) (c0 + 2) (gI (sI s (c0 + 1) (gI s c0 0) v1) c0 0) v2) (c0 + 3) (gI (sI (sI s (c0 + 1) (gI s c0 0) v1) (c0 + 2) (gI (sI s (c0 + 1) (gI s c0 0) v1) c0 0) v2) c0 0) v3) (c0 + 4) (gI (sI (sI (sI s (c0 + 1) (gI s c0 0) v1) (c0 + 2) (gI (sI s (c0 + 1) (gI s c0 0) v1) c0 0) v2) (c0 + 3) (gI (sI (sI s (c0 + 1) (gI s c0 0) v1) (c0 + 2) (gI (sI s (c0 + 1) (gI s c0 0) v1) c0 0) v2) c0 0) v3) c0 0) ((gI (sI (sI (sI s (c0 + 1) (gI s c0 0) v1) (c0 + 2) (gI (sI s (c0 + 1) (gI s c0 0) v1) c0 0) v2) (c0 + 3) (gI (sI (sI s (c0 + 1) (gI s c0 0) v1) (c0 + 2) (gI (sI s (c0 + 1) (gI s c0 0) v1) c0 0) v2) c0 0) v3) c0 0) + 1)) c0 0) + 1)) c0 0) 0) c0 0) ∧ (gI (sI (sI (sI (sI (sI (sI s (c0 + 1) (gI s c0 0) v1) (c0 + 2) (gI (sI s (c0 + 1) (gI s c0 0) v1) c0 0) v2) (c0 + 3) (gI (sI (sI s (c0 + 1) (gI s c0 0) v1) (c0 + 2) (gI (sI s (c0 + 1) (gI s c0 0) v1) c0 0) v2) c0 0) v3) (c0 + 4) (gI (sI (sI (sI s (c0 + 1) (gI s c0 0) v1) (c0 + 2) (gI (sI s (c0 + 1) (gI s c0 0) v1) c0 0) v2) (c0 + 3) (gI (sI (sI s (c0 + 1) (gI s c0 0) v1) (c0 + 2) (gI (sI s (c0 + 1) (gI s c0 0) v1) c0 0) v2) c0 0) v3) c0 0) ((gI (sI (sI (sI s (c0 + 1) (gI s c0 0) v1) (c0 + 2) (gI (sI s (c0 + 1) (gI s c0 0) v1) c0 0) v2) (c0 + 3) (gI (sI (sI s (c0 + 1) (gI s c0 0) v1) (c0 + 2) (gI (sI s (c0 + 1) (gI s c0 0) v1) c0 0) v2) c0 0) v3) c0 0) + 1)) (c0 + 5) (gI (sI (sI (sI (sI s (c0 + 1) (gI s c0 0) v1) (c0 + 2) (gI (sI s (c0 + 1) (gI s c0 0) v1) c0 0) v2) (c0 + 3) (gI (sI (sI s (c0 + 1) (gI s c0 0) v1) (c0 + 2) (gI (sI s (c0 + 1) (gI s c0 0) v1) c0 0) v2) c0 0) v3) (c0 + 4) (gI (sI (sI (sI s (c0 + 1) (gI s c0 0) v1) (c0 + 2) (gI (sI s (c0 + 1) (gI s c0 0) v1) c0 0) v2) (c0 + 3) (gI (sI (sI s (c0 + 1) (gI s c0 0) v1) (c0 + 2) (gI (sI s (c0 + 1) (gI s c0 0) v1) c0 0) v2) c0 0) v3) c0 0) ((gI (sI (sI (sI s (c0 + 1) (gI s c0 0) v1) (c0 + 2) (gI (sI s (c0 + 1) (gI s c0 0) v1) c0 0) v2) (c0 + 3) (gI (sI (sI s (c0 + 1) (gI s c0 0) v1) (c0 + 2) (gI (sI s (c0 + 1) (gI s c0 0) v1) c0 0) v2) c0 0) v3) c0 0) + 1)) c0 0) ((gI (sI (sI (sI (sI s (c0 + 1) (gI s c0 0) v1) (c0 + 2) (gI (sI s (c0 + 1) (gI s c0 0) v1) c0 0) v2) (c0 + 3) (gI (sI (sI s (c0 + 1) (gI s c0 0) v1) (c0 + 2) (gI (sI s (c0 + 1) (gI s c0 0) v1) c0 0) v2) c0 0) v3) (c0 + 4) (gI (sI (sI (sI s (c0 + 1) (gI s c0 0) v1) (c0 + 2) (gI (sI s (c0 + 1) (gI s c0 0) v1) c0 0) v2) (c0 + 3) (gI (sI (sI s (c0 + 1) (gI s c0 0) v1) (c0 + 2) (gI (sI s (c0 + 1) (gI s c0 0) v1) c0 0) v2) c0 0) v3) c0 0) ((gI (sI (sI (sI s (c0 + 1) (gI s c0 0) v1) (c0 + 2) (gI (sI s (c0 + 1) (gI s c0 0) v1) c0 0) v2) (c0 + 3) (gI (sI (sI s (c0 + 1) (gI s c0 0) v1) (c0 + 2) (gI (sI s (c0 + 1) (gI s c0 0) v1) c0 0) v2) c0 0) v3) c0 0) + 1)) c0 0) + 1)) (c0 + 6) (gI (sI (sI (sI (sI (sI s (c0 + 1) (gI s c0 0) v1) (c0 + 2) (gI (sI s (c0 + 1) (gI s c0 0) v1) c0 0) v2) (c0 + 3) (gI (sI (sI s (c0 + 1) (gI s c0 0) v1) (c0 + 2) (gI (sI s (c0 + 1) (gI s c0 0) v1) c0 0) v2) c0 0) v3) (c0 + 4) (gI (sI (sI (sI s (c0 + 1) (gI s c0 0) v1) (c0 + 2) (gI (sI s (c0 + 1) (gI s c0 0) v1) c0 0) v2) (c0 + 3) (gI (sI (sI s (c0 + 1) (gI s c0 0) v1) (c0 + 2) (gI (sI s (c0 + 1) (gI s c0 0) v1) c0 0) v2) c0 0) v3) c0 0) ((gI (sI (sI (sI s (c0 + 1) (gI s c0 0) v1) (c0 + 2) (gI (sI s (c0 + 1) (gI s c0 0) v1) c0 0) v2) (c0 + 3) (gI (sI (sI s (c0 + 1) (gI s c0 0) v1) (c0 + 2) (gI (sI s (c0 + 1) (gI s c0 0) v1) c0 0) v2) c0 0) v3) c0 0) + 1)) (c0 + 5) (gI (sI (sI (sI (sI s (c0 + 1) (gI s c0 0) v1) (c0 + 2) (gI (sI s (c0 + 1) (gI s c0 0) v1) c0 0) v2) (c0 + 3) (gI (sI (sI s (c0 + 1) (gI s c0 0) v1) (c0 + 2) (gI (sI s (c0 + 1) (gI s c0 0) v1) c0 0) v2) c0 0) v3) (c0 + 4) (gI (sI (sI (sI s (c0 + 1) (gI s c0 0) v1) (c0 + 2) (gI (sI s (c0 + 1) (gI s c0 0) v1) c0 0) v2) (c0 + 3) (gI (sI (sI s (c0 + 1) (gI s c0 0) v1) (c0 + 2) (gI (sI s (c0 + 1) (gI s c0 0) v1) c0 0) v2) c0 0) v3) c0 0) ((gI (sI (sI (sI s (c0 + 1) (gI s c0 0) v1) (c0 + 2) (gI (sI s (c0 + 1) (gI s c0 0) v1) c0 0) v2) (c0 + 3) (gI (sI (sI s (c0 + 1) (gI s c0 0) v1) (c0 + 2) (gI (sI s (c0 + 1) (gI s c0 0) v1) c0 0) v2) c0 0) v3) c0 0) + 1)) c0 0) ((gI (sI (sI (sI (sI s (c0 + 1) (gI s c0 0) v1) (c0 + 2) (gI (sI s (c0 + 1) (gI s c0 0) v1) c0 0) v2) (c0 + 3) (gI (sI (sI s (c0 + 1) (gI s c0 0) v1) (c0 + 2) (gI (sI s (c0 + 1) (gI s c0 0) v1) c0 0) v2) c0 0) v3) (c0 + 4) (gI (sI (sI (sI s (c0 + 1) (gI s c0 0) v1) (c0 + 2) (gI (sI s (c0 + 1) (gI s c0 0) v1) c0 0) v2) (c0 + 3) (gI (sI (sI s (c0 + 1) (gI s c0 0) v1) (c0 + 2) (gI (sI s (c0 + 1) (gI s c0 0) v1) c0 0) v2) c0 0) v3) c0 0) ((gI (sI (sI (sI s (c0 + 1) (gI s c0 0) v1) (c0 + 2) (gI (sI s (c0 + 1) (gI s c0 0) v1) c0 0) v2) (c0 + 3) (gI (sI (sI s (c0 + 1) (gI s c0 0) v1) (c0 + 2) (gI (sI s (c0 + 1) (gI s c0 0) v1) c0 0) v2) c0 0) v3) c0 0) + 1)) c0 0) + 1)) c0 0) 0) c0 0) < 200) (some (((gI (sI (sI (sI (sI (sI (sI (sI (sI s (c0 + 1) (gI s c0 0) v1) (c0 + 2) (gI (sI s (c0 + 1) (gI s c0 0) v1) c0 0) v2) (c0 + 3) (gI (sI (sI s (c0 + 1) (gI s c0 0) v1) (c0 + 2) (gI (sI s (c0 + 1) (gI s c0 0) v1) c0 0) v2) c0 0) v3) (c0 + 4) (gI (sI (sI (sI s (c0 + 1) (gI s c0 0) v1) (c0 + 2) (gI (sI s (c0 + 1) (gI s c0 0) v1) c0 0) v2) (c0 + 3) (gI (sI (sI s (c0 + 1) (gI s c0 0) v1) (c0 + 2) (gI (sI s (c0 + 1) (gI s c0 0) v1) c0 0) v2) c0 0) v3) c0 0) ((gI (sI (sI (sI s (c0 + 1) (gI s c0 0) v1) (c0 + 2) (gI (sI s (c0 + 1) (gI s c0 0) v1) c0 0) v2) (c0 + 3) (gI (sI (sI s (c0 + 1) (gI s c0 0) v1) (c0 + 2) (gI (sI s (c0 + 1) (gI s c0 0) v1) c0 0) v2) c0 0) v3) c0 0) + 1)) (c0 + 5) (gI (sI (sI (sI (sI s (c0 + 1) (gI s c0 0) v1) (c0 + 2) (gI (sI s (c0 + 1) (gI s c0 0) v1) c0 0) v2) (c0 + 3) (gI (sI (sI s (c0 + 1) (gI s c0 0) v1) (c0 + 2) (gI (sI s (c0 + 1) (gI s c0 0) v1) c0 0) v2) c0 0) v3) (c0 + 4) (gI (sI (sI (sI s (c0 + 1) (gI s c0 0) v1) (c0 + 2) (gI (sI s (c0 + 1) (gI s c0 0) v1) c0 0) v2) (c0 + 3) (gI (sI (sI s (c0 + 1) (gI s c0 0) v1) (c0 + 2) (gI (sI s (c0 + 1) (gI s c0 0) v1) c0 0) v2) c0 0) v3) c0 0) ((gI (sI (sI (sI s (c0 + 1) (gI s c0 0) v1) (c0 + 2) (gI (sI s (c0 + 1) (gI s c0 0) v1) c0 0) v2) (c0 + 3) (gI (sI (sI s (c0 + 1) (gI s c0 0) v1) (c0 + 2) (gI (sI s (c0 + 1) (gI s c0 0) v1) c0 0) v2) c0 0) v3) c0 0) + 1)) c0 0) ((gI (sI (sI (sI (sI s (c0 + 1) (gI s c0 0) v1) (c0 + 2) (gI (sI s (c0 + 1) (gI s c0 0) v1) c0 0) v2) (c0 + 3) (gI (sI (sI s (c0 + 1) (gI s c0 0) v1) (c0 + 2) (gI (sI s (c0 + 1) (gI s c0 0) v1) c0 0) v2) c0 0) v3) (c0 + 4) (gI (sI (sI (sI s (c0 + 1) (gI s c0 0) v1) (c0 + 2) (gI (sI s (c0 + 1) (gI s c0 0) v1) c0 0) v2) (c0 + 3) (gI (sI (sI s (c0 + 1) (gI s c0 0) v1) (c0 + 2) (gI (sI s (c0 + 1) (gI s c0 0) v1) c0 0) v2) c0 0) v3) c0 0) ((gI (sI (sI (sI s (c0 + 1) (gI s c0 0) v1) (c0 + 2) (gI (sI s (c0 + 1) (gI s c0 0) v1) c0 0) v2) (c0 + 3) (gI (sI (sI s (c0 + 1) (gI s c0 0) v1) (c0 + 2) (gI (sI s (c0 + 1) (gI s c0 0) v1) c0 0) v2) c0 0) v3) c0 0) + 1)) c0 0) + 1)) (c0 + 6) (gI (sI (sI (sI (sI (sI s (c0 + 1) (gI s c0 0) v1) (c0 + 2) (gI (sI s (c0 + 1) (gI s c0 0) v1) c0 0) v2) (c0 + 3) (gI (sI (sI s (c0 + 1) (gI s c0 0) v1) (c0 + 2) (gI (sI s (c0 + 1) (gI s c0 0) v1) c0 0) v2) c0 0) v3) (c0 + 4) (gI (sI (sI (sI s (c0 + 1) (gI s c0 0) v1) (c0 + 2) (gI (sI s (c0 + 1) (gI s c0 0) v1) c0 0) v2) (c0 + 3) (gI (sI (sI s (c0 + 1) (gI s c0 0) v1) (c0 + 2) (gI (sI s (c0 + 1) (gI s c0 0) v1) c0 0) v2) c0 0) v3) c0 0) ((gI (sI (sI (sI s (c0 + 1) (gI s c0 0) v1) (c0 + 2) (gI (sI s (c0 + 1) (gI s c0 0) v1) c0 0) v2) (c0 + 3) (gI (sI (sI s (c0 + 1) (gI s c0 0) v1) (c0 + 2) (gI (sI s (c0 + 1) (gI s c0 0) v1) c0 0) v2) c0 0) v3) c0 0) + 1)) (c0 + 5) (gI (sI (sI (sI (sI s (c0 + 1) (gI s c0 0) v1) (c0 + 2) (gI (sI s (c0 + 1) (gI s c0 0) v1) c0 0) v2) (c0 + 3) (gI (sI (sI s (c0 + 1) (gI s c0 0) v1) (c0 + 2) (gI (sI s (c0 + 1) (gI s c0 0) v1) c0 0) v2) c0 0) v3) (c0 + 4) (gI (sI (sI (sI s (c0 + 1) (gI s c0 0) v1) (c0 + 2) (gI (sI s (c0 + 1) (gI s c0 0) v1) c0 0) v2) (c0 + 3) (gI (sI (sI s (c0 + 1) (gI s c0 0) v1) (c0 + 2) (gI (sI s (c0 + 1) (gI s c0 0) v1) c0 0) v2) c0 0) v3) c0 0) ((gI (sI (sI (sI s (c0 + 1) (gI s c0 0) v1) (c0 + 2) (gI (sI s (c0 + 1) (gI s c0 0) v1) c0 0) v2) (c0 + 3) (gI (sI (sI s (c0 + 1) (gI s c0 0) v1) (c0 + 2) (gI (sI s (c0 + 1) (gI s c0 0) v1) c0 0) v2) c0 0) v3) c0 0) + 1)) c0 0) ((gI (sI (sI (sI (sI s (c0 + 1) (gI s c0 0) v1) (c0 + 2) (gI (sI s (c0 + 1) (gI s c0 0) v1) c0 0) v2) (c0 + 3) (gI (sI (sI s (c0 + 1) (gI s c0 0) v1) (c0 + 2) (gI (sI s (c0 + 1) (gI s c0 0) v1) c0 0) v2) c0 0) v3) (c0 + 4) (gI (sI (sI (sI s (c0 + 1) (gI s c0 0) v1) (c0 + 2) (gI (sI s (c0 + 1) (gI s c0 0) v1) c0 0) v2) (c0 + 3) (gI (sI (sI s (c0 + 1) (gI s c0 0) v1) (c0 + 2) (gI (sI s (c0 + 1) (gI s c0 0) v1) c0 0) v2) c0 0) v3) c0 0) ((gI (sI (sI (sI s (c0 + 1) (gI s c0 0) v1) (c0 + 2) (gI (sI s (c0 + 1) (gI s c0 0) v1) c0 0) v2) (c0 + 3) (gI (sI (sI s (c0 + 1) (gI s c0 0) v1) (c0 + 2) (gI (sI s (c0 + 1) (gI s c0 0) v1) c0 0) v2) c0 0) v3) c0 0) + 1)) c0 0) + 1)) c0 0) 0) (c0 + 7) (gI (sI (sI (sI (sI (sI (sI s (c0 + 1) (gI s c0 0) v1) (c0 + 2) (gI (sI s (c0 + 1) (gI s c0 0) v1) c0 0) v2) (c0 + 3) (gI (sI (sI s (c0 + 1) (gI s c0 0) v1) (c0 + 2) (gI (sI s (c0 + 1) (gI s c0 0) v1) c0 0) v2) c0 0) v3) (c0 + 4) (gI (sI (sI (sI s (c0 + 1) (gI s c0 0) v1) (c0 + 2) (gI (sI s (c0 + 1) (gI s c0 0) v1) c0 0) v2) (c0 + 3) (gI (sI (sI s (c0 + 1) (gI s c0 0) v1) (c0 + 2) (gI (sI s (c0 + 1) (gI s c0 0) v1) c0 0) v2) c0 0) v3) c0 0) ((gI (sI (sI (sI s (c0 + 1) (gI s c0 0) v1) (c0 + 2) (gI (sI s (c0 + 1) (gI s c0 0) v1) c0 0) v2) (c0 + 3) (gI (sI (sI s (c0 + 1) (gI s c0 0) v1) (c0 + 2) (gI (sI s (c0 + 1) (gI s c0 0) v1) c0 0) v2) c0 0) v3) c0 0) + 1)) (c0 + 5) (gI (sI (sI (sI (sI s (c0 + 1) (gI s c0 0) v1) (c0 + 2) (gI (sI s (c0 + 1) (gI s c0 0) v1) c0 0) v2) (c0 + 3) (gI (sI (sI s (c0 + 1) (gI s c0 0) v1) (c0 + 2) (gI (sI s (c0 + 1) (gI s c0 0) v1) c0 0) v2) c0 0) v3) (c0 + 4) (gI (sI (sI (sI s (c0 + 1) (gI s c0 0) v1) (c0 + 2) (gI (sI s (c0 + 1) (gI s c0 0) v1) c0 0) v2) (c0 + 3) (gI (sI (sI s (c0 + 1) (gI s c0 0) v1) (c0 + 2) (gI (sI s (c0 + 1) (gI s c0 0) v1) c0 0) v2) c0 0) v3) c0 0) ((gI (sI (sI (sI s (c0 + 1) (gI s c0 0) v1) (c0 + 2) (gI (sI s (c0 + 1) (gI s c0 0) v1) c0 0) v2) (c0 + 3) (gI (sI (sI s (c0 + 1) (gI s c0 0) v1) (c0 + 2) (gI (sI s (c0 + 1) (gI s c0 0) v1) c0 0) v2) c0 0) v3) c0 0) + 1)) c0 0) ((gI (sI (sI (sI (sI s (c0 + 1) (gI s c0 0) v1) (c0 + 2) (gI (sI s (c0 + 1) (gI s c0 0) v1) c0 0) v2) (c0 + 3) (gI (sI (sI s (c0 + 1) (gI s c0 0) v1) (c0 + 2) (gI (sI s (c0 + 1) (gI s c0 0) v1) c0 0) v2) c0 0) v3) (c0 + 4) (gI (sI (sI (sI s (c0 + 1) (gI s c0 0) v1) (c0 + 2) (gI (sI s (c0 + 1) (gI s c0 0) v1) c0 0) v2) (c0 + 3) (gI (sI (sI s (c0 + 1) (gI s c0 0) v1) (c0 + 2) (gI (sI s (c0 + 1) (gI s c0 0) v1) c0 0) v2) c0 0) v3) c0 0) ((gI (sI (sI (sI s (c0 + 1) (gI s c0 0) v1) (c0 + 2) (gI (sI s (c0 + 1) (gI s c0 0) v1) c0 0) v2) (c0 + 3) (gI (sI (sI s (c0 + 1) (gI s c0 0) v1) (c0 + 2) (gI (sI s (c0 + 1) (gI s c0 0) v1) c0 0) v2) c0 0) v3) c0 0) + 1)) c0 0) + 1)) (c0 + 6) (gI (sI (sI (sI (sI (sI s (c0 + 1) (gI s c0 0) v1) (c0 + 2) (gI (sI s (c0 + 1) (gI s c0 0) v1) c0 0) v2) (c0 + 3) (gI (sI (sI s (c0 + 1) (gI s c0 0) v1) (c0 + 2) (gI (sI s (c0 + 1) (gI s c0 0) v1) c0 0) v2) c0 0) v3) (c0 + 4) (gI (sI (sI (sI s (c0 + 1) (gI s c0 0) v1) (c0 + 2) (gI (sI s (c0 + 1) (gI s c0 0) v1) c0 0) v2) (c0 + 3) (gI (sI (sI s (c0 + 1) (gI s c0 0) v1) (c0 + 2) (gI (sI s (c0 + 1) (gI s c0 0) v1) c0 0) v2) c0 0) v3) c0 0) ((gI (sI (sI (sI s (c0 + 1) (gI s c0 0) v1) (c0 + 2) (gI (sI s (c0 + 1) (gI s c0 0) v1) c0 0) v2) (c0 + 3) (gI (sI (sI s (c0 + 1) (gI s c0 0) v1) (c0 + 2) (gI (sI s (c0 + 1) (gI s c0 0) v1) c0 0) v2) c0 0) v3) c0 0) + 1)) (c0 + 5) (gI (sI (sI (sI (sI s (c0 + 1) (gI s c0 0) v1) (c0 + 2) (gI (sI s (c0 + 1) (gI s c0 0) v1) c0 0) v2) (c0 + 3) (gI (sI (sI s (c0 + 1) (gI s c0 0) v1) (c0 + 2) (gI (sI s (c0 + 1) (gI s c0 0) v1) c0 0) v2) c0 0) v3) (c0 + 4) (gI (sI (sI (sI s (c0 + 1) (gI s c0 0) v1) (c0 + 2) (gI (sI s (c0 + 1) (gI s c0 0) v1) c0 0) v2) (c0 + 3) (gI (sI (sI s (c0 + 1) (gI s c0 0) v1) (c0 + 2) (gI (sI s (c0 + 1) (gI s c0 0) v1) c0 0) v2) c0 0) v3) c0 0) ((gI (sI (sI (sI s (c0 + 1) (gI s c0 0) v1) (c0 + 2) (gI (sI s (c0 + 1) (gI s c0 0) v1) c0 0) v2) (c0 + 3) (gI (sI (sI s (c0 + 1) (gI s c0 0) v1) (c0 + 2) (gI (sI s (c0 + 1) (gI s c0 0) v1) c0 0) v2) c0 0) v3) c0 0) + 1)) c0 0) ((gI (sI (sI (sI (sI s (c0 + 1) (gI s c0 0) v1) (c0 + 2) (gI (sI s (c0 + 1) (gI s c0 0) v1) c0 0) v2) (c0 + 3) (gI (sI (sI s (c0 + 1) (gI s c0 0) v1) (c0 + 2) (gI (sI s (c0 + 1) (gI s c0 0) v1) c0 0) v2) c0 0) v3) (c0 + 4) (gI (sI (sI (sI s (c0 + 1) (gI s c0 0) v1) (c0 + 2) (gI (sI s (c0 + 1) (gI s c0 0) v1) c0 0) v2) (c0 + 3) (gI (sI (sI s (c0 + 1) (gI s c0 0) v1) (c0 + 2) (gI (sI s (c0 + 1) (gI s c0 0) v1) c0 0) v2) c0 0) v3) c0 0) ((gI (sI (sI (sI s (c0 + 1) (gI s c0 0) v1) (c0 + 2) (gI (sI s (c0 + 1) (gI s c0 0) v1) c0 0) v2) (c0 + 3) (gI (sI (sI s (c0 + 1) (gI s c0 0) v1) (c0 + 2) (gI (sI s (c0 + 1) (gI s c0 0) v1) c0 0) v2) c0 0) v3) c0 0) + 1)) c0 0) + 1)) c0 0) 0) c0 0) (-1)) c0 0 ((gI (sI (sI (sI (sI (sI (sI (sI s (c0 + 1) (gI s c0 0) v1) (c0 + 2) (gI (sI s (c0 + 1) (gI s c0 0) v1) c0 0) v2) (c0 + 3) (gI (sI (sI s (c0 + 1) (gI s c0 0) v1) (c0 + 2) (gI (sI s (c0 + 1) (gI s c0 0) v1) c0 0) v2) c0 0) v3) (c0 + 4) (gI (sI (sI (sI s (c0 + 1) (gI s c0 0) v1) (c0 + 2) (gI (sI s (c0 + 1) (gI s c0 0) v1) c0 0) v2) (c0 + 3) (gI (sI (sI s (c0 + 1) (gI s c0 0) v1) (c0 + 2) (gI (sI s (c0 + 1) (gI s c0 0) v1) c0 0) v2) c0 0) v3) c0 0) ((gI (sI (sI (sI s (c0 + 1) (gI s c0 0) v1) (c0 + 2) (gI (sI s (c0 + 1) (gI s c0 0) v1) c0 0) v2) (c0 + 3) (gI (sI (sI s (c0 + 1) (gI s c0 0) v1) (c0 + 2) (gI (sI s (c0 + 1) (gI s c0 0) v1) c0 0) v2) c0 0) v3) c0 0) + 1)) (c0 + 5) (gI (sI (sI (sI (sI s (c0 + 1) (gI s c0 0) v1) (c0 + 2) (gI (sI s (c0 + 1) (gI s c0 0) v1) c0 0) v2) (c0 + 3) (gI (sI (sI s (c0 + 1) (gI s c0 0) v1) (c0 + 2) (gI (sI s (c0 + 1) (gI s c0 0) v1) c0 0) v2) c0 0) v3) (c0 + 4) (gI (sI (sI (sI s (c0 + 1) (gI s c0 0) v1) (c0 + 2) (gI (sI s (c0 + 1) (gI s c0 0) v1) c0 0) v2) (c0 + 3) (gI (sI (sI s (c0 + 1) (gI s c0 0) v1) (c0 + 2) (gI (sI s (c0 + 1) (gI s c0 0) v1) c0 0) v2) c0 0) v3) c0 0) ((gI (sI (sI (sI s (c0 + 1) (gI s c0 0) v1) (c0 + 2) (gI (sI s (c0 + 1) (gI s c0 0) v1) c0 0) v2) (c0 + 3) (gI (sI (sI s (c0 + 1) (gI s c0 0) v1) (c0 + 2) (gI (sI s (c0 + 1) (gI s c0 0) v1) c0 0) v2) c0 0) v3) c0 0) + 1)) c0 0) ((gI (sI (sI (sI (sI s (c0 + 1) (gI s c0 0) v1) (c0 + 2) (gI (sI s (c0 + 1) (gI s c0 0) v1) c0 0) v2) (c0 + 3) (gI (sI (sI s (c0 + 1) (gI s c0 0) v1) (c0 + 2) (gI (sI s (c0 + 1) (gI s c0 0) v1) c0 0) v2) c0 0) v3) (c0 + 4) (gI (sI (sI (sI s (c0 + 1) (gI s c0 0) v1) (c0 + 2) (gI (sI s (c0 + 1) (gI s c0 0) v1) c0 0) v2) (c0 + 3) (gI (sI (sI s (c0 + 1) (gI s c0 0) v1) (c0 + 2) (gI (sI s (c0 + 1) (gI s c0 0) v1) c0 0) v2) c0 0) v3) c0 0) ((gI (sI (sI (sI s (c0 + 1) (gI s c0 0) v1) (c0 + 2) (gI (sI s (c0 + 1) (gI s c0 0) v1) c0 0) v2) (c0 + 3) (gI (sI (sI s (c0 + 1) (gI s c0 0) v1) (c0 + 2) (gI (sI s (c0 + 1) (gI s c0 0) v1) c0 0) v2) c0 0) v3) c0 0) + 1)) c0 0) + 1)) (c0 + 6) (gI (sI (sI (sI (sI (sI s (c0 + 1) (gI s c0 0) v1) (c0 + 2) (gI (sI s (c0 + 1) (gI s c0 0) v1) c0 0) v2) (c0 + 3) (gI (sI (sI s (c0 + 1) (gI s c0 0) v1) (c0 + 2) (gI (sI s (c0 + 1) (gI s c0 0) v1) c0 0) v2) c0 0) v3) (c0 + 4) (gI (sI (sI (sI s (c0 + 1) (gI s c0 0) v1) (c0 + 2) (gI (sI s (c0 + 1) (gI s c0 0) v1) c0 0) v2) (c0 + 3) (gI (sI (sI s (c0 + 1) (gI s c0 0) v1) (c0 + 2) (gI (sI s (c0 + 1) (gI s c0 0) v1) c0 0) v2) c0 0) v3) c0 0) ((gI (sI (sI (sI s (c0 + 1) (gI s c0 0) v1) (c0 + 2) (gI (sI s (c0 + 1) (gI s c0 0) v1) c0 0) v2) (c0 + 3) (gI (sI (sI s (c0 + 1) (gI s c0 0) v1) (c0 + 2) (gI (sI s (c0 + 1) (gI s c0 0) v1) c0 0) v2) c0 0) v3) c0 0) + 1)) (c0 + 5) (gI (sI (sI (sI (sI s (c0 + 1) (gI s c0 0) v1) (c0 + 2) (gI (sI s (c0 + 1) (gI s c0 0) v1) c0 0) v2) (c0 + 3) (gI (sI (sI s (c0 + 1) (gI s c0 0) v1) (c0 + 2) (gI (sI s (c0 + 1) (gI s c0 0) v1) c0 0) v2) c0 0) v3) (c0 + 4) (gI (sI (sI (sI s (c0 + 1) (gI s c0 0) v1) (c0 + 2) (gI (sI s (c0 + 1) (gI s c0 0) v1) c0 0) v2) (c0 + 3) (gI (sI (sI s (c0 + 1) (gI s c0 0) v1) (c0 + 2) (gI (sI s (c0 + 1) (gI s c0 0) v1) c0 0) v2) c0 0) v3) c0 0) ((gI (sI (sI (sI s (c0 + 1) (gI s c0 0) v1) (c0 + 2) (gI (sI s (c0 + 1) (gI s c0 0) v1) c0 0) v2) (c0 + 3) (gI (sI (sI s (c0 + 1) (gI s c0 0) v1) (c0 + 2) (gI (sI s (c0 + 1) (gI s c0 0) v1) c0 0) v2) c0 0) v3) c0 0) + 1)) c0 0) ((gI (sI (sI (sI (sI s (c0 + 1) (gI s c0 0) v1) (c0 + 2) (gI (sI s (c0 + 1) (gI s c0 0) v1) c0 0) v2) (c0 + 3) (gI (sI (sI s (c0 + 1) (gI s c0 0) v1) (c0 + 2) (gI (sI s (c0 + 1) (gI s c0 0) v1) c0 0) v2) c0 0) v3) (c0 + 4) (gI (sI (sI (sI s (c0 + 1) (gI s c0 0) v1) (c0 + 2) (gI (sI s (c0 + 1) (gI s c0 0) v1) c0 0) v2) (c0 + 3) (gI (sI (sI s (c0 + 1) (gI s c0 0) v1) (c0 + 2) (gI (sI s (c0 + 1) (gI s c0 0) v1) c0 0) v2) c0 0) v3) c0 0) ((gI (sI (sI (sI s (c0 + 1) (gI s c0 0) v1) (c0 + 2) (gI (sI s (c0 + 1) (gI s c0 0) v1) c0 0) v2) (c0 + 3) (gI (sI (sI s (c0 + 1) (gI s c0 0) v1) (c0 + 2) (gI (sI s (c0 + 1) (gI s c0 0) v1) c0 0) v2) c0 0) v3) c0 0) + 1)) c0 0) + 1)) c0 0) 0) (c0 + 7) (gI (sI (sI (sI (sI (sI (sI s (c0 + 1) (gI s c0 0) v1) (c0 + 2) (gI (sI s (c0 + 1) (gI s c0 0) v1) c0 0) v2) (c0 + 3) (gI (sI (sI s (c0 + 1) (gI s c0 0) v1) (c0 + 2) (gI (sI s (c0 + 1) (gI s c0 0) v1) c0 0) v2) c0 0) v3) (c0 + 4) (gI (sI (sI (sI s (c0 + 1) (gI s c0 0) v1) (c0 + 2) (gI (sI s (c0 + 1) (gI s c0 0) v1) c0 0) v2) (c0 + 3) (gI (sI (sI s (c0 + 1) (gI s c0 0) v1) (c0 + 2) (gI (sI s (c0 + 1) (gI s c0 0) v1) c0 0) v2) c0 0) v3) c0 0) ((gI (sI (sI (sI s (c0 + 1) (gI s c0 0) v1) (c0 + 2) (gI (sI s (c0 + 1) (gI s c0 0) v1) c0 0) v2) (c0 + 3) (gI (sI (sI s (c0 + 1) (gI s c0 0) v1) (c0 + 2) (gI (sI s (c0 + 1) (gI s c0 0) v1) c0 0) v2) c0 0) v3) c0 0) + 1)) (c0 + 5) (gI (sI (sI (sI (sI s (c0 + 1) (gI s c0 0) v1) (c0 + 2) (gI (sI s (c0 + 1) (gI s c0 0) v1) c0 0) v2) (c0 + 3) (gI (sI (sI s (c0 + 1) (gI s c0 0) v1) (c0 + 2) (gI (sI s (c0 + 1) (gI s c0 0) v1) c0 0) v2) c0 0) v3) (c0 + 4) (gI (sI (sI (sI s (c0 + 1) (gI s c0 0) v1) (c0 + 2) (gI (sI s (c0 + 1) (gI s c0 0) v1) c0 0) v2) (c0 + 3) (gI (sI (sI s (c0 + 1) (gI s c0 0) v1) (c0 + 2) (gI (sI s (c0 + 1) (gI s c0 0) v1) c0 0) v2) c0 0) v3) c0 0) ((gI (sI (sI (sI s (c0 + 1) (gI s c0 0) v1) (c0 + 2) (gI (sI s (c0 + 1) (gI s c0 0) v1) c0 0) v2) (c0 + 3) (gI (sI (sI s (c0 + 1) (gI s c0 0) v1) (c0 + 2) (gI (sI s (c0 + 1) (gI s c0 0) v1) c0 0) v2) c0 0) v3) c0 0) + 1)) c0 0) ((gI (sI (sI (sI (sI s (c0 + 1) (gI s c0 0) v1) (c0 + 2) (gI (sI s (c0 + 1) (gI s c0 0) v1) c0 0) v2) (c0 + 3) (gI (sI (sI s (c0 + 1) (gI s c0 0) v1) (c0 + 2) (gI (sI s (c0 + 1) (gI s c0 0) v1) c0 0) v2) c0 0) v3) (c0 + 4) (gI (sI (sI (sI s (c0 + 1) (gI s c0 0) v1) (c0 + 2) (gI (sI s (c0 + 1) (gI s c0 0) v1) c0 0) v2) (c0 + 3) (gI (sI (sI s (c0 + 1) (gI s c0 0) v1) (c0 + 2) (gI (sI s (c0 + 1) (gI s c0 0) v1) c0 0) v2) c0 0) v3) c0 0) ((gI (sI (sI (sI s (c0 + 1) (gI s c0 0) v1) (c0 + 2) (gI (sI s (c0 + 1) (gI s c0 0) v1) c0 0) v2) (c0 + 3) (gI (sI (sI s (c0 + 1) (gI s c0 0) v1) (c0 + 2) (gI (sI s (c0 + 1) (gI s c0 0) v1) c0 0) v2) c0 0) v3) c0 0) + 1)) c0 0) + 1)) (c0 + 6) (gI (sI (sI (sI (sI (sI s (c0 + 1) (gI s c0 0) v1) (c0 + 2) (gI (sI s (c0 + 1) (gI s c0 0) v1) c0 0) v2) (c0 + 3) (gI (sI (sI s (c0 + 1) (gI s c0 0) v1) (c0 + 2) (gI (sI s (c0 + 1) (gI s c0 0) v1) c0 0) v2) c0 0) v3) (c0 + 4) (gI (sI (sI (sI s (c0 + 1) (gI s c0 0) v1) (c0 + 2) (gI (sI s (c0 + 1) (gI s c0 0) v1) c0 0) v2) (c0 + 3) (gI (sI (sI s (c0 + 1) (gI s c0 0) v1) (c0 + 2) (gI (sI s (c0 + 1) (gI s c0 0) v1) c0 0) v2) c0 0) v3) c0 0) ((gI (sI (sI (sI s (c0 + 1) (gI s c0 0) v1) (c0 + 2) (gI (sI s (c0 + 1) (gI s c0 0) v1) c0 0) v2) (c0 + 3) (gI (sI (sI s (c0 + 1) (gI s c0 0) v1) (c0 + 2) (gI (sI s (c0 + 1) (gI s c0 0) v1) c0 0) v2) c0 0) v3) c0 0) + 1)) (c0 + 5) (gI (sI (sI (sI (sI s (c0 + 1) (gI s c0 0) v1) (c0 + 2) (gI (sI s (c0 + 1) (gI s c0 0) v1) c0 0) v2) (c0 + 3) (gI (sI (sI s (c0 + 1) (gI s c0 0) v1) (c0 + 2) (gI (sI s (c0 + 1) (gI s c0 0) v1) c0 0) v2) c0 0) v3) (c0 + 4) (gI (sI (sI (sI s (c0 + 1) (gI s c0 0) v1) (c0 + 2) (gI (sI s (c0 + 1) (gI s c0 0) v1) c0 0) v2) (c0 + 3) (gI (sI (sI s (c0 + 1) (gI s c0 0) v1) (c0 + 2) (gI (sI s (c0 + 1) (gI s c0 0) v1) c0 0) v2) c0 0) v3) c0 0) ((gI (sI (sI (sI s (c0 + 1) (gI s c0 0) v1) (c0 + 2) (gI (sI s (c0 + 1) (gI s c0 0) v1) c0 0) v2) (c0 + 3) (gI (sI (sI s (c0 + 1) (gI s c0 0) v1) (c0 + 2) (gI (sI s (c0 + 1) (gI s c0 0) v1) c0 0) v2) c0 0) v3) c0 0) + 1)) c0 0) ((gI (sI (sI (sI (sI s (c0 + 1) (gI s c0 0) v1) (c0 + 2) (gI (sI s (c0 + 1) (gI s c0 0) v1) c0 0) v2) (c0 + 3) (gI (sI (sI s (c0 + 1) (gI s c0 0) v1) (c0 + 2) (gI (sI s (c0 + 1) (gI s c0 0) v1) c0 0) v2) c0 0) v3) (c0 + 4) (gI (sI (sI (sI s (c0 + 1) (gI s c0 0) v1) (c0 + 2) (gI (sI s (c0 + 1) (gI s c0 0) v1) c0 0) v2) (c0 + 3) (gI (sI (sI s (c0 + 1) (gI s c0 0) v1) (c0 + 2) (gI (sI s (c0 + 1) (gI s c0 0) v1) c0 0) v2) c0 0) v3) c0 0) ((gI (sI (sI (sI s (c0 + 1) (gI s c0 0) v1) (c0 + 2) (gI (sI s (c0 + 1) (gI s c0 0) v1) c0 0) v2) (c0 + 3) (gI (sI (sI s (c0 + 1) (gI s c0 0) v1) (c0 + 2) (gI (sI s (c0 + 1) (gI s c0 0) v1) c0 0) v2) c0 0) v3) c0 0) + 1)) c0 0) + 1)) c0 0) 0) c0 0) (-1)) c0 0) + 1)) c0 0) - 1), (sI (sI (sI (sI (sI (sI (sI (sI s (c0 + 1) (gI s c0 0) v1) (c0 + 2) (gI (sI s (c0 + 1) (gI s c0 0) v1) c0 0) v2) (c0 + 3) (gI (sI (sI s (c0 + 1) (gI s c0 0) v1) (c0 + 2) (gI (sI s (c0 + 1) (gI s c0 0) v1) c0 0) v2) c0 0) v3) (c0 + 4) (gI (sI (sI (sI s (c0 + 1) (gI s c0 0) v1) (c0 + 2) (gI (sI s (c0 + 1) (gI s c0 0) v1) c0 0) v2) (c0 + 3) (gI (sI (sI s (c0 + 1) (gI s c0 0) v1) (c0 + 2) (gI (sI s (c0 + 1) (gI s c0 0) v1) c0 0) v2) c0 0) v3) c0 0) ((gI (sI (sI (sI s (c0 + 1) (gI s c0 0) v1) (c0 + 2) (gI (sI s (c0 + 1) (gI s c0 0) v1) c0 0) v2) (c0 + 3) (gI (sI (sI s (c0 + 1) (gI s c0 0) v1) (c0 + 2) (gI (sI s (c0 + 1) (gI s c0 0) v1) c0 0) v2) c0 0) v3) c0 0) + 1)) (c0 + 5) (gI (sI (sI (sI (sI s (c0 + 1) (gI s c0 0) v1) (c0 + 2) (gI (sI s (c0 + 1) (gI s c0 0) v1) c0 0) v2) (c0 + 3) (gI (sI (sI s (c0 + 1) (gI s c0 0) v1) (c0 + 2) (gI (sI s (c0 + 1) (gI s c0 0) v1) c0 0) v2) c0 0) v3) (c0 + 4) (gI (sI (sI (sI s (c0 + 1) (gI s c0 0) v1) (c0 + 2) (gI (sI s (c0 + 1) (gI s c0 0) v1) c0 0) v2) (c0 + 3) (gI (sI (sI s (c0 + 1) (gI s c0 0) v1) (c0 + 2) (gI (sI s (c0 + 1) (gI s c0 0) v1) c0 0) v2) c0 0) v3) c0 0) ((gI (sI (sI (sI s (c0 + 1) (gI s c0 0) v1) (c0 + 2) (gI (sI s (c0 + 1) (gI s c0 0) v1) c0 0) v2) (c0 + 3) (gI (sI (sI s (c0 + 1) (gI s c0 0) v1) (c0 + 2) (gI (sI s (c0 + 1) (gI s c0 0) v1) c0 0) v2) c0 0) v3) c0 0) + 1)) c0 0) ((gI (sI (sI (sI (sI s (c0 + 1) (gI s c0 0) v1) (c0 + 2) (gI (sI s (c0 + 1) (gI s c0 0) v1) c0 0) v2) (c0 + 3) (gI (sI (sI s (c0 + 1) (gI s c0 0) v1) (c0 + 2) (gI (sI s (c0 + 1) (gI s c0 0) v1) c0 0) v2) c0 0) v3) (c0 + 4) (gI (sI (sI (sI s (c0 + 1) (gI s c0 0) v1) (c0 + 2) (gI (sI s (c0 + 1) (gI s c0 0) v1) c0 0) v2) (c0 + 3) (gI (sI (sI s (c0 + 1) (gI s c0 0) v1) (c0 + 2) (gI (sI s (c0 + 1) (gI s c0 0) v1) c0 0) v2) c0 0) v3) c0 0) ((gI (sI (sI (sI s (c0 + 1) (gI s c0 0) v1) (c0 + 2) (gI (sI s (c0 + 1) (gI s c0 0) v1) c0 0) v2) (c0 + 3) (gI (sI (sI s (c0 + 1) (gI s c0 0) v1) (c0 + 2) (gI (sI s (c0 + 1) (gI s c0 0) v1) c0 0) v2) c0 0) v3) c0 0) + 1)) c0 0) + 1)) (c0 + 6) (gI (sI (sI (sI (sI (sI s (c0 + 1) (gI s c0 0) v1) (c0 + 2) (gI (sI s (c0 + 1) (gI s c0 0) v1) c0 0) v2) (c0 + 3) (gI (sI (sI s (c0 + 1) (gI s c0 0) v1) (c0 + 2) (gI (sI s (c0 + 1) (gI s c0 0) v1) c0 0) v2) c0 0) v3) (c0 + 4) (gI (sI (sI (sI s (c0 + 1) (gI s c0 0) v1) (c0 + 2) (gI (sI s (c0 + 1) (gI s c0 0) v1) c0 0) v2) (c0 + 3) (gI (sI (sI s (c0 + 1) (gI s c0 0) v1) (c0 + 2) (gI (sI s (c0 + 1) (gI s c0 0) v1) c0 0) v2) c0 0) v3) c0 0) ((gI (sI (sI (sI s (c0 + 1) (gI s c0 0) v1) (c0 + 2) (gI (sI s (c0 + 1) (gI s c0 0) v1) c0 0) v2) (c0 + 3) (gI (sI (sI s (c0 + 1) (gI s c0 0) v1) (c0 + 2) (gI (sI s (c0 + 1) (gI s c0 0) v1) c0 0) v2) c0 0) v3) c0 0) + 1)) (c0 + 5) (gI (sI (sI (sI (sI s (c0 + 1) (gI s c0 0) v1) (c0 + 2) (gI (sI s (c0 + 1) (gI s c0 0) v1) c0 0) v2) (c0 + 3) (gI (sI (sI s (c0 + 1) (gI s c0 0) v1) (c0 + 2) (gI (sI s (c0 + 1) (gI s c0 0) v1) c0 0) v2) c0 0) v3) (c0 + 4) (gI (sI (sI (sI s (c0 + 1) (gI s c0 0) v1) (c0 + 2) (gI (sI s (c0 + 1) (gI s c0 0) v1) c0 0) v2) (c0 + 3) (gI (sI (sI s (c0 + 1) (gI s c0 0) v1) (c0 + 2) (gI (sI s (c0 + 1) (gI s c0 0) v1) c0 0) v2) c0 0) v3) c0 0) ((gI (sI (sI (sI s (c0 + 1) (gI s c0 0) v1) (c0 + 2) (gI (sI s (c0 + 1) (gI s c0 0) v1) c0 0) v2) (c0 + 3) (gI (sI (sI s (c0 + 1) (gI s c0 0) v1) (c0 + 2) (gI (sI s (c0 + 1) (gI s c0 0) v1) c0 0) v2) c0 0) v3) c0 0) + 1)) c0 0) ((gI (sI (sI (sI (sI s (c0 + 1) (gI s c0 0) v1) (c0 + 2) (gI (sI s (c0 + 1) (gI s c0 0) v1) c0 0) v2) (c0 + 3) (gI (sI (sI s (c0 + 1) (gI s c0 0) v1) (c0 + 2) (gI (sI s (c0 + 1) (gI s c0 0) v1) c0 0) v2) c0 0) v3) (c0 + 4) (gI (sI (sI (sI s (c0 + 1) (gI s c0 0) v1) (c0 + 2) (gI (sI s (c0 + 1) (gI s c0 0) v1) c0 0) v2) (c0 + 3) (gI (sI (sI s (c0 + 1) (gI s c0 0) v1) (c0 + 2) (gI (sI s (c0 + 1) (gI s c0 0) v1) c0 0) v2) c0 0) v3) c0 0) ((gI (sI (sI (sI s (c0 + 1) (gI s c0 0) v1) (c0 + 2) (gI (sI s (c0 + 1) (gI s c0 0) v1) c0 0) v2) (c0 + 3) (gI (sI (sI s (c0 + 1) (gI s c0 0) v1) (c0 + 2) (gI (sI s (c0 + 1) (gI s c0 0) v1) c0 0) v2) c0 0) v3) c0 0) + 1)) c0 0) + 1)) c0 0) 0) (c0 + 7) (gI (sI (sI (sI (sI (sI (sI s (c0 + 1) (gI s c0 0) v1) (c0 + 2) (gI (sI s (c0 + 1) (gI s c0 0) v1) c0 0) v2) (c0 + 3) (gI (sI (sI s (c0 + 1) (gI s c0 0) v1) (c0 + 2) (gI (sI s (c0 + 1) (gI s c0 0) v1) c0 0) v2) c0 0) v3) (c0 + 4) (gI (sI (sI (sI s (c0 + 1) (gI s c0 0) v1) (c0 + 2) (gI (sI s (c0 + 1) (gI s c0 0) v1) c0 0) v2) (c0 + 3) (gI (sI (sI s (c0 + 1) (gI s c0 0) v1) (c0 + 2) (gI (sI s (c0 + 1) (gI s c0 0) v1) c0 0) v2) c0 0) v3) c0 0) ((gI (sI (sI (sI s (c0 + 1) (gI s c0 0) v1) (c0 + 2) (gI (sI s (c0 + 1) (gI s c0 0) v1) c0 0) v2) (c0 + 3) (gI (sI (sI s (c0 + 1) (gI s c0 0) v1) (c0 + 2) (gI (sI s (c0 + 1) (gI s c0 0) v1) c0 0) v2) c0 0) v3) c0 0) + 1)) (c0 + 5) (gI (sI (sI (sI (sI s (c0 + 1) (gI s c0 0) v1) (c0 + 2) (gI (sI s (c0 + 1) (gI s c0 0) v1) c0 0) v2) (c0 + 3) (gI (sI (sI s (c0 + 1) (gI s c0 0) v1) (c0 + 2) (gI (sI s (c0 + 1) (gI s c0 0) v1) c0 0) v2) c0 0) v3) (c0 + 4) (gI (sI (sI (sI s (c0 + 1) (gI s c0 0) v1) (c0 + 2) (gI (sI s (c0 + 1) (gI s c0 0) v1) c0 0) v2) (c0 + 3) (gI (sI (sI s (c0 + 1) (gI s c0 0) v1) (c0 + 2) (gI (sI s (c0 + 1) (gI s c0 0) v1) c0 0) v2) c0 0) v3) c0 0) ((gI (sI (sI (sI s (c0 + 1) (gI s c0 0) v1) (c0 + 2) (gI (sI s (c0 + 1) (gI s c0 0) v1) c0 0) v2) (c0 + 3) (gI (sI (sI s (c0 + 1) (gI s c0 0) v1) (c0 + 2) (gI (sI s (c0 + 1) (gI s c0 0) v1) c0 0) v2) c0 0) v3) c0 0) + 1)) c0 0) ((gI (sI (sI (sI (sI s (c0 + 1) (gI s c0 0) v1) (c0 + 2) (gI (sI s (c0 + 1) (gI s c0 0) v1) c0 0) v2) (c0 + 3) (gI (sI (sI s (c0 + 1) (gI s c0 0) v1) (c0 + 2) (gI (sI s (c0 + 1) (gI s c0 0) v1) c0 0) v2) c0 0) v3) (c0 + 4) (gI (sI (sI (sI s (c0 + 1) (gI s c0 0) v1) (c0 + 2) (gI (sI s (c0 + 1) (gI s c0 0) v1) c0 0) v2) (c0 + 3) (gI (sI (sI s (c0 + 1) (gI s c0 0) v1) (c0 + 2) (gI (sI s (c0 + 1) (gI s c0 0) v1) c0 0) v2) c0 0) v3) c0 0) ((gI (sI (sI (sI s (c0 + 1) (gI s c0 0) v1) (c0 + 2) (gI (sI s (c0 + 1) (gI s c0 0) v1) c0 0) v2) (c0 + 3) (gI (sI (sI s (c0 + 1) (gI s c0 0) v1) (c0 + 2) (gI (sI s (c0 + 1) (gI s c0 0) v1) c0 0) v2) c0 0) v3) c0 0) + 1)) c0 0) + 1)) (c0 + 6) (gI (sI (sI (sI (sI (sI s (c0 + 1) (gI s c0 0) v1) (c0 + 2) (gI (sI s (c0 + 1) (gI s c0 0) v1) c0 0) v2) (c0 + 3) (gI (sI (sI s (c0 + 1) (gI s c0 0) v1) (c0 + 2) (gI (sI s (c0 + 1) (gI s c0 0) v1) c0 0) v2) c0 0) v3) (c0 + 4) (gI (sI (sI (sI s (c0 + 1) (gI s c0 0) v1) (c0 + 2) (gI (sI s (c0 + 1) (gI s c0 0) v1) c0 0) v2) (c0 + 3) (gI (sI (sI s (c0 + 1) (gI s c0 0) v1) (c0 + 2) (gI (sI s (c0 + 1) (gI s c0 0) v1) c0 0) v2) c0 0) v3) c0 0) ((gI (sI (sI (sI s (c0 + 1) (gI s c0 0) v1) (c0 + 2) (gI (sI s (c0 + 1) (gI s c0 0) v1) c0 0) v2) (c0 + 3) (gI (sI (sI s (c0 + 1) (gI s c0 0) v1) (c0 + 2) (gI (sI s (c0 + 1) (gI s c0 0) v1) c0 0) v2) c0 0) v3) c0 0) + 1)) (c0 + 5) (gI (sI (sI (sI (sI s (c0 + 1) (gI s c0 0) v1) (c0 + 2) (gI (sI s (c0 + 1) (gI s c0 0) v1) c0 0) v2) (c0 + 3) (gI (sI (sI s (c0 + 1) (gI s c0 0) v1) (c0 + 2) (gI (sI s (c0 + 1) (gI s c0 0) v1) c0 0) v2) c0 0) v3) (c0 + 4) (gI (sI (sI (sI s (c0 + 1) (gI s c0 0) v1) (c0 + 2) (gI (sI s (c0 + 1) (gI s c0 0) v1) c0 0) v2) (c0 + 3) (gI (sI (sI s (c0 + 1) (gI s c0 0) v1) (c0 + 2) (gI (sI s (c0 + 1) (gI s c0 0) v1) c0 0) v2) c0 0) v3) c0 0) ((gI (sI (sI (sI s (c0 + 1) (gI s c0 0) v1) (c0 + 2) (gI (sI s (c0 + 1) (gI s c0 0) v1) c0 0) v2) (c0 + 3) (gI (sI (sI s (c0 + 1) (gI s c0 0) v1) (c0 + 2) (gI (sI s (c0 + 1) (gI s c0 0) v1) c0 0) v2) c0 0) v3) c0 0) + 1)) c0 0) ((gI (sI (sI (sI (sI s (c0 + 1) (gI s c0 0) v1) (c0 + 2) (gI (sI s (c0 + 1) (gI s c0 0) v1) c0 0) v2) (c0 + 3) (gI (sI (sI s (c0 + 1) (gI s c0 0) v1) (c0 + 2) (gI (sI s (c0 + 1) (gI s c0 0) v1) c0 0) v2) c0 0) v3) (c0 + 4) (gI (sI (sI (sI s (c0 + 1) (gI s c0 0) v1) (c0 + 2) (gI (sI s (c0 + 1) (gI s c0 0) v1) c0 0) v2) (c0 + 3) (gI (sI (sI s (c0 + 1) (gI s c0 0) v1) (c0 + 2) (gI (sI s (c0 + 1) (gI s c0 0) v1) c0 0) v2) c0 0) v3) c0 0) ((gI (sI (sI (sI s (c0 + 1) (gI s c0 0) v1) (c0 + 2) (gI (sI s (c0 + 1) (gI s c0 0) v1) c0 0) v2) (c0 + 3) (gI (sI (sI s (c0 + 1) (gI s c0 0) v1) (c0 + 2) (gI (sI s (c0 + 1) (gI s c0 0) v1) c0 0) v2) c0 0) v3) c0 0) + 1)) c0 0) + 1)) c0 0) 0) c0 0) (-1)) c0 0 ((gI (sI (sI (sI (sI (sI (sI (sI s (c0 + 1) (gI s c0 0) v1) (c0 + 2) (gI (sI s (c0 + 1) (gI s c0 0) v1) c0 0) v2) (c0 + 3) (gI (sI (sI s (c0 + 1) (gI s c0 0) v1) (c0 + 2) (gI (sI s (c0 + 1) (gI s c0 0) v1) c0 0) v2) c0 0) v3) (c0 + 4) (gI (sI (sI (sI s (c0 + 1) (gI s c0 0) v1) (c0 + 2) (gI (sI s (c0 + 1) (gI s c0 0) v1) c0 0) v2) (c0 + 3) (gI (sI (sI s (c0 + 1) (gI s c0 0) v1) (c0 + 2) (gI (sI s (c0 + 1) (gI s c0 0) v1) c0 0) v2) c0 0) v3) c0 0) ((gI (sI (sI (sI s (c0 + 1) (gI s c0 0) v1) (c0 + 2) (gI (sI s (c0 + 1) (gI s c0 0) v1) c0 0) v2) (c0 + 3) (gI (sI (sI s (c0 + 1) (gI s c0 0) v1) (c0 + 2) (gI (sI s (c0 + 1) (gI s c0 0) v1) c0 0) v2) c0 0) v3) c0 0) + 1)) (c0 + 5) (gI (sI (sI (sI (sI s (c0 + 1) (gI s c0 0) v1) (c0 + 2) (gI (sI s (c0 + 1) (gI s c0 0) v1) c0 0) v2) (c0 + 3) (gI (sI (sI s (c0 + 1) (gI s c0 0) v1) (c0 + 2) (gI (sI s (c0 + 1) (gI s c0 0) v1) c0 0) v2) c0 0) v3) (c0 + 4) (gI (sI (sI (sI s (c0 + 1) (gI s c0 0) v1) (c0 + 2) (gI (sI s (c0 + 1) (gI s c0 0) v1) c0 0) v2) (c0 + 3) (gI (sI (sI s (c0 + 1) (gI s c0 0) v1) (c0 + 2) (gI (sI s (c0 + 1) (gI s c0 0) v1) c0 0) v2) c0 0) v3) c0 0) ((gI (sI (sI (sI s (c0 + 1) (gI s c0 0) v1) (c0 + 2) (gI (sI s (c0 + 1) (gI s c0 0) v1) c0 0) v2) (c0 + 3) (gI (sI (sI s (c0 + 1) (gI s c0 0) v1) (c0 + 2) (gI (sI s (c0 + 1) (gI s c0 0) v1) c0 0) v2) c0 0) v3) c0 0) + 1)) c0 0) ((gI (sI (sI (sI (sI s (c0 + 1) (gI s c0 0) v1) (c0 + 2) (gI (sI s (c0 + 1) (gI s c0 0) v1) c0 0) v2) (c0 + 3) (gI (sI (sI s (c0 + 1) (gI s c0 0) v1) (c0 + 2) (gI (sI s (c0 + 1) (gI s c0 0) v1) c0 0) v2) c0 0) v3) (c0 + 4) (gI (sI (sI (sI s (c0 + 1) (gI s c0 0) v1) (c0 + 2) (gI (sI s (c0 + 1) (gI s c0 0) v1) c0 0) v2) (c0 + 3) (gI (sI (sI s (c0 + 1) (gI s c0 0) v1) (c0 + 2) (gI (sI s (c0 + 1) (gI s c0 0) v1) c0 0) v2) c0 0) v3) c0 0) ((gI (sI (sI (sI s (c0 + 1) (gI s c0 0) v1) (c0 + 2) (gI (sI s (c0 + 1) (gI s c0 0) v1) c0 0) v2) (c0 + 3) (gI (sI (sI s (c0 + 1) (gI s c0 0) v1) (c0 + 2) (gI (sI s (c0 + 1) (gI s c0 0) v1) c0 0) v2) c0 0) v3) c0 0) + 1)) c0 0) + 1)) (c0 + 6) (gI (sI (sI (sI (sI (sI s (c0 + 1) (gI s c0 0) v1) (c0 + 2) (gI (sI s (c0 + 1) (gI s c0 0) v1) c0 0) v2) (c0 + 3) (gI (sI (sI s (c0 + 1) (gI s c0 0) v1) (c0 + 2) (gI (sI s (c0 + 1) (gI s c0 0) v1) c0 0) v2) c0 0) v3) (c0 + 4) (gI (sI (sI (sI s (c0 + 1) (gI s c0 0) v1) (c0 + 2) (gI (sI s (c0 + 1) (gI s c0 0) v1) c0 0) v2) (c0 + 3) (gI (sI (sI s (c0 + 1) (gI s c0 0) v1) (c0 + 2) (gI (sI s (c0 + 1) (gI s c0 0) v1) c0 0) v2) c0 0) v3) c0 0) ((gI (sI (sI (sI s (c0 + 1) (gI s c0 0) v1) (c0 + 2) (gI (sI s (c0 + 1) (gI s c0 0) v1) c0 0) v2) (c0 + 3) (gI (sI (sI s (c0 + 1) (gI s c0 0) v1) (c0 + 2) (gI (sI s (c0 + 1) (gI s c0 0) v1) c0 0) v2) c0 0) v3) c0 0) + 1)) (c0 + 5) (gI (sI (sI (sI (sI s (c0 + 1) (gI s c0 0) v1) (c0 + 2) (gI (sI s (c0 + 1) (gI s c0 0) v1) c0 0) v2) (c0 + 3) (gI (sI (sI s (c0 + 1) (gI s c0 0) v1) (c0 + 2) (gI (sI s (c0 + 1) (gI s c0 0) v1) c0 0) v2) c0 0) v3) (c0 + 4) (gI (sI (sI (sI s (c0 + 1) (gI s c0 0) v1) (c0 + 2) (gI (sI s (c0 + 1) (gI s c0 0) v1) c0 0) v2) (c0 + 3) (gI (sI (sI s (c0 + 1) (gI s c0 0) v1) (c0 + 2) (gI (sI s (c0 + 1) (gI s c0 0) v1) c0 0) v2) c0 0) v3) c0 0) ((gI (sI (sI (sI s (c0 + 1) (gI s c0 0) v1) (c0 + 2) (gI (sI s (c0 + 1) (gI s c0 0) v1) c0 0) v2) (c0 + 3) (gI (sI (sI s (c0 + 1) (gI s c0 0) v1) (c0 + 2) (gI (sI s (c0 + 1) (gI s c0 0) v1) c0 0) v2) c0 0) v3) c0 0) + 1)) c0 0) ((gI (sI (sI (sI (sI s (c0 + 1) (gI s c0 0) v1) (c0 + 2) (gI (sI s (c0 + 1) (gI s c0 0) v1) c0 0) v2) (c0 + 3) (gI (sI (sI s (c0 + 1) (gI s c0 0) v1) (c0 + 2) (gI (sI s (c0 + 1) (gI s c0 0) v1) c0 0) v2) c0 0) v3) (c0 + 4) (gI (sI (sI (sI s (c0 + 1) (gI s c0 0) v1) (c0 + 2) (gI (sI s (c0 + 1) (gI s c0 0) v1) c0 0) v2) (c0 + 3) (gI (sI (sI s (c0 + 1) (gI s c0 0) v1) (c0 + 2) (gI (sI s (c0 + 1) (gI s c0 0) v1) c0 0) v2) c0 0) v3) c0 0) ((gI (sI (sI (sI s (c0 + 1) (gI s c0 0) v1) (c0 + 2) (gI (sI s (c0 + 1) (gI s c0 0) v1) c0 0) v2) (c0 + 3) (gI (sI (sI s (c0 + 1) (gI s c0 0) v1) (c0 + 2) (gI (sI s (c0 + 1) (gI s c0 0) v1) c0 0) v2) c0 0) v3) c0 0) + 1)) c0 0) + 1)) c0 0) 0) (c0 + 7) (gI (sI (sI (sI (sI (sI (sI s (c0 + 1) (gI s c0 0) v1) (c0 + 2) (gI (sI s (c0 + 1) (gI s c0 0) v1) c0 0) v2) (c0 + 3) (gI (sI (sI s (c0 + 1) (gI s c0 0) v1) (c0 + 2) (gI (sI s (c0 + 1) (gI s c0 0) v1) c0 0) v2) c0 0) v3) (c0 + 4) (gI (sI (sI (sI s (c0 + 1) (gI s c0 0) v1) (c0 + 2) (gI (sI s (c0 + 1) (gI s c0 0) v1) c0 0) v2) (c0 + 3) (gI (sI (sI s (c0 + 1) (gI s c0 0) v1) (c0 + 2) (gI (sI s (c0 + 1) (gI s c0 0) v1) c0 0) v2) c0 0) v3) c0 0) ((gI (sI (sI (sI s (c0 + 1) (gI s c0 0) v1) (c0 + 2) (gI (sI s (c0 + 1) (gI s c0 0) v1) c0 0) v2) (c0 + 3) (gI (sI (sI s (c0 + 1) (gI s c0 0) v1) (c0 + 2) (gI (sI s (c0 + 1) (gI s c0 0) v1) c0 0) v2) c0 0) v3) c0 0) + 1)) (c0 + 5) (gI (sI (sI (sI (sI s (c0 + 1) (gI s c0 0) v1) (c0 + 2) (gI (sI s (c0 + 1) (gI s c0 0) v1) c0 0) v2) (c0 + 3) (gI (sI (sI s (c0 + 1) (gI s c0 0) v1) (c0 + 2) (gI (sI s (c0 + 1) (gI s c0 0) v1) c0 0) v2) c0 0) v3) (c0 + 4) (gI (sI (sI (sI s (c0 + 1) (gI s c0 0) v1) (c0 + 2) (gI (sI s (c0 + 1) (gI s c0 0) v1) c0 0) v2) (c0 + 3) (gI (sI (sI s (c0 + 1) (gI s c0 0) v1) (c0 + 2) (gI (sI s (c0 + 1) (gI s c0 0) v1) c0 0) v2) c0 0) v3) c0 0) ((gI (sI (sI (sI s (c0 + 1) (gI s c0 0) v1) (c0 + 2) (gI (sI s (c0 + 1) (gI s c0 0) v1) c0 0) v2) (c0 + 3) (gI (sI (sI s (c0 + 1) (gI s c0 0) v1) (c0 + 2) (gI (sI s (c0 + 1) (gI s c0 0) v1) c0 0) v2) c0 0) v3) c0 0) + 1)) c0 0) ((gI (sI (sI (sI (sI s (c0 + 1) (gI s c0 0) v1) (c0 + 2) (gI (sI s (c0 + 1) (gI s c0 0) v1) c0 0) v2) (c0 + 3) (gI (sI (sI s (c0 + 1) (gI s c0 0) v1) (c0 + 2) (gI (sI s (c0 + 1) (gI s c0 0) v1) c0 0) v2) c0 0) v3) (c0 + 4) (gI (sI (sI (sI s (c0 + 1) (gI s c0 0) v1) (c0 + 2) (gI (sI s (c0 + 1) (gI s c0 0) v1) c0 0) v2) (c0 + 3) (gI (sI (sI s (c0 + 1) (gI s c0 0) v1) (c0 + 2) (gI (sI s (c0 + 1) (gI s c0 0) v1) c0 0) v2) c0 0) v3) c0 0) ((gI (sI (sI (sI s (c0 + 1) (gI s c0 0) v1) (c0 + 2) (gI (sI s (c0 + 1) (gI s c0 0) v1) c0 0) v2) (c0 + 3) (gI (sI (sI s (c0 + 1) (gI s c0 0) v1) (c0 + 2) (gI (sI s (c0 + 1) (gI s c0 0) v1) c0 0) v2) c0 0) v3) c0 0) + 1)) c0 0) + 1)) (c0 + 6) (gI (sI (sI (sI (sI (sI s (c0 + 1) (gI s c0 0) v1) (c0 + 2) (gI (sI s (c0 + 1) (gI s c0 0) v1) c0 0) v2) (c0 + 3) (gI (sI (sI s (c0 + 1) (gI s c0 0) v1) (c0 + 2) (gI (sI s (c0 + 1) (gI s c0 0) v1) c0 0) v2) c0 0) v3) (c0 + 4) (gI (sI (sI (sI s (c0 + 1) (gI s c0 0) v1) (c0 + 2) (gI (sI s (c0 + 1) (gI s c0 0) v1) c0 0) v2) (c0 + 3) (gI (sI (sI s (c0 + 1) (gI s c0 0) v1) (c0 + 2) (gI (sI s (c0 + 1) (gI s c0 0) v1) c0 0) v2) c0 0) v3) c0 0) ((gI (sI (sI (sI s (c0 + 1) (gI s c0 0) v1) (c0 + 2) (gI (sI s (c0 + 1) (gI s c0 0) v1) c0 0) v2) (c0 + 3) (gI (sI (sI s (c0 + 1) (gI s c0 0) v1) (c0 + 2) (gI (sI s (c0 + 1) (gI s c0 0) v1) c0 0) v2) c0 0) v3) c0 0) + 1)) (c0 + 5) (gI (sI (sI (sI (sI s (c0 + 1) (gI s c0 0) v1) (c0 + 2) (gI (sI s (c0 + 1) (gI s c0 0) v1) c0 0) v2) (c0 + 3) (gI (sI (sI s (c0 + 1) (gI s c0 0) v1) (c0 + 2) (gI (sI s (c0 + 1) (gI s c0 0) v1) c0 0) v2) c0 0) v3) (c0 + 4) (gI (sI (sI (sI s (c0 + 1) (gI s c0 0) v1) (c0 + 2) (gI (sI s (c0 + 1) (gI s c0 0) v1) c0 0) v2) (c0 + 3) (gI (sI (sI s (c0 + 1) (gI s c0 0) v1) (c0 + 2) (gI (sI s (c0 + 1) (gI s c0 0) v1) c0 0) v2) c0 0) v3) c0 0) ((gI (sI (sI (sI s (c0 + 1) (gI s c0 0) v1) (c0 + 2) (gI (sI s (c0 + 1) (gI s c0 0) v1) c0 0) v2) (c0 + 3) (gI (sI (sI s (c0 + 1) (gI s c0 0) v1) (c0 + 2) (gI (sI s (c0 + 1) (gI s c0 0) v1) c0 0) v2) c0 0) v3) c0 0) + 1)) c0 0) ((gI (sI (sI (sI (sI s (c0 + 1) (gI s c0 0) v1) (c0 + 2) (gI (sI s (c0 + 1) (gI s c0 0) v1) c0 0) v2) (c0 + 3) (gI (sI (sI s (c0 + 1) (gI s c0 0) v1) (c0 + 2) (gI (sI s (c0 + 1) (gI s c0 0) v1) c0 0) v2) c0 0) v3) (c0 + 4) (gI (sI (sI (sI s (c0 + 1) (gI s c0 0) v1) (c0 + 2) (gI (sI s (c0 + 1) (gI s c0 0) v1) c0 0) v2) (c0 + 3) (gI (sI (sI s (c0 + 1) (gI s c0 0) v1) (c0 + 2) (gI (sI s (c0 + 1) (gI s c0 0) v1) c0 0) v2) c0 0) v3) c0 0) ((gI (sI (sI (sI s (c0 + 1) (gI s c0 0) v1) (c0 + 2) (gI (sI s (c0 + 1) (gI s c0 0) v1) c0 0) v2) (c0 + 3) (gI (sI (sI s (c0 + 1) (gI s c0 0) v1) (c0 + 2) (gI (sI s (c0 + 1) (gI s c0 0) v1) c0 0) v2) c0 0) v3) c0 0) + 1)) c0 0) + 1)) c0 0) 0) c0 0) (-1)) c0 0) + 1))))))))))) else (some (199, s)))
theorem w_139 {k : zK} {d : Nat} {x : am_H} {c0 : Nat} {v1 : Int} {v2 : Int} {v3 : Int} {s : zS} {q : (Int × zS)} (hd : 0 ≤ d) (h : f_139 c0 v1 v2 v3 s = some q) : zgo k d 139 (0, [(0, .ref c0), (1, .int (Int32.ofInt v1)), (2, .int (Int32.ofInt v2)), (3, .int (Int32.ofInt v3))], []) (hp s ++ x) (.inl (some (.int (Int32.ofInt q.1))), hp q.2 ++ x) := by
  unfold f_139 at h
  have hM := xM_139 k.1
  refine g_aload_n 1 hM rfl rfl rfl ?_
  obtain ⟨hg1, h⟩ := zg_some h
  refine g_getI 4 0 (gI s c0 0) hM rfl rfl rfl (zC_obj hg1) rfl rfl rfl ?_
  refine g_sipush 7 hM rfl rfl rfl ?_
  by_cases hc2 : (gI s c0 0) < 200
  · rw [if_pos hc2] at h
    refine g_ic_lt_t 14 hM rfl rfl (zR_gI _ _ _) (zR_lit rfl) hc2 ?_
    refine g_aload_n 15 hM rfl rfl rfl ?_
    refine g_getR 18 hM rfl rfl rfl (zC_obj hg1) rfl ?_
    refine g_aload_n 19 hM rfl rfl rfl ?_
    refine g_getI 22 0 (gI s c0 0) hM rfl rfl rfl (zC_obj hg1) rfl rfl rfl ?_
    refine g_iload_n 23 hM rfl rfl rfl ?_
    obtain ⟨hg3, h⟩ := zg_some h
    refine g_iastore 24 hM rfl rfl (zC_a1 hg1) rfl hg3 ?_
    refine g_aload_n 25 hM rfl rfl rfl ?_
    refine g_getR 28 hM rfl rfl rfl (zC_obj hg1) rfl ?_
    refine g_aload_n 29 hM rfl rfl rfl ?_
    refine g_getI 32 0 (gI (sI s (c0 + 1) (gI s c0 0) v1) c0 0) hM rfl rfl rfl (zC_obj hg1) rfl rfl rfl ?_
    refine g_iload_n 33 hM rfl rfl rfl ?_
    obtain ⟨hg4, h⟩ := zg_some h
    refine g_iastore 34 hM rfl rfl (zC_a2 hg1) rfl hg4 ?_
    refine g_aload_n 35 hM rfl rfl rfl ?_
    refine g_getR 38 hM rfl rfl rfl (zC_obj hg1) rfl ?_
    refine g_aload_n 39 hM rfl rfl rfl ?_
    refine g_getI 42 0 (gI (sI (sI s (c0 + 1) (gI s c0 0) v1) (c0 + 2) (gI (sI s (c0 + 1) (gI s c0 0) v1) c0 0) v2) c0 0) hM rfl rfl rfl (zC_obj hg1) rfl rfl rfl ?_
    refine g_iload_n 43 hM rfl rfl rfl ?_
    obtain ⟨hg5, h⟩ := zg_some h
    refine g_iastore 44 hM rfl rfl (zC_a3 hg1) rfl hg5 ?_
    refine g_aload_n 45 hM rfl rfl rfl ?_
    refine g_getR 48 hM rfl rfl rfl (zC_obj hg1) rfl ?_
    refine g_aload_n 49 hM rfl rfl rfl ?_
    refine g_getI 52 0 (gI (sI (sI (sI s (c0 + 1) (gI s c0 0) v1) (c0 + 2) (gI (sI s (c0 + 1) (gI s c0 0) v1) c0 0) v2) (c0 + 3) (gI (sI (sI s (c0 + 1) (gI s c0 0) v1) (c0 + 2) (gI (sI s (c0 + 1) (gI s c0 0) v1) c0 0) v2) c0 0) v3) c0 0) hM rfl rfl rfl (zC_obj hg1) rfl rfl rfl ?_
    refine g_aload_n 53 hM rfl rfl rfl ?_
    refine g_getI 56 0 (gI (sI (sI (sI s (c0 + 1) (gI s c0 0) v1) (c0 + 2) (gI (sI s (c0 + 1) (gI s c0 0) v1) c0 0) v2) (c0 + 3) (gI (sI (sI s (c0 + 1) (gI s c0 0) v1) (c0 + 2) (gI (sI s (c0 + 1) (gI s c0 0) v1) c0 0) v2) c0 0) v3) c0 0) hM rfl rfl rfl (zC_obj hg1) rfl rfl rfl ?_
    refine g_iconst 57 hM rfl rfl ?_
    refine g_iadd 58 hM rfl rfl ?_
    obtain ⟨hg6, h⟩ := zg_some h
    refine g_iastore 59 hM rfl rfl (zC_a4 hg1) rfl hg6 ?_
    refine g_aload_n 60 hM rfl rfl rfl ?_
    refine g_getR 63 hM rfl rfl rfl (zC_obj hg1) rfl ?_
    refine g_aload_n 64 hM rfl rfl rfl ?_
    refine g_getI 67 0 (gI (sI (sI (sI (sI s (c0 + 1) (gI s c0 0) v1) (c0 + 2) (gI (sI s (c0 + 1) (gI s c0 0) v1) c0 0) v2) (c0 + 3) (gI (sI (sI s (c0 + 1) (gI s c0 0) v1) (c0 + 2) (gI (sI s (c0 + 1) (gI s c0 0) v1) c0 0) v2) c0 0) v3) (c0 + 4) (gI (sI (sI (sI s (c0 + 1) (gI s c0 0) v1) (c0 + 2) (gI (sI s (c0 + 1) (gI s c0 0) v1) c0 0) v2) (c0 + 3) (gI (sI (sI s (c0 + 1) (gI s c0 0) v1) (c0 + 2) (gI (sI s (c0 + 1) (gI s c0 0) v1) c0 0) v2) c0 0) v3) c0 0) ((gI (sI (sI (sI s (c0 + 1) (gI s c0 0) v1) (c0 + 2) (gI (sI s (c0 + 1) (gI s c0 0) v1) c0 0) v2) (c0 + 3) (gI (sI (sI s (c0 + 1) (gI s c0 0) v1) (c0 + 2) (gI (sI s (c0 + 1) (gI s c0 0) v1) c0 0) v2) c0 0) v3) c0 0) + 1)) c0 0) hM rfl rfl rfl (zC_obj hg1) rfl rfl rfl ?_
    refine g_aload_n 68 hM rfl rfl rfl ?_
    refine g_getI 71 0 (gI (sI (sI (sI (sI s (c0 + 1) (gI s c0 0) v1) (c0 + 2) (gI (sI s (c0 + 1) (gI s c0 0) v1) c0 0) v2) (c0 + 3) (gI (sI (sI s (c0 + 1) (gI s c0 0) v1) (c0 + 2) (gI (sI s (c0 + 1) (gI s c0 0) v1) c0 0) v2) c0 0) v3) (c0 + 4) (gI (sI (sI (sI s (c0 + 1) (gI s c0 0) v1) (c0 + 2) (gI (sI s (c0 + 1) (gI s c0 0) v1) c0 0) v2) (c0 + 3) (gI (sI (sI s (c0 + 1) (gI s c0 0) v1) (c0 + 2) (gI (sI s (c0 + 1) (gI s c0 0) v1) c0 0) v2) c0 0) v3) c0 0) ((gI (sI (sI (sI s (c0 + 1) (gI s c0 0) v1) (c0 + 2) (gI (sI s (c0 + 1) (gI s c0 0) v1) c0 0) v2) (c0 + 3) (gI (sI (sI s (c0 + 1) (gI s c0 0) v1) (c0 + 2) (gI (sI s (c0 + 1) (gI s c0 0) v1) c0 0) v2) c0 0) v3) c0 0) + 1)) c0 0) hM rfl rfl rfl (zC_obj hg1) rfl rfl rfl ?_
    refine g_iconst 72 hM rfl rfl ?_
    refine g_iadd 73 hM rfl rfl ?_
    obtain ⟨hg7, h⟩ := zg_some h
    refine g_iastore 74 hM rfl rfl (zC_a5 hg1) rfl hg7 ?_
    refine g_aload_n 75 hM rfl rfl rfl ?_
    refine g_getR 78 hM rfl rfl rfl (zC_obj hg1) rfl ?_
    refine g_aload_n 79 hM rfl rfl rfl ?_
    refine g_getI 82 0 (gI (sI (sI (sI (sI (sI s (c0 + 1) (gI s c0 0) v1) (c0 + 2) (gI (sI s (c0 + 1) (gI s c0 0) v1) c0 0) v2) (c0 + 3) (gI (sI (sI s (c0 + 1) (gI s c0 0) v1) (c0 + 2) (gI (sI s (c0 + 1) (gI s c0 0) v1) c0 0) v2) c0 0) v3) (c0 + 4) (gI (sI (sI (sI s (c0 + 1) (gI s c0 0) v1) (c0 + 2) (gI (sI s (c0 + 1) (gI s c0 0) v1) c0 0) v2) (c0 + 3) (gI (sI (sI s (c0 + 1) (gI s c0 0) v1) (c0 + 2) (gI (sI s (c0 + 1) (gI s c0 0) v1) c0 0) v2) c0 0) v3) c0 0) ((gI (sI (sI (sI s (c0 + 1) (gI s c0 0) v1) (c0 + 2) (gI (sI s (c0 + 1) (gI s c0 0) v1) c0 0) v2) (c0 + 3) (gI (sI (sI s (c0 + 1) (gI s c0 0) v1) (c0 + 2) (gI (sI s (c0 + 1) (gI s c0 0) v1) c0 0) v2) c0 0) v3) c0 0) + 1)) (c0 + 5) (gI (sI (sI (sI (sI s (c0 + 1) (gI s c0 0) v1) (c0 + 2) (gI (sI s (c0 + 1) (gI s c0 0) v1) c0 0) v2) (c0 + 3) (gI (sI (sI s (c0 + 1) (gI s c0 0) v1) (c0 + 2) (gI (sI s (c0 + 1) (gI s c0 0) v1) c0 0) v2) c0 0) v3) (c0 + 4) (gI (sI (sI (sI s (c0 + 1) (gI s c0 0) v1) (c0 + 2) (gI (sI s (c0 + 1) (gI s c0 0) v1) c0 0) v2) (c0 + 3) (gI (sI (sI s (c0 + 1) (gI s c0 0) v1) (c0 + 2) (gI (sI s (c0 + 1) (gI s c0 0) v1) c0 0) v2) c0 0) v3) c0 0) ((gI (sI (sI (sI s (c0 + 1) (gI s c0 0) v1) (c0 + 2) (gI (sI s (c0 + 1) (gI s c0 0) v1) c0 0) v2) (c0 + 3) (gI (sI (sI s (c0 + 1) (gI s c0 0) v1) (c0 + 2) (gI (sI s (c0 + 1) (gI s c0 0) v1) c0 0) v2) c0 0) v3) c0 0) + 1)) c0 0) ((gI (sI (sI (sI (sI s (c0 + 1) (gI s c0 0) v1) (c0 + 2) (gI (sI s (c0 + 1) (gI s c0 0) v1) c0 0) v2) (c0 + 3) (gI (sI (sI s (c0 + 1) (gI s c0 0) v1) (c0 + 2) (gI (sI s (c0 + 1) (gI s c0 0) v1) c0 0) v2) c0 0) v3) (c0 + 4) (gI (sI (sI (sI s (c0 + 1) (gI s c0 0) v1) (c0 + 2) (gI (sI s (c0 + 1) (gI s c0 0) v1) c0 0) v2) (c0 + 3) (gI (sI (sI s (c0 + 1) (gI s c0 0) v1) (c0 + 2) (gI (sI s (c0 + 1) (gI s c0 0) v1) c0 0) v2) c0 0) v3) c0 0) ((gI (sI (sI (sI s (c0 + 1) (gI s c0 0) v1) (c0 + 2) (gI (sI s (c0 + 1) (gI s c0 0) v1) c0 0) v2) (c0 + 3) (gI (sI (sI s (c0 + 1) (gI s c0 0) v1) (c0 + 2) (gI (sI s (c0 + 1) (gI s c0 0) v1) c0 0) v2) c0 0) v3) c0 0) + 1)) c0 0) + 1)) c0 0) hM rfl rfl rfl (zC_obj hg1) rfl rfl rfl ?_
    refine g_iconst 83 hM rfl rfl ?_
    obtain ⟨hg8, h⟩ := zg_some h
    refine g_iastore 84 hM rfl rfl (zC_a6 hg1) rfl hg8 ?_
    refine g_aload_n 85 hM rfl rfl rfl ?_
    refine g_getR 88 hM rfl rfl rfl (zC_obj hg1) rfl ?_
    refine g_aload_n 89 hM rfl rfl rfl ?_
    refine g_getI 92 0 (gI (sI (sI (sI (sI (sI (sI s (c0 + 1) (gI s c0 0) v1) (c0 + 2) (gI (sI s (c0 + 1) (gI s c0 0) v1) c0 0) v2) (c0 + 3) (gI (sI (sI s (c0 + 1) (gI s c0 0) v1) (c0 + 2) (gI (sI s (c0 + 1) (gI s c0 0) v1) c0 0) v2) c0 0) v3) (c0 + 4) (gI (sI (sI (sI s (c0 + 1) (gI s c0 0) v1) (c0 + 2) (gI (sI s (c0 + 1) (gI s c0 0) v1) c0 0) v2) (c0 + 3) (gI (sI (sI s (c0 + 1) (gI s c0 0) v1) (c0 + 2) (gI (sI s (c0 + 1) (gI s c0 0) v1) c0 0) v2) c0 0) v3) c0 0) ((gI (sI (sI (sI s (c0 + 1) (gI s c0 0) v1) (c0 + 2) (gI (sI s (c0 + 1) (gI s c0 0) v1) c0 0) v2) (c0 + 3) (gI (sI (sI s (c0 + 1) (gI s c0 0) v1) (c0 + 2) (gI (sI s (c0 + 1) (gI s c0 0) v1) c0 0) v2) c0 0) v3) c0 0) + 1)) (c0 + 5) (gI (sI (sI (sI (sI s (c0 + 1) (gI s c0 0) v1) (c0 + 2) (gI (sI s (c0 + 1) (gI s c0 0) v1) c0 0) v2) (c0 + 3) (gI (sI (sI s (c0 + 1) (gI s c0 0) v1) (c0 + 2) (gI (sI s (c0 + 1) (gI s c0 0) v1) c0 0) v2) c0 0) v3) (c0 + 4) (gI (sI (sI (sI s (c0 + 1) (gI s c0 0) v1) (c0 + 2) (gI (sI s (c0 + 1) (gI s c0 0) v1) c0 0) v2) (c0 + 3) (gI (sI (sI s (c0 + 1) (gI s c0 0) v1) (c0 + 2) (gI (sI s (c0 + 1) (gI s c0 0) v1) c0 0) v2) c0 0) v3) c0 0) ((gI (sI (sI (sI s (c0 + 1) (gI s c0 0) v1) (c0 + 2) (gI (sI s (c0 + 1) (gI s c0 0) v1) c0 0) v2) (c0 + 3) (gI (sI (sI s (c0 + 1) (gI s c0 0) v1) (c0 + 2) (gI (sI s (c0 + 1) (gI s c0 0) v1) c0 0) v2) c0 0) v3) c0 0) + 1)) c0 0) ((gI (sI (sI (sI (sI s (c0 + 1) (gI s c0 0) v1) (c0 + 2) (gI (sI s (c0 + 1) (gI s c0 0) v1) c0 0) v2) (c0 + 3) (gI (sI (sI s (c0 + 1) (gI s c0 0) v1) (c0 + 2) (gI (sI s (c0 + 1) (gI s c0 0) v1) c0 0) v2) c0 0) v3) (c0 + 4) (gI (sI (sI (sI s (c0 + 1) (gI s c0 0) v1) (c0 + 2) (gI (sI s (c0 + 1) (gI s c0 0) v1) c0 0) v2) (c0 + 3) (gI (sI (sI s (c0 + 1) (gI s c0 0) v1) (c0 + 2) (gI (sI s (c0 + 1) (gI s c0 0) v1) c0 0) v2) c0 0) v3) c0 0) ((gI (sI (sI (sI s (c0 + 1) (gI s c0 0) v1) (c0 + 2) (gI (sI s (c0 + 1) (gI s c0 0) v1) c0 0) v2) (c0 + 3) (gI (sI (sI s (c0 + 1) (gI s c0 0) v1) (c0 + 2) (gI (sI s (c0 + 1) (gI s c0 0) v1) c0 0) v2) c0 0) v3) c0 0) + 1)) c0 0) + 1)) (c0 + 6) (gI (sI (sI (sI (sI (sI s (c0 + 1) (gI s c0 0) v1) (c0 + 2) (gI (sI s (c0 + 1) (gI s c0 0) v1) c0 0) v2) (c0 + 3) (gI (sI (sI s (c0 + 1) (gI s c0 0) v1) (c0 + 2) (gI (sI s (c0 + 1) (gI s c0 0) v1) c0 0) v2) c0 0) v3) (c0 + 4) (gI (sI (sI (sI s (c0 + 1) (gI s c0 0) v1) (c0 + 2) (gI (sI s (c0 + 1) (gI s c0 0) v1) c0 0) v2) (c0 + 3) (gI (sI (sI s (c0 + 1) (gI s c0 0) v1) (c0 + 2) (gI (sI s (c0 + 1) (gI s c0 0) v1) c0 0) v2) c0 0) v3) c0 0) ((gI (sI (sI (sI s (c0 + 1) (gI s c0 0) v1) (c0 + 2) (gI (sI s (c0 + 1) (gI s c0 0) v1) c0 0) v2) (c0 + 3) (gI (sI (sI s (c0 + 1) (gI s c0 0) v1) (c0 + 2) (gI (sI s (c0 + 1) (gI s c0 0) v1) c0 0) v2) c0 0) v3) c0 0) + 1)) (c0 + 5) (gI (sI (sI (sI (sI s (c0 + 1) (gI s c0 0) v1) (c0 + 2) (gI (sI s (c0 + 1) (gI s c0 0) v1) c0 0) v2) (c0 + 3) (gI (sI (sI s (c0 + 1) (gI s c0 0) v1) (c0 + 2) (gI (sI s (c0 + 1) (gI s c0 0) v1) c0 0) v2) c0 0) v3) (c0 + 4) (gI (sI (sI (sI s (c0 + 1) (gI s c0 0) v1) (c0 + 2) (gI (sI s (c0 + 1) (gI s c0 0) v1) c0 0) v2) (c0 + 3) (gI (sI (sI s (c0 + 1) (gI s c0 0) v1) (c0 + 2) (gI (sI s (c0 + 1) (gI s c0 0) v1) c0 0) v2) c0 0) v3) c0 0) ((gI (sI (sI (sI s (c0 + 1) (gI s c0 0) v1) (c0 + 2) (gI (sI s (c0 + 1) (gI s c0 0) v1) c0 0) v2) (c0 + 3) (gI (sI (sI s (c0 + 1) (gI s c0 0) v1) (c0 + 2) (gI (sI s (c0 + 1) (gI s c0 0) v1) c0 0) v2) c0 0) v3) c0 0) + 1)) c0 0) ((gI (sI (sI (sI (sI s (c0 + 1) (gI s c0 0) v1) (c0 + 2) (gI (sI s (c0 + 1) (gI s c0 0) v1) c0 0) v2) (c0 + 3) (gI (sI (sI s (c0 + 1) (gI s c0 0) v1) (c0 + 2) (gI (sI s (c0 + 1) (gI s c0 0) v1) c0 0) v2) c0 0) v3) (c0 + 4) (gI (sI (sI (sI s (c0 + 1) (gI s c0 0) v1) (c0 + 2) (gI (sI s (c0 + 1) (gI s c0 0) v1) c0 0) v2) (c0 + 3) (gI (sI (sI s (c0 + 1) (gI s c0 0) v1) (c0 + 2) (gI (sI s (c0 + 1) (gI s c0 0) v1) c0 0) v2) c0 0) v3) c0 0) ((gI (sI (sI (sI s (c0 + 1) (gI s c0 0) v1) (c0 + 2) (gI (sI s (c0 + 1) (gI s c0 0) v1) c0 0) v2) (c0 + 3) (gI (sI (sI s (c0 + 1) (gI s c0 0) v1) (c0 + 2) (gI (sI s (c0 + 1) (gI s c0 0) v1) c0 0) v2) c0 0) v3) c0 0) + 1)) c0 0) + 1)) c0 0) 0) c0 0) hM rfl rfl rfl (zC_obj hg1) rfl rfl rfl ?_
    refine g_iconst 93 hM rfl rfl ?_
    obtain ⟨hg9, h⟩ := zg_some h
    refine g_iastore 94 hM rfl rfl (zC_a7 hg1) rfl hg9 ?_
    refine g_aload_n 95 hM rfl rfl rfl ?_
    refine g_dup 96 hM rfl rfl rfl ?_
    refine g_getI 99 0 (gI (sI (sI (sI (sI (sI (sI (sI s (c0 + 1) (gI s c0 0) v1) (c0 + 2) (gI (sI s (c0 + 1) (gI s c0 0) v1) c0 0) v2) (c0 + 3) (gI (sI (sI s (c0 + 1) (gI s c0 0) v1) (c0 + 2) (gI (sI s (c0 + 1) (gI s c0 0) v1) c0 0) v2) c0 0) v3) (c0 + 4) (gI (sI (sI (sI s (c0 + 1) (gI s c0 0) v1) (c0 + 2) (gI (sI s (c0 + 1) (gI s c0 0) v1) c0 0) v2) (c0 + 3) (gI (sI (sI s (c0 + 1) (gI s c0 0) v1) (c0 + 2) (gI (sI s (c0 + 1) (gI s c0 0) v1) c0 0) v2) c0 0) v3) c0 0) ((gI (sI (sI (sI s (c0 + 1) (gI s c0 0) v1) (c0 + 2) (gI (sI s (c0 + 1) (gI s c0 0) v1) c0 0) v2) (c0 + 3) (gI (sI (sI s (c0 + 1) (gI s c0 0) v1) (c0 + 2) (gI (sI s (c0 + 1) (gI s c0 0) v1) c0 0) v2) c0 0) v3) c0 0) + 1)) (c0 + 5) (gI (sI (sI (sI (sI s (c0 + 1) (gI s c0 0) v1) (c0 + 2) (gI (sI s (c0 + 1) (gI s c0 0) v1) c0 0) v2) (c0 + 3) (gI (sI (sI s (c0 + 1) (gI s c0 0) v1) (c0 + 2) (gI (sI s (c0 + 1) (gI s c0 0) v1) c0 0) v2) c0 0) v3) (c0 + 4) (gI (sI (sI (sI s (c0 + 1) (gI s c0 0) v1) (c0 + 2) (gI (sI s (c0 + 1) (gI s c0 0) v1) c0 0) v2) (c0 + 3) (gI (sI (sI s (c0 + 1) (gI s c0 0) v1) (c0 + 2) (gI (sI s (c0 + 1) (gI s c0 0) v1) c0 0) v2) c0 0) v3) c0 0) ((gI (sI (sI (sI s (c0 + 1) (gI s c0 0) v1) (c0 + 2) (gI (sI s (c0 + 1) (gI s c0 0) v1) c0 0) v2) (c0 + 3) (gI (sI (sI s (c0 + 1) (gI s c0 0) v1) (c0 + 2) (gI (sI s (c0 + 1) (gI s c0 0) v1) c0 0) v2) c0 0) v3) c0 0) + 1)) c0 0) ((gI (sI (sI (sI (sI s (c0 + 1) (gI s c0 0) v1) (c0 + 2) (gI (sI s (c0 + 1) (gI s c0 0) v1) c0 0) v2) (c0 + 3) (gI (sI (sI s (c0 + 1) (gI s c0 0) v1) (c0 + 2) (gI (sI s (c0 + 1) (gI s c0 0) v1) c0 0) v2) c0 0) v3) (c0 + 4) (gI (sI (sI (sI s (c0 + 1) (gI s c0 0) v1) (c0 + 2) (gI (sI s (c0 + 1) (gI s c0 0) v1) c0 0) v2) (c0 + 3) (gI (sI (sI s (c0 + 1) (gI s c0 0) v1) (c0 + 2) (gI (sI s (c0 + 1) (gI s c0 0) v1) c0 0) v2) c0 0) v3) c0 0) ((gI (sI (sI (sI s (c0 + 1) (gI s c0 0) v1) (c0 + 2) (gI (sI s (c0 + 1) (gI s c0 0) v1) c0 0) v2) (c0 + 3) (gI (sI (sI s (c0 + 1) (gI s c0 0) v1) (c0 + 2) (gI (sI s (c0 + 1) (gI s c0 0) v1) c0 0) v2) c0 0) v3) c0 0) + 1)) c0 0) + 1)) (c0 + 6) (gI (sI (sI (sI (sI (sI s (c0 + 1) (gI s c0 0) v1) (c0 + 2) (gI (sI s (c0 + 1) (gI s c0 0) v1) c0 0) v2) (c0 + 3) (gI (sI (sI s (c0 + 1) (gI s c0 0) v1) (c0 + 2) (gI (sI s (c0 + 1) (gI s c0 0) v1) c0 0) v2) c0 0) v3) (c0 + 4) (gI (sI (sI (sI s (c0 + 1) (gI s c0 0) v1) (c0 + 2) (gI (sI s (c0 + 1) (gI s c0 0) v1) c0 0) v2) (c0 + 3) (gI (sI (sI s (c0 + 1) (gI s c0 0) v1) (c0 + 2) (gI (sI s (c0 + 1) (gI s c0 0) v1) c0 0) v2) c0 0) v3) c0 0) ((gI (sI (sI (sI s (c0 + 1) (gI s c0 0) v1) (c0 + 2) (gI (sI s (c0 + 1) (gI s c0 0) v1) c0 0) v2) (c0 + 3) (gI (sI (sI s (c0 + 1) (gI s c0 0) v1) (c0 + 2) (gI (sI s (c0 + 1) (gI s c0 0) v1) c0 0) v2) c0 0) v3) c0 0) + 1)) (c0 + 5) (gI (sI (sI (sI (sI s (c0 + 1) (gI s c0 0) v1) (c0 + 2) (gI (sI s (c0 + 1) (gI s c0 0) v1) c0 0) v2) (c0 + 3) (gI (sI (sI s (c0 + 1) (gI s c0 0) v1) (c0 + 2) (gI (sI s (c0 + 1) (gI s c0 0) v1) c0 0) v2) c0 0) v3) (c0 + 4) (gI (sI (sI (sI s (c0 + 1) (gI s c0 0) v1) (c0 + 2) (gI (sI s (c0 + 1) (gI s c0 0) v1) c0 0) v2) (c0 + 3) (gI (sI (sI s (c0 + 1) (gI s c0 0) v1) (c0 + 2) (gI (sI s (c0 + 1) (gI s c0 0) v1) c0 0) v2) c0 0) v3) c0 0) ((gI (sI (sI (sI s (c0 + 1) (gI s c0 0) v1) (c0 + 2) (gI (sI s (c0 + 1) (gI s c0 0) v1) c0 0) v2) (c0 + 3) (gI (sI (sI s (c0 + 1) (gI s c0 0) v1) (c0 + 2) (gI (sI s (c0 + 1) (gI s c0 0) v1) c0 0) v2) c0 0) v3) c0 0) + 1)) c0 0) ((gI (sI (sI (sI (sI s (c0 + 1) (gI s c0 0) v1) (c0 + 2) (gI (sI s (c0 + 1) (gI s c0 0) v1) c0 0) v2) (c0 + 3) (gI (sI (sI s (c0 + 1) (gI s c0 0) v1) (c0 + 2) (gI (sI s (c0 + 1) (gI s c0 0) v1) c0 0) v2) c0 0) v3) (c0 + 4) (gI (sI (sI (sI s (c0 + 1) (gI s c0 0) v1) (c0 + 2) (gI (sI s (c0 + 1) (gI s c0 0) v1) c0 0) v2) (c0 + 3) (gI (sI (sI s (c0 + 1) (gI s c0 0) v1) (c0 + 2) (gI (sI s (c0 + 1) (gI s c0 0) v1) c0 0) v2) c0 0) v3) c0 0) ((gI (sI (sI (sI s (c0 + 1) (gI s c0 0) v1) (c0 + 2) (gI (sI s (c0 + 1) (gI s c0 0) v1) c0 0) v2) (c0 + 3) (gI (sI (sI s (c0 + 1) (gI s c0 0) v1) (c0 + 2) (gI (sI s (c0 + 1) (gI s c0 0) v1) c0 0) v2) c0 0) v3) c0 0) + 1)) c0 0) + 1)) c0 0) 0) (c0 + 7) (gI (sI (sI (sI (sI (sI (sI s (c0 + 1) (gI s c0 0) v1) (c0 + 2) (gI (sI s (c0 + 1) (gI s c0 0) v1) c0 0) v2) (c0 + 3) (gI (sI (sI s (c0 + 1) (gI s c0 0) v1) (c0 + 2) (gI (sI s (c0 + 1) (gI s c0 0) v1) c0 0) v2) c0 0) v3) (c0 + 4) (gI (sI (sI (sI s (c0 + 1) (gI s c0 0) v1) (c0 + 2) (gI (sI s (c0 + 1) (gI s c0 0) v1) c0 0) v2) (c0 + 3) (gI (sI (sI s (c0 + 1) (gI s c0 0) v1) (c0 + 2) (gI (sI s (c0 + 1) (gI s c0 0) v1) c0 0) v2) c0 0) v3) c0 0) ((gI (sI (sI (sI s (c0 + 1) (gI s c0 0) v1) (c0 + 2) (gI (sI s (c0 + 1) (gI s c0 0) v1) c0 0) v2) (c0 + 3) (gI (sI (sI s (c0 + 1) (gI s c0 0) v1) (c0 + 2) (gI (sI s (c0 + 1) (gI s c0 0) v1) c0 0) v2) c0 0) v3) c0 0) + 1)) (c0 + 5) (gI (sI (sI (sI (sI s (c0 + 1) (gI s c0 0) v1) (c0 + 2) (gI (sI s (c0 + 1) (gI s c0 0) v1) c0 0) v2) (c0 + 3) (gI (sI (sI s (c0 + 1) (gI s c0 0) v1) (c0 + 2) (gI (sI s (c0 + 1) (gI s c0 0) v1) c0 0) v2) c0 0) v3) (c0 + 4) (gI (sI (sI (sI s (c0 + 1) (gI s c0 0) v1) (c0 + 2) (gI (sI s (c0 + 1) (gI s c0 0) v1) c0 0) v2) (c0 + 3) (gI (sI (sI s (c0 + 1) (gI s c0 0) v1) (c0 + 2) (gI (sI s (c0 + 1) (gI s c0 0) v1) c0 0) v2) c0 0) v3) c0 0) ((gI (sI (sI (sI s (c0 + 1) (gI s c0 0) v1) (c0 + 2) (gI (sI s (c0 + 1) (gI s c0 0) v1) c0 0) v2) (c0 + 3) (gI (sI (sI s (c0 + 1) (gI s c0 0) v1) (c0 + 2) (gI (sI s (c0 + 1) (gI s c0 0) v1) c0 0) v2) c0 0) v3) c0 0) + 1)) c0 0) ((gI (sI (sI (sI (sI s (c0 + 1) (gI s c0 0) v1) (c0 + 2) (gI (sI s (c0 + 1) (gI s c0 0) v1) c0 0) v2) (c0 + 3) (gI (sI (sI s (c0 + 1) (gI s c0 0) v1) (c0 + 2) (gI (sI s (c0 + 1) (gI s c0 0) v1) c0 0) v2) c0 0) v3) (c0 + 4) (gI (sI (sI (sI s (c0 + 1) (gI s c0 0) v1) (c0 + 2) (gI (sI s (c0 + 1) (gI s c0 0) v1) c0 0) v2) (c0 + 3) (gI (sI (sI s (c0 + 1) (gI s c0 0) v1) (c0 + 2) (gI (sI s (c0 + 1) (gI s c0 0) v1) c0 0) v2) c0 0) v3) c0 0) ((gI (sI (sI (sI s (c0 + 1) (gI s c0 0) v1) (c0 + 2) (gI (sI s (c0 + 1) (gI s c0 0) v1) c0 0) v2) (c0 + 3) (gI (sI (sI s (c0 + 1) (gI s c0 0) v1) (c0 + 2) (gI (sI s (c0 + 1) (gI s c0 0) v1) c0 0) v2) c0 0) v3) c0 0) + 1)) c0 0) + 1)) (c0 + 6) (gI (sI (sI (sI (sI (sI s (c0 + 1) (gI s c0 0) v1) (c0 + 2) (gI (sI s (c0 + 1) (gI s c0 0) v1) c0 0) v2) (c0 + 3) (gI (sI (sI s (c0 + 1) (gI s c0 0) v1) (c0 + 2) (gI (sI s (c0 + 1) (gI s c0 0) v1) c0 0) v2) c0 0) v3) (c0 + 4) (gI (sI (sI (sI s (c0 + 1) (gI s c0 0) v1) (c0 + 2) (gI (sI s (c0 + 1) (gI s c0 0) v1) c0 0) v2) (c0 + 3) (gI (sI (sI s (c0 + 1) (gI s c0 0) v1) (c0 + 2) (gI (sI s (c0 + 1) (gI s c0 0) v1) c0 0) v2) c0 0) v3) c0 0) ((gI (sI (sI (sI s (c0 + 1) (gI s c0 0) v1) (c0 + 2) (gI (sI s (c0 + 1) (gI s c0 0) v1) c0 0) v2) (c0 + 3) (gI (sI (sI s (c0 + 1) (gI s c0 0) v1) (c0 + 2) (gI (sI s (c0 + 1) (gI s c0 0) v1) c0 0) v2) c0 0) v3) c0 0) + 1)) (c0 + 5) (gI (sI (sI (sI (sI s (c0 + 1) (gI s c0 0) v1) (c0 + 2) (gI (sI s (c0 + 1) (gI s c0 0) v1) c0 0) v2) (c0 + 3) (gI (sI (sI s (c0 + 1) (gI s c0 0) v1) (c0 + 2) (gI (sI s (c0 + 1) (gI s c0 0) v1) c0 0) v2) c0 0) v3) (c0 + 4) (gI (sI (sI (sI s (c0 + 1) (gI s c0 0) v1) (c0 + 2) (gI (sI s (c0 + 1) (gI s c0 0) v1) c0 0) v2) (c0 + 3) (gI (sI (sI s (c0 + 1) (gI s c0 0) v1) (c0 + 2) (gI (sI s (c0 + 1) (gI s c0 0) v1) c0 0) v2) c0 0) v3) c0 0) ((gI (sI (sI (sI s (c0 + 1) (gI s c0 0) v1) (c0 + 2) (gI (sI s (c0 + 1) (gI s c0 0) v1) c0 0) v2) (c0 + 3) (gI (sI (sI s (c0 + 1) (gI s c0 0) v1) (c0 + 2) (gI (sI s (c0 + 1) (gI s c0 0) v1) c0 0) v2) c0 0) v3) c0 0) + 1)) c0 0) ((gI (sI (sI (sI (sI s (c0 + 1) (gI s c0 0) v1) (c0 + 2) (gI (sI s (c0 + 1) (gI s c0 0) v1) c0 0) v2) (c0 + 3) (gI (sI (sI s (c0 + 1) (gI s c0 0) v1) (c0 + 2) (gI (sI s (c0 + 1) (gI s c0 0) v1) c0 0) v2) c0 0) v3) (c0 + 4) (gI (sI (sI (sI s (c0 + 1) (gI s c0 0) v1) (c0 + 2) (gI (sI s (c0 + 1) (gI s c0 0) v1) c0 0) v2) (c0 + 3) (gI (sI (sI s (c0 + 1) (gI s c0 0) v1) (c0 + 2) (gI (sI s (c0 + 1) (gI s c0 0) v1) c0 0) v2) c0 0) v3) c0 0) ((gI (sI (sI (sI s (c0 + 1) (gI s c0 0) v1) (c0 + 2) (gI (sI s (c0 + 1) (gI s c0 0) v1) c0 0) v2) (c0 + 3) (gI (sI (sI s (c0 + 1) (gI s c0 0) v1) (c0 + 2) (gI (sI s (c0 + 1) (gI s c0 0) v1) c0 0) v2) c0 0) v3) c0 0) + 1)) c0 0) + 1)) c0 0) 0) c0 0) (-1)) c0 0) hM rfl rfl rfl (zC_obj hg1) rfl rfl rfl ?_
    refine g_iconst 100 hM rfl rfl ?_
    refine g_iadd 101 hM rfl rfl ?_
    refine g_putI 104 0 hM rfl rfl rfl (zC_obj hg1) rfl rfl rfl ?_
    refine g_aload_n 105 hM rfl rfl rfl ?_
    refine g_getI 108 0 (gI (sI (sI (sI (sI (sI (sI (sI (sI s (c0 + 1) (gI s c0 0) v1) (c0 + 2) (gI (sI s (c0 + 1) (gI s c0 0) v1) c0 0) v2) (c0 + 3) (gI (sI (sI s (c0 + 1) (gI s c0 0) v1) (c0 + 2) (gI (sI s (c0 + 1) (gI s c0 0) v1) c0 0) v2) c0 0) v3) (c0 + 4) (gI (sI (sI (sI s (c0 + 1) (gI s c0 0) v1) (c0 + 2) (gI (sI s (c0 + 1) (gI s c0 0) v1) c0 0) v2) (c0 + 3) (gI (sI (sI s (c0 + 1) (gI s c0 0) v1) (c0 + 2) (gI (sI s (c0 + 1) (gI s c0 0) v1) c0 0) v2) c0 0) v3) c0 0) ((gI (sI (sI (sI s (c0 + 1) (gI s c0 0) v1) (c0 + 2) (gI (sI s (c0 + 1) (gI s c0 0) v1) c0 0) v2) (c0 + 3) (gI (sI (sI s (c0 + 1) (gI s c0 0) v1) (c0 + 2) (gI (sI s (c0 + 1) (gI s c0 0) v1) c0 0) v2) c0 0) v3) c0 0) + 1)) (c0 + 5) (gI (sI (sI (sI (sI s (c0 + 1) (gI s c0 0) v1) (c0 + 2) (gI (sI s (c0 + 1) (gI s c0 0) v1) c0 0) v2) (c0 + 3) (gI (sI (sI s (c0 + 1) (gI s c0 0) v1) (c0 + 2) (gI (sI s (c0 + 1) (gI s c0 0) v1) c0 0) v2) c0 0) v3) (c0 + 4) (gI (sI (sI (sI s (c0 + 1) (gI s c0 0) v1) (c0 + 2) (gI (sI s (c0 + 1) (gI s c0 0) v1) c0 0) v2) (c0 + 3) (gI (sI (sI s (c0 + 1) (gI s c0 0) v1) (c0 + 2) (gI (sI s (c0 + 1) (gI s c0 0) v1) c0 0) v2) c0 0) v3) c0 0) ((gI (sI (sI (sI s (c0 + 1) (gI s c0 0) v1) (c0 + 2) (gI (sI s (c0 + 1) (gI s c0 0) v1) c0 0) v2) (c0 + 3) (gI (sI (sI s (c0 + 1) (gI s c0 0) v1) (c0 + 2) (gI (sI s (c0 + 1) (gI s c0 0) v1) c0 0) v2) c0 0) v3) c0 0) + 1)) c0 0) ((gI (sI (sI (sI (sI s (c0 + 1) (gI s c0 0) v1) (c0 + 2) (gI (sI s (c0 + 1) (gI s c0 0) v1) c0 0) v2) (c0 + 3) (gI (sI (sI s (c0 + 1) (gI s c0 0) v1) (c0 + 2) (gI (sI s (c0 + 1) (gI s c0 0) v1) c0 0) v2) c0 0) v3) (c0 + 4) (gI (sI (sI (sI s (c0 + 1) (gI s c0 0) v1) (c0 + 2) (gI (sI s (c0 + 1) (gI s c0 0) v1) c0 0) v2) (c0 + 3) (gI (sI (sI s (c0 + 1) (gI s c0 0) v1) (c0 + 2) (gI (sI s (c0 + 1) (gI s c0 0) v1) c0 0) v2) c0 0) v3) c0 0) ((gI (sI (sI (sI s (c0 + 1) (gI s c0 0) v1) (c0 + 2) (gI (sI s (c0 + 1) (gI s c0 0) v1) c0 0) v2) (c0 + 3) (gI (sI (sI s (c0 + 1) (gI s c0 0) v1) (c0 + 2) (gI (sI s (c0 + 1) (gI s c0 0) v1) c0 0) v2) c0 0) v3) c0 0) + 1)) c0 0) + 1)) (c0 + 6) (gI (sI (sI (sI (sI (sI s (c0 + 1) (gI s c0 0) v1) (c0 + 2) (gI (sI s (c0 + 1) (gI s c0 0) v1) c0 0) v2) (c0 + 3) (gI (sI (sI s (c0 + 1) (gI s c0 0) v1) (c0 + 2) (gI (sI s (c0 + 1) (gI s c0 0) v1) c0 0) v2) c0 0) v3) (c0 + 4) (gI (sI (sI (sI s (c0 + 1) (gI s c0 0) v1) (c0 + 2) (gI (sI s (c0 + 1) (gI s c0 0) v1) c0 0) v2) (c0 + 3) (gI (sI (sI s (c0 + 1) (gI s c0 0) v1) (c0 + 2) (gI (sI s (c0 + 1) (gI s c0 0) v1) c0 0) v2) c0 0) v3) c0 0) ((gI (sI (sI (sI s (c0 + 1) (gI s c0 0) v1) (c0 + 2) (gI (sI s (c0 + 1) (gI s c0 0) v1) c0 0) v2) (c0 + 3) (gI (sI (sI s (c0 + 1) (gI s c0 0) v1) (c0 + 2) (gI (sI s (c0 + 1) (gI s c0 0) v1) c0 0) v2) c0 0) v3) c0 0) + 1)) (c0 + 5) (gI (sI (sI (sI (sI s (c0 + 1) (gI s c0 0) v1) (c0 + 2) (gI (sI s (c0 + 1) (gI s c0 0) v1) c0 0) v2) (c0 + 3) (gI (sI (sI s (c0 + 1) (gI s c0 0) v1) (c0 + 2) (gI (sI s (c0 + 1) (gI s c0 0) v1) c0 0) v2) c0 0) v3) (c0 + 4) (gI (sI (sI (sI s (c0 + 1) (gI s c0 0) v1) (c0 + 2) (gI (sI s (c0 + 1) (gI s c0 0) v1) c0 0) v2) (c0 + 3) (gI (sI (sI s (c0 + 1) (gI s c0 0) v1) (c0 + 2) (gI (sI s (c0 + 1) (gI s c0 0) v1) c0 0) v2) c0 0) v3) c0 0) ((gI (sI (sI (sI s (c0 + 1) (gI s c0 0) v1) (c0 + 2) (gI (sI s (c0 + 1) (gI s c0 0) v1) c0 0) v2) (c0 + 3) (gI (sI (sI s (c0 + 1) (gI s c0 0) v1) (c0 + 2) (gI (sI s (c0 + 1) (gI s c0 0) v1) c0 0) v2) c0 0) v3) c0 0) + 1)) c0 0) ((gI (sI (sI (sI (sI s (c0 + 1) (gI s c0 0) v1) (c0 + 2) (gI (sI s (c0 + 1) (gI s c0 0) v1) c0 0) v2) (c0 + 3) (gI (sI (sI s (c0 + 1) (gI s c0 0) v1) (c0 + 2) (gI (sI s (c0 + 1) (gI s c0 0) v1) c0 0) v2) c0 0) v3) (c0 + 4) (gI (sI (sI (sI s (c0 + 1) (gI s c0 0) v1) (c0 + 2) (gI (sI s (c0 + 1) (gI s c0 0) v1) c0 0) v2) (c0 + 3) (gI (sI (sI s (c0 + 1) (gI s c0 0) v1) (c0 + 2) (gI (sI s (c0 + 1) (gI s c0 0) v1) c0 0) v2) c0 0) v3) c0 0) ((gI (sI (sI (sI s (c0 + 1) (gI s c0 0) v1) (c0 + 2) (gI (sI s (c0 + 1) (gI s c0 0) v1) c0 0) v2) (c0 + 3) (gI (sI (sI s (c0 + 1) (gI s c0 0) v1) (c0 + 2) (gI (sI s (c0 + 1) (gI s c0 0) v1) c0 0) v2) c0 0) v3) c0 0) + 1)) c0 0) + 1)) c0 0) 0) (c0 + 7) (gI (sI (sI (sI (sI (sI (sI s (c0 + 1) (gI s c0 0) v1) (c0 + 2) (gI (sI s (c0 + 1) (gI s c0 0) v1) c0 0) v2) (c0 + 3) (gI (sI (sI s (c0 + 1) (gI s c0 0) v1) (c0 + 2) (gI (sI s (c0 + 1) (gI s c0 0) v1) c0 0) v2) c0 0) v3) (c0 + 4) (gI (sI (sI (sI s (c0 + 1) (gI s c0 0) v1) (c0 + 2) (gI (sI s (c0 + 1) (gI s c0 0) v1) c0 0) v2) (c0 + 3) (gI (sI (sI s (c0 + 1) (gI s c0 0) v1) (c0 + 2) (gI (sI s (c0 + 1) (gI s c0 0) v1) c0 0) v2) c0 0) v3) c0 0) ((gI (sI (sI (sI s (c0 + 1) (gI s c0 0) v1) (c0 + 2) (gI (sI s (c0 + 1) (gI s c0 0) v1) c0 0) v2) (c0 + 3) (gI (sI (sI s (c0 + 1) (gI s c0 0) v1) (c0 + 2) (gI (sI s (c0 + 1) (gI s c0 0) v1) c0 0) v2) c0 0) v3) c0 0) + 1)) (c0 + 5) (gI (sI (sI (sI (sI s (c0 + 1) (gI s c0 0) v1) (c0 + 2) (gI (sI s (c0 + 1) (gI s c0 0) v1) c0 0) v2) (c0 + 3) (gI (sI (sI s (c0 + 1) (gI s c0 0) v1) (c0 + 2) (gI (sI s (c0 + 1) (gI s c0 0) v1) c0 0) v2) c0 0) v3) (c0 + 4) (gI (sI (sI (sI s (c0 + 1) (gI s c0 0) v1) (c0 + 2) (gI (sI s (c0 + 1) (gI s c0 0) v1) c0 0) v2) (c0 + 3) (gI (sI (sI s (c0 + 1) (gI s c0 0) v1) (c0 + 2) (gI (sI s (c0 + 1) (gI s c0 0) v1) c0 0) v2) c0 0) v3) c0 0) ((gI (sI (sI (sI s (c0 + 1) (gI s c0 0) v1) (c0 + 2) (gI (sI s (c0 + 1) (gI s c0 0) v1) c0 0) v2) (c0 + 3) (gI (sI (sI s (c0 + 1) (gI s c0 0) v1) (c0 + 2) (gI (sI s (c0 + 1) (gI s c0 0) v1) c0 0) v2) c0 0) v3) c0 0) + 1)) c0 0) ((gI (sI (sI (sI (sI s (c0 + 1) (gI s c0 0) v1) (c0 + 2) (gI (sI s (c0 + 1) (gI s c0 0) v1) c0 0) v2) (c0 + 3) (gI (sI (sI s (c0 + 1) (gI s c0 0) v1) (c0 + 2) (gI (sI s (c0 + 1) (gI s c0 0) v1) c0 0) v2) c0 0) v3) (c0 + 4) (gI (sI (sI (sI s (c0 + 1) (gI s c0 0) v1) (c0 + 2) (gI (sI s (c0 + 1) (gI s c0 0) v1) c0 0) v2) (c0 + 3) (gI (sI (sI s (c0 + 1) (gI s c0 0) v1) (c0 + 2) (gI (sI s (c0 + 1) (gI s c0 0) v1) c0 0) v2) c0 0) v3) c0 0) ((gI (sI (sI (sI s (c0 + 1) (gI s c0 0) v1) (c0 + 2) (gI (sI s (c0 + 1) (gI s c0 0) v1) c0 0) v2) (c0 + 3) (gI (sI (sI s (c0 + 1) (gI s c0 0) v1) (c0 + 2) (gI (sI s (c0 + 1) (gI s c0 0) v1) c0 0) v2) c0 0) v3) c0 0) + 1)) c0 0) + 1)) (c0 + 6) (gI (sI (sI (sI (sI (sI s (c0 + 1) (gI s c0 0) v1) (c0 + 2) (gI (sI s (c0 + 1) (gI s c0 0) v1) c0 0) v2) (c0 + 3) (gI (sI (sI s (c0 + 1) (gI s c0 0) v1) (c0 + 2) (gI (sI s (c0 + 1) (gI s c0 0) v1) c0 0) v2) c0 0) v3) (c0 + 4) (gI (sI (sI (sI s (c0 + 1) (gI s c0 0) v1) (c0 + 2) (gI (sI s (c0 + 1) (gI s c0 0) v1) c0 0) v2) (c0 + 3) (gI (sI (sI s (c0 + 1) (gI s c0 0) v1) (c0 + 2) (gI (sI s (c0 + 1) (gI s c0 0) v1) c0 0) v2) c0 0) v3) c0 0) ((gI (sI (sI (sI s (c0 + 1) (gI s c0 0) v1) (c0 + 2) (gI (sI s (c0 + 1) (gI s c0 0) v1) c0 0) v2) (c0 + 3) (gI (sI (sI s (c0 + 1) (gI s c0 0) v1) (c0 + 2) (gI (sI s (c0 + 1) (gI s c0 0) v1) c0 0) v2) c0 0) v3) c0 0) + 1)) (c0 + 5) (gI (sI (sI (sI (sI s (c0 + 1) (gI s c0 0) v1) (c0 + 2) (gI (sI s (c0 + 1) (gI s c0 0) v1) c0 0) v2) (c0 + 3) (gI (sI (sI s (c0 + 1) (gI s c0 0) v1) (c0 + 2) (gI (sI s (c0 + 1) (gI s c0 0) v1) c0 0) v2) c0 0) v3) (c0 + 4) (gI (sI (sI (sI s (c0 + 1) (gI s c0 0) v1) (c0 + 2) (gI (sI s (c0 + 1) (gI s c0 0) v1) c0 0) v2) (c0 + 3) (gI (sI (sI s (c0 + 1) (gI s c0 0) v1) (c0 + 2) (gI (sI s (c0 + 1) (gI s c0 0) v1) c0 0) v2) c0 0) v3) c0 0) ((gI (sI (sI (sI s (c0 + 1) (gI s c0 0) v1) (c0 + 2) (gI (sI s (c0 + 1) (gI s c0 0) v1) c0 0) v2) (c0 + 3) (gI (sI (sI s (c0 + 1) (gI s c0 0) v1) (c0 + 2) (gI (sI s (c0 + 1) (gI s c0 0) v1) c0 0) v2) c0 0) v3) c0 0) + 1)) c0 0) ((gI (sI (sI (sI (sI s (c0 + 1) (gI s c0 0) v1) (c0 + 2) (gI (sI s (c0 + 1) (gI s c0 0) v1) c0 0) v2) (c0 + 3) (gI (sI (sI s (c0 + 1) (gI s c0 0) v1) (c0 + 2) (gI (sI s (c0 + 1) (gI s c0 0) v1) c0 0) v2) c0 0) v3) (c0 + 4) (gI (sI (sI (sI s (c0 + 1) (gI s c0 0) v1) (c0 + 2) (gI (sI s (c0 + 1) (gI s c0 0) v1) c0 0) v2) (c0 + 3) (gI (sI (sI s (c0 + 1) (gI s c0 0) v1) (c0 + 2) (gI (sI s (c0 + 1) (gI s c0 0) v1) c0 0) v2) c0 0) v3) c0 0) ((gI (sI (sI (sI s (c0 + 1) (gI s c0 0) v1) (c0 + 2) (gI (sI s (c0 + 1) (gI s c0 0) v1) c0 0) v2) (c0 + 3) (gI (sI (sI s (c0 + 1) (gI s c0 0) v1) (c0 + 2) (gI (sI s (c0 + 1) (gI s c0 0) v1) c0 0) v2) c0 0) v3) c0 0) + 1)) c0 0) + 1)) c0 0) 0) c0 0) (-1)) c0 0 ((gI (sI (sI (sI (sI (sI (sI (sI s (c0 + 1) (gI s c0 0) v1) (c0 + 2) (gI (sI s (c0 + 1) (gI s c0 0) v1) c0 0) v2) (c0 + 3) (gI (sI (sI s (c0 + 1) (gI s c0 0) v1) (c0 + 2) (gI (sI s (c0 + 1) (gI s c0 0) v1) c0 0) v2) c0 0) v3) (c0 + 4) (gI (sI (sI (sI s (c0 + 1) (gI s c0 0) v1) (c0 + 2) (gI (sI s (c0 + 1) (gI s c0 0) v1) c0 0) v2) (c0 + 3) (gI (sI (sI s (c0 + 1) (gI s c0 0) v1) (c0 + 2) (gI (sI s (c0 + 1) (gI s c0 0) v1) c0 0) v2) c0 0) v3) c0 0) ((gI (sI (sI (sI s (c0 + 1) (gI s c0 0) v1) (c0 + 2) (gI (sI s (c0 + 1) (gI s c0 0) v1) c0 0) v2) (c0 + 3) (gI (sI (sI s (c0 + 1) (gI s c0 0) v1) (c0 + 2) (gI (sI s (c0 + 1) (gI s c0 0) v1) c0 0) v2) c0 0) v3) c0 0) + 1)) (c0 + 5) (gI (sI (sI (sI (sI s (c0 + 1) (gI s c0 0) v1) (c0 + 2) (gI (sI s (c0 + 1) (gI s c0 0) v1) c0 0) v2) (c0 + 3) (gI (sI (sI s (c0 + 1) (gI s c0 0) v1) (c0 + 2) (gI (sI s (c0 + 1) (gI s c0 0) v1) c0 0) v2) c0 0) v3) (c0 + 4) (gI (sI (sI (sI s (c0 + 1) (gI s c0 0) v1) (c0 + 2) (gI (sI s (c0 + 1) (gI s c0 0) v1) c0 0) v2) (c0 + 3) (gI (sI (sI s (c0 + 1) (gI s c0 0) v1) (c0 + 2) (gI (sI s (c0 + 1) (gI s c0 0) v1) c0 0) v2) c0 0) v3) c0 0) ((gI (sI (sI (sI s (c0 + 1) (gI s c0 0) v1) (c0 + 2) (gI (sI s (c0 + 1) (gI s c0 0) v1) c0 0) v2) (c0 + 3) (gI (sI (sI s (c0 + 1) (gI s c0 0) v1) (c0 + 2) (gI (sI s (c0 + 1) (gI s c0 0) v1) c0 0) v2) c0 0) v3) c0 0) + 1)) c0 0) ((gI (sI (sI (sI (sI s (c0 + 1) (gI s c0 0) v1) (c0 + 2) (gI (sI s (c0 + 1) (gI s c0 0) v1) c0 0) v2) (c0 + 3) (gI (sI (sI s (c0 + 1) (gI s c0 0) v1) (c0 + 2) (gI (sI s (c0 + 1) (gI s c0 0) v1) c0 0) v2) c0 0) v3) (c0 + 4) (gI (sI (sI (sI s (c0 + 1) (gI s c0 0) v1) (c0 + 2) (gI (sI s (c0 + 1) (gI s c0 0) v1) c0 0) v2) (c0 + 3) (gI (sI (sI s (c0 + 1) (gI s c0 0) v1) (c0 + 2) (gI (sI s (c0 + 1) (gI s c0 0) v1) c0 0) v2) c0 0) v3) c0 0) ((gI (sI (sI (sI s (c0 + 1) (gI s c0 0) v1) (c0 + 2) (gI (sI s (c0 + 1) (gI s c0 0) v1) c0 0) v2) (c0 + 3) (gI (sI (sI s (c0 + 1) (gI s c0 0) v1) (c0 + 2) (gI (sI s (c0 + 1) (gI s c0 0) v1) c0 0) v2) c0 0) v3) c0 0) + 1)) c0 0) + 1)) (c0 + 6) (gI (sI (sI (sI (sI (sI s (c0 + 1) (gI s c0 0) v1) (c0 + 2) (gI (sI s (c0 + 1) (gI s c0 0) v1) c0 0) v2) (c0 + 3) (gI (sI (sI s (c0 + 1) (gI s c0 0) v1) (c0 + 2) (gI (sI s (c0 + 1) (gI s c0 0) v1) c0 0) v2) c0 0) v3) (c0 + 4) (gI (sI (sI (sI s (c0 + 1) (gI s c0 0) v1) (c0 + 2) (gI (sI s (c0 + 1) (gI s c0 0) v1) c0 0) v2) (c0 + 3) (gI (sI (sI s (c0 + 1) (gI s c0 0) v1) (c0 + 2) (gI (sI s (c0 + 1) (gI s c0 0) v1) c0 0) v2) c0 0) v3) c0 0) ((gI (sI (sI (sI s (c0 + 1) (gI s c0 0) v1) (c0 + 2) (gI (sI s (c0 + 1) (gI s c0 0) v1) c0 0) v2) (c0 + 3) (gI (sI (sI s (c0 + 1) (gI s c0 0) v1) (c0 + 2) (gI (sI s (c0 + 1) (gI s c0 0) v1) c0 0) v2) c0 0) v3) c0 0) + 1)) (c0 + 5) (gI (sI (sI (sI (sI s (c0 + 1) (gI s c0 0) v1) (c0 + 2) (gI (sI s (c0 + 1) (gI s c0 0) v1) c0 0) v2) (c0 + 3) (gI (sI (sI s (c0 + 1) (gI s c0 0) v1) (c0 + 2) (gI (sI s (c0 + 1) (gI s c0 0) v1) c0 0) v2) c0 0) v3) (c0 + 4) (gI (sI (sI (sI s (c0 + 1) (gI s c0 0) v1) (c0 + 2) (gI (sI s (c0 + 1) (gI s c0 0) v1) c0 0) v2) (c0 + 3) (gI (sI (sI s (c0 + 1) (gI s c0 0) v1) (c0 + 2) (gI (sI s (c0 + 1) (gI s c0 0) v1) c0 0) v2) c0 0) v3) c0 0) ((gI (sI (sI (sI s (c0 + 1) (gI s c0 0) v1) (c0 + 2) (gI (sI s (c0 + 1) (gI s c0 0) v1) c0 0) v2) (c0 + 3) (gI (sI (sI s (c0 + 1) (gI s c0 0) v1) (c0 + 2) (gI (sI s (c0 + 1) (gI s c0 0) v1) c0 0) v2) c0 0) v3) c0 0) + 1)) c0 0) ((gI (sI (sI (sI (sI s (c0 + 1) (gI s c0 0) v1) (c0 + 2) (gI (sI s (c0 + 1) (gI s c0 0) v1) c0 0) v2) (c0 + 3) (gI (sI (sI s (c0 + 1) (gI s c0 0) v1) (c0 + 2) (gI (sI s (c0 + 1) (gI s c0 0) v1) c0 0) v2) c0 0) v3) (c0 + 4) (gI (sI (sI (sI s (c0 + 1) (gI s c0 0) v1) (c0 + 2) (gI (sI s (c0 + 1) (gI s c0 0) v1) c0 0) v2) (c0 + 3) (gI (sI (sI s (c0 + 1) (gI s c0 0) v1) (c0 + 2) (gI (sI s (c0 + 1) (gI s c0 0) v1) c0 0) v2) c0 0) v3) c0 0) ((gI (sI (sI (sI s (c0 + 1) (gI s c0 0) v1) (c0 + 2) (gI (sI s (c0 + 1) (gI s c0 0) v1) c0 0) v2) (c0 + 3) (gI (sI (sI s (c0 + 1) (gI s c0 0) v1) (c0 + 2) (gI (sI s (c0 + 1) (gI s c0 0) v1) c0 0) v2) c0 0) v3) c0 0) + 1)) c0 0) + 1)) c0 0) 0) (c0 + 7) (gI (sI (sI (sI (sI (sI (sI s (c0 + 1) (gI s c0 0) v1) (c0 + 2) (gI (sI s (c0 + 1) (gI s c0 0) v1) c0 0) v2) (c0 + 3) (gI (sI (sI s (c0 + 1) (gI s c0 0) v1) (c0 + 2) (gI (sI s (c0 + 1) (gI s c0 0) v1) c0 0) v2) c0 0) v3) (c0 + 4) (gI (sI (sI (sI s (c0 + 1) (gI s c0 0) v1) (c0 + 2) (gI (sI s (c0 + 1) (gI s c0 0) v1) c0 0) v2) (c0 + 3) (gI (sI (sI s (c0 + 1) (gI s c0 0) v1) (c0 + 2) (gI (sI s (c0 + 1) (gI s c0 0) v1) c0 0) v2) c0 0) v3) c0 0) ((gI (sI (sI (sI s (c0 + 1) (gI s c0 0) v1) (c0 + 2) (gI (sI s (c0 + 1) (gI s c0 0) v1) c0 0) v2) (c0 + 3) (gI (sI (sI s (c0 + 1) (gI s c0 0) v1) (c0 + 2) (gI (sI s (c0 + 1) (gI s c0 0) v1) c0 0) v2) c0 0) v3) c0 0) + 1)) (c0 + 5) (gI (sI (sI (sI (sI s (c0 + 1) (gI s c0 0) v1) (c0 + 2) (gI (sI s (c0 + 1) (gI s c0 0) v1) c0 0) v2) (c0 + 3) (gI (sI (sI s (c0 + 1) (gI s c0 0) v1) (c0 + 2) (gI (sI s (c0 + 1) (gI s c0 0) v1) c0 0) v2) c0 0) v3) (c0 + 4) (gI (sI (sI (sI s (c0 + 1) (gI s c0 0) v1) (c0 + 2) (gI (sI s (c0 + 1) (gI s c0 0) v1) c0 0) v2) (c0 + 3) (gI (sI (sI s (c0 + 1) (gI s c0 0) v1) (c0 + 2) (gI (sI s (c0 + 1) (gI s c0 0) v1) c0 0) v2) c0 0) v3) c0 0) ((gI (sI (sI (sI s (c0 + 1) (gI s c0 0) v1) (c0 + 2) (gI (sI s (c0 + 1) (gI s c0 0) v1) c0 0) v2) (c0 + 3) (gI (sI (sI s (c0 + 1) (gI s c0 0) v1) (c0 + 2) (gI (sI s (c0 + 1) (gI s c0 0) v1) c0 0) v2) c0 0) v3) c0 0) + 1)) c0 0) ((gI (sI (sI (sI (sI s (c0 + 1) (gI s c0 0) v1) (c0 + 2) (gI (sI s (c0 + 1) (gI s c0 0) v1) c0 0) v2) (c0 + 3) (gI (sI (sI s (c0 + 1) (gI s c0 0) v1) (c0 + 2) (gI (sI s (c0 + 1) (gI s c0 0) v1) c0 0) v2) c0 0) v3) (c0 + 4) (gI (sI (sI (sI s (c0 + 1) (gI s c0 0) v1) (c0 + 2) (gI (sI s (c0 + 1) (gI s c0 0) v1) c0 0) v2) (c0 + 3) (gI (sI (sI s (c0 + 1) (gI s c0 0) v1) (c0 + 2) (gI (sI s (c0 + 1) (gI s c0 0) v1) c0 0) v2) c0 0) v3) c0 0) ((gI (sI (sI (sI s (c0 + 1) (gI s c0 0) v1) (c0 + 2) (gI (sI s (c0 + 1) (gI s c0 0) v1) c0 0) v2) (c0 + 3) (gI (sI (sI s (c0 + 1) (gI s c0 0) v1) (c0 + 2) (gI (sI s (c0 + 1) (gI s c0 0) v1) c0 0) v2) c0 0) v3) c0 0) + 1)) c0 0) + 1)) (c0 + 6) (gI (sI (sI (sI (sI (sI s (c0 + 1) (gI s c0 0) v1) (c0 + 2) (gI (sI s (c0 + 1) (gI s c0 0) v1) c0 0) v2) (c0 + 3) (gI (sI (sI s (c0 + 1) (gI s c0 0) v1) (c0 + 2) (gI (sI s (c0 + 1) (gI s c0 0) v1) c0 0) v2) c0 0) v3) (c0 + 4) (gI (sI (sI (sI s (c0 + 1) (gI s c0 0) v1) (c0 + 2) (gI (sI s (c0 + 1) (gI s c0 0) v1) c0 0) v2) (c0 + 3) (gI (sI (sI s (c0 + 1) (gI s c0 0) v1) (c0 + 2) (gI (sI s (c0 + 1) (gI s c0 0) v1) c0 0) v2) c0 0) v3) c0 0) ((gI (sI (sI (sI s (c0 + 1) (gI s c0 0) v1) (c0 + 2) (gI (sI s (c0 + 1) (gI s c0 0) v1) c0 0) v2) (c0 + 3) (gI (sI (sI s (c0 + 1) (gI s c0 0) v1) (c0 + 2) (gI (sI s (c0 + 1) (gI s c0 0) v1) c0 0) v2) c0 0) v3) c0 0) + 1)) (c0 + 5) (gI (sI (sI (sI (sI s (c0 + 1) (gI s c0 0) v1) (c0 + 2) (gI (sI s (c0 + 1) (gI s c0 0) v1) c0 0) v2) (c0 + 3) (gI (sI (sI s (c0 + 1) (gI s c0 0) v1) (c0 + 2) (gI (sI s (c0 + 1) (gI s c0 0) v1) c0 0) v2) c0 0) v3) (c0 + 4) (gI (sI (sI (sI s (c0 + 1) (gI s c0 0) v1) (c0 + 2) (gI (sI s (c0 + 1) (gI s c0 0) v1) c0 0) v2) (c0 + 3) (gI (sI (sI s (c0 + 1) (gI s c0 0) v1) (c0 + 2) (gI (sI s (c0 + 1) (gI s c0 0) v1) c0 0) v2) c0 0) v3) c0 0) ((gI (sI (sI (sI s (c0 + 1) (gI s c0 0) v1) (c0 + 2) (gI (sI s (c0 + 1) (gI s c0 0) v1) c0 0) v2) (c0 + 3) (gI (sI (sI s (c0 + 1) (gI s c0 0) v1) (c0 + 2) (gI (sI s (c0 + 1) (gI s c0 0) v1) c0 0) v2) c0 0) v3) c0 0) + 1)) c0 0) ((gI (sI (sI (sI (sI s (c0 + 1) (gI s c0 0) v1) (c0 + 2) (gI (sI s (c0 + 1) (gI s c0 0) v1) c0 0) v2) (c0 + 3) (gI (sI (sI s (c0 + 1) (gI s c0 0) v1) (c0 + 2) (gI (sI s (c0 + 1) (gI s c0 0) v1) c0 0) v2) c0 0) v3) (c0 + 4) (gI (sI (sI (sI s (c0 + 1) (gI s c0 0) v1) (c0 + 2) (gI (sI s (c0 + 1) (gI s c0 0) v1) c0 0) v2) (c0 + 3) (gI (sI (sI s (c0 + 1) (gI s c0 0) v1) (c0 + 2) (gI (sI s (c0 + 1) (gI s c0 0) v1) c0 0) v2) c0 0) v3) c0 0) ((gI (sI (sI (sI s (c0 + 1) (gI s c0 0) v1) (c0 + 2) (gI (sI s (c0 + 1) (gI s c0 0) v1) c0 0) v2) (c0 + 3) (gI (sI (sI s (c0 + 1) (gI s c0 0) v1) (c0 + 2) (gI (sI s (c0 + 1) (gI s c0 0) v1) c0 0) v2) c0 0) v3) c0 0) + 1)) c0 0) + 1)) c0 0) 0) c0 0) (-1)) c0 0) + 1)) c0 0) hM rfl rfl rfl (zC_obj hg1) rfl rfl rfl ?_
    refine g_iconst 109 hM rfl rfl ?_
    refine g_isub 110 hM rfl rfl ?_
    cases h
    exact g_ret hM rfl rfl
  · rw [if_neg hc2] at h
    refine g_ic_lt_f 10 14 hM rfl rfl rfl (zR_gI _ _ _) (zR_lit rfl) hc2 ?_
    refine g_sipush 13 hM rfl rfl rfl ?_
    cases h
    exact g_ret hM rfl rfl
