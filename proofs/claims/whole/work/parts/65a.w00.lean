/-! THE PURE LAYER: methods as functions, and runs that do what they say (0). By program. -/
/-- RelationFinderModel.thrown()I -/
def f_142 (s : zS) : Option Int := some (gI s 177 0)
theorem w_142 {k : zK} {d : Nat} {x : am_H} {s : zS} {q : Int} (hd : 0 ≤ d) (h : f_142 s = some q) : zgo k d 142 (0, [(0, .ref 177)], []) (hp s ++ x) (.inl (some (.int (Int32.ofInt q))), hp s ++ x) := by
  unfold f_142 at h
  have hM := xM_142 k.1
  refine g_aload_n 1 hM rfl rfl rfl ?_
  refine g_getI 4 0 (gI s 177 0) hM rfl rfl rfl rfl rfl rfl rfl ?_
  cases h
  exact g_ret hM rfl rfl
def G_143_50 (k : zK) (d : Nat) (x : am_H) (r : am_A × am_H) (w1 : BitVec 64) (e : (Int × zS)) : Prop := zgo k d 143 (50, [(0, .ref 177), (1, .long (Int64.ofBitVec w1)), (4, .int (Int32.ofInt e.1))], []) (hp e.2 ++ x) r
def K_143_50 (k : zK) (d : Nat) (x : am_H) (r : am_A × am_H) (w1 : BitVec 64) (t : (zS)) : Prop := zgo k d 143 (92, [(0, .ref 177)], []) (hp t ++ x) r
def b_143_50 (w1 : BitVec 64) (v4 : Int) (s : zS) : Option ((Int × zS) ⊕ (zS)) := zg (zR v4) (if v4 < 0 then (some (.inr s)) else (zg (zR (8 * v4)) (zg (0 ≤ (gI s 177 3) ∧ (gI s 177 3) < 600) (some (.inl ((v4 + (-1)), (sI (sI s 178 (gI s 177 3) ((BitVec.toNat ((w1 >>> zshl (8 * v4)) &&& (255#64)) : Nat) : Int)) 177 3 ((gI s 177 3) + 1))))))))
theorem wb_143_50 {k : zK} {d : Nat} {x : am_H} {r : am_A × am_H} {w1 : BitVec 64} {v4 : Int} {s : zS} {q : (Int × zS) ⊕ (zS)} (hd : 0 ≤ d) (h : b_143_50 w1 v4 s = some q) (hK : Sum.elim (G_143_50 k d x r w1) (K_143_50 k d x r w1) q) : G_143_50 k d x r w1 (v4, s) := by
  unfold b_143_50 at h
  have hM := xM_143 k.1
  show zgo k d 143 (50, [(0, .ref 177), (1, .long (Int64.ofBitVec w1)), (4, .int (Int32.ofInt v4))], []) (hp s ++ x) r
  refine g_iload 52 hM rfl rfl rfl ?_
  obtain ⟨hg1, h⟩ := zg_some h
  by_cases hc2 : v4 < 0
  · rw [if_pos hc2] at h
    refine g_if_lt_t 92 hM rfl rfl hg1 hc2 ?_
    cases h
    exact g_lv [(0, .ref 177)] rfl ⟨rfl, trivial⟩ hK
  · rw [if_neg hc2] at h
    refine g_if_lt_f 55 92 hM rfl rfl rfl hg1 hc2 ?_
    refine g_aload_n 56 hM rfl rfl rfl ?_
    refine g_getF 59 hM rfl rfl rfl rfl rfl ?_
    refine g_aload_n 60 hM rfl rfl rfl ?_
    refine g_getI 63 3 (gI s 177 3) hM rfl rfl rfl rfl rfl rfl rfl ?_
    refine g_lload_n 64 hM rfl rfl rfl ?_
    refine g_bipush 66 hM rfl rfl rfl ?_
    refine g_iload 68 hM rfl rfl rfl ?_
    refine g_imul 69 hM rfl rfl ?_
    obtain ⟨hg3, h⟩ := zg_some h
    refine g_lushr 70 hM rfl rfl hg3 ?_
    refine g_ldc2 73 (255#64) hM rfl rfl rfl (by decide) ?_
    refine g_land 74 hM rfl rfl ?_
    refine g_l2i 75 hM rfl rfl ?_
    obtain ⟨hg4, h⟩ := zg_some h
    refine g_iastore 76 hM rfl rfl rfl rfl hg4 ?_
    refine g_aload_n 77 hM rfl rfl rfl ?_
    refine g_dup 78 hM rfl rfl rfl ?_
    refine g_getI 81 3 (gI s 177 3) hM rfl rfl rfl rfl rfl rfl rfl ?_
    refine g_iconst 82 hM rfl rfl ?_
    refine g_iadd 83 hM rfl rfl ?_
    refine g_putI 86 3 hM rfl rfl rfl rfl rfl rfl rfl ?_
    refine g_iinc 89 hM rfl rfl rfl rfl ?_
    refine g_goto 50 hM rfl rfl ?_
    cases h
    exact g_lv [(0, .ref 177), (1, .long (Int64.ofBitVec w1)), (4, .int (Int32.ofInt (v4 + (-1))))] rfl ⟨rfl, rfl, rfl, trivial⟩ hK
theorem wl_143_50 {k : zK} {d : Nat} {x : am_H} {r : am_A × am_H} {w1 : BitVec 64} {n : Nat} {e : (Int × zS)} {t : (zS)} (hd : 0 ≤ d) (h : zlp (fun (q : Int × zS) => b_143_50 w1 q.1 q.2) n e = some t) (hK : K_143_50 k d x r w1 t) : G_143_50 k d x r w1 e := zlp_go (G := fun e => G_143_50 k d x r w1 e) (K := K_143_50 k d x r w1) (fun e e1 h1 hg => wb_143_50 (q := .inl e1) hd h1 hg) (fun e t1 h1 hk => wb_143_50 (q := .inr t1) hd h1 hk) n e t h hK
def j_143_33 (w1 : BitVec 64) (v3 : Int) (t1 : Int) (s : zS) : Option (Int × zS) := if 0 < (gI (sI s 177 0 t1) 177 0) then (some (0, (sI s 177 0 t1))) else (zo (zlp (fun (q : Int × zS) => b_143_50 w1 q.1 q.2) zF ((v3 - 1), (sI s 177 0 t1))) (fun e2 => some ((gI e2 177 3), e2)))
theorem wj_143_33 {k : zK} {d : Nat} {x : am_H} {w1 : BitVec 64} {v3 : Int} {t1 : Int} {s : zS} {q : (Int × zS)} (hd : 0 ≤ d) (h : j_143_33 w1 v3 t1 s = some q) : zgo k d 143 (33, [(0, .ref 177), (1, .long (Int64.ofBitVec w1)), (3, .int (Int32.ofInt v3))], [.int (Int32.ofInt t1), .ref 177]) (hp s ++ x) (.inl (some (.int (Int32.ofInt q.1))), hp q.2 ++ x) := by
  unfold j_143_33 at h
  have hM := xM_143 k.1
  refine g_putI 36 0 hM rfl rfl rfl rfl rfl rfl rfl ?_
  refine g_aload_n 37 hM rfl rfl rfl ?_
  refine g_getI 40 0 (gI (sI s 177 0 t1) 177 0) hM rfl rfl rfl rfl rfl rfl rfl ?_
  by_cases hc1 : 0 < (gI (sI s 177 0 t1) 177 0)
  · rw [if_pos hc1] at h
    refine g_if_le_f 43 45 hM rfl rfl rfl (zR_gI _ _ _) hc1 ?_
    refine g_iconst 44 hM rfl rfl ?_
    cases h
    exact g_ret hM rfl rfl
  · rw [if_neg hc1] at h
    refine g_if_le_t 45 hM rfl rfl (zR_gI _ _ _) hc1 ?_
    refine g_iload_n 46 hM rfl rfl rfl ?_
    refine g_iconst 47 hM rfl rfl ?_
    refine g_isub 48 hM rfl rfl ?_
    refine g_istore 50 hM rfl rfl rfl ?_
    obtain ⟨e2, h3, h⟩ := zo_some h
    refine g_lv [(0, .ref 177), (1, .long (Int64.ofBitVec w1)), (4, .int (Int32.ofInt (v3 - 1)))] rfl ⟨rfl, rfl, rfl, trivial⟩ ?_
    refine wl_143_50 (by omega) h3 ?_
    show zgo k d 143 (92, [(0, .ref 177)], []) (hp e2 ++ x) (.inl (some (.int (Int32.ofInt q.1))), hp q.2 ++ x)
    refine g_aload_n 93 hM rfl rfl rfl ?_
    refine g_getI 96 3 (gI e2 177 3) hM rfl rfl rfl rfl rfl rfl rfl ?_
    cases h
    exact g_ret hM rfl rfl
def j_143_12 (w1 : BitVec 64) (v3 : Int) (s : zS) : Option (Int × zS) := j_143_33 w1 v3 1 s
theorem wj_143_12 {k : zK} {d : Nat} {x : am_H} {w1 : BitVec 64} {v3 : Int} {s : zS} {q : (Int × zS)} (hd : 0 ≤ d) (h : j_143_12 w1 v3 s = some q) : zgo k d 143 (12, [(0, .ref 177), (1, .long (Int64.ofBitVec w1)), (3, .int (Int32.ofInt v3))], [.ref 177]) (hp s ++ x) (.inl (some (.int (Int32.ofInt q.1))), hp q.2 ++ x) := by
  unfold j_143_12 at h
  have hM := xM_143 k.1
  refine g_iconst 13 hM rfl rfl ?_
  refine g_goto 33 hM rfl rfl ?_
  refine g_lv [(0, .ref 177), (1, .long (Int64.ofBitVec w1)), (3, .int (Int32.ofInt v3))] rfl ⟨rfl, rfl, rfl, trivial⟩ ?_
  exact wj_143_33 (by omega) h
/-- RelationFinderModel.feed(JI)I -/
def f_143 (w1 : BitVec 64) (v3 : Int) (s : zS) : Option (Int × zS) := zg (zR v3) (if v3 < 1 then (j_143_12 w1 v3 s) else (if 8 < v3 then (j_143_12 w1 v3 s) else (zg (zR ((gI s 177 3) + v3)) (if 600 < ((gI s 177 3) + v3) then (j_143_33 w1 v3 2 s) else (j_143_33 w1 v3 0 s)))))
theorem w_143 {k : zK} {d : Nat} {x : am_H} {w1 : BitVec 64} {v3 : Int} {s : zS} {q : (Int × zS)} (hd : 0 ≤ d) (h : f_143 w1 v3 s = some q) : zgo k d 143 (0, [(0, .ref 177), (1, .long (Int64.ofBitVec w1)), (3, .int (Int32.ofInt v3))], []) (hp s ++ x) (.inl (some (.int (Int32.ofInt q.1))), hp q.2 ++ x) := by
  unfold f_143 at h
  have hM := xM_143 k.1
  refine g_aload_n 1 hM rfl rfl rfl ?_
  refine g_iload_n 2 hM rfl rfl rfl ?_
  refine g_iconst 3 hM rfl rfl ?_
  obtain ⟨hg1, h⟩ := zg_some h
  by_cases hc2 : v3 < 1
  · rw [if_pos hc2] at h
    refine g_ic_lt_t 12 hM rfl rfl hg1 (zR_lit rfl) hc2 ?_
    refine g_lv [(0, .ref 177), (1, .long (Int64.ofBitVec w1)), (3, .int (Int32.ofInt v3))] rfl ⟨rfl, rfl, rfl, trivial⟩ ?_
    exact wj_143_12 (by omega) h
  · rw [if_neg hc2] at h
    refine g_ic_lt_f 6 12 hM rfl rfl rfl hg1 (zR_lit rfl) hc2 ?_
    refine g_iload_n 7 hM rfl rfl rfl ?_
    refine g_bipush 9 hM rfl rfl rfl ?_
    by_cases hc3 : 8 < v3
    · rw [if_pos hc3] at h
      refine g_ic_le_f 12 16 hM rfl rfl rfl hg1 (zR_lit rfl) hc3 ?_
      refine g_lv [(0, .ref 177), (1, .long (Int64.ofBitVec w1)), (3, .int (Int32.ofInt v3))] rfl ⟨rfl, rfl, rfl, trivial⟩ ?_
      exact wj_143_12 (by omega) h
    · rw [if_neg hc3] at h
      refine g_ic_le_t 16 hM rfl rfl hg1 (zR_lit rfl) hc3 ?_
      refine g_aload_n 17 hM rfl rfl rfl ?_
      refine g_getI 20 3 (gI s 177 3) hM rfl rfl rfl rfl rfl rfl rfl ?_
      refine g_iload_n 21 hM rfl rfl rfl ?_
      refine g_iadd 22 hM rfl rfl ?_
      refine g_sipush 25 hM rfl rfl rfl ?_
      obtain ⟨hg4, h⟩ := zg_some h
      by_cases hc5 : 600 < ((gI s 177 3) + v3)
      · rw [if_pos hc5] at h
        refine g_ic_le_f 28 32 hM rfl rfl rfl hg4 (zR_lit rfl) hc5 ?_
        refine g_iconst 29 hM rfl rfl ?_
        refine g_goto 33 hM rfl rfl ?_
        refine g_lv [(0, .ref 177), (1, .long (Int64.ofBitVec w1)), (3, .int (Int32.ofInt v3))] rfl ⟨rfl, rfl, rfl, trivial⟩ ?_
        exact wj_143_33 (by omega) h
      · rw [if_neg hc5] at h
        refine g_ic_le_t 32 hM rfl rfl hg4 (zR_lit rfl) hc5 ?_
        refine g_iconst 33 hM rfl rfl ?_
        refine g_lv [(0, .ref 177), (1, .long (Int64.ofBitVec w1)), (3, .int (Int32.ofInt v3))] rfl ⟨rfl, rfl, rfl, trivial⟩ ?_
        exact wj_143_33 (by omega) h
/-- RelationFinderModel.fault(Z)I -/
def f_144 (v1 : Int) (s : zS) : Option (Int × zS) := if (gI s 177 6) = 0 then (some (0, (sI s 177 0 0))) else (zg (zR v1) (if v1 = 0 then (some ((gI s 177 4), (sI s 177 0 0))) else (some ((gI s 177 5), (sI s 177 0 0)))))
theorem w_144 {k : zK} {d : Nat} {x : am_H} {v1 : Int} {s : zS} {q : (Int × zS)} (hd : 0 ≤ d) (h : f_144 v1 s = some q) : zgo k d 144 (0, [(0, .ref 177), (1, .int (Int32.ofInt v1))], []) (hp s ++ x) (.inl (some (.int (Int32.ofInt q.1))), hp q.2 ++ x) := by
  unfold f_144 at h
  have hM := xM_144 k.1
  refine g_aload_n 1 hM rfl rfl rfl ?_
  refine g_iconst 2 hM rfl rfl ?_
  refine g_putI 5 0 hM rfl rfl rfl rfl rfl rfl rfl ?_
  refine g_aload_n 6 hM rfl rfl rfl ?_
  refine g_getI 9 6 (gI s 177 6) hM rfl rfl rfl rfl rfl rfl rfl ?_
  by_cases hc1 : (gI s 177 6) = 0
  · rw [if_pos hc1] at h
    refine g_if_ne_f 12 16 hM rfl rfl rfl (zR_gI _ _ _) hc1 ?_
    refine g_iconst 13 hM rfl rfl ?_
    refine g_goto 31 hM rfl rfl ?_
    cases h
    exact g_ret hM rfl rfl
  · rw [if_neg hc1] at h
    refine g_if_ne_t 16 hM rfl rfl (zR_gI _ _ _) hc1 ?_
    refine g_iload_n 17 hM rfl rfl rfl ?_
    obtain ⟨hg2, h⟩ := zg_some h
    by_cases hc3 : v1 = 0
    · rw [if_pos hc3] at h
      refine g_if_eq_t 27 hM rfl rfl hg2 hc3 ?_
      refine g_aload_n 28 hM rfl rfl rfl ?_
      refine g_getI 31 4 (gI s 177 4) hM rfl rfl rfl rfl rfl rfl rfl ?_
      cases h
      exact g_ret hM rfl rfl
    · rw [if_neg hc3] at h
      refine g_if_eq_f 20 27 hM rfl rfl rfl hg2 hc3 ?_
      refine g_aload_n 21 hM rfl rfl rfl ?_
      refine g_getI 24 5 (gI s 177 5) hM rfl rfl rfl rfl rfl rfl rfl ?_
      refine g_goto 31 hM rfl rfl ?_
      cases h
      exact g_ret hM rfl rfl
def G_147_4 (k : zK) (d : Nat) (x : am_H) (r : am_A × am_H) (s : zS) (e : (Int × BitVec 64)) : Prop := zgo k d 147 (4, [(2, .int (Int32.ofInt e.1)), (3, .long (Int64.ofBitVec e.2))], []) (hp s ++ x) r
def K_147_4 (k : zK) (d : Nat) (x : am_H) (r : am_A × am_H) (s : zS) (t : (Int)) : Prop := zgo k d 147 (21, [(2, .int (Int32.ofInt t))], []) (hp s ++ x) r
def b_147_4 (s : zS) (v2 : Int) (w3 : BitVec 64) : Option ((Int × BitVec 64) ⊕ (Int)) := if w3 = (0#64) then (some (.inr v2)) else (some (.inl ((v2 + 1), (w3 >>> zshl 8))))
theorem wb_147_4 {k : zK} {d : Nat} {x : am_H} {r : am_A × am_H} {v2 : Int} {w3 : BitVec 64} {s : zS} {q : (Int × BitVec 64) ⊕ (Int)} (hd : 0 ≤ d) (h : b_147_4 s v2 w3 = some q) (hK : Sum.elim (G_147_4 k d x r s) (K_147_4 k d x r s) q) : G_147_4 k d x r s (v2, w3) := by
  unfold b_147_4 at h
  have hM := xM_147 k.1
  show zgo k d 147 (4, [(2, .int (Int32.ofInt v2)), (3, .long (Int64.ofBitVec w3))], []) (hp s ++ x) r
  refine g_lload_n 5 hM rfl rfl rfl ?_
  refine g_lconst 6 (0#64) hM rfl rfl rfl ?_
  by_cases hc1 : w3 = (0#64)
  · rw [if_pos hc1] at h
    refine g_lc_eq_t 7 21 hM rfl rfl rfl rfl hc1 ?_
    cases h
    exact g_lv [(2, .int (Int32.ofInt v2))] rfl ⟨rfl, trivial⟩ hK
  · rw [if_neg hc1] at h
    refine g_lc_eq_f 7 10 21 hM rfl rfl rfl rfl rfl hc1 ?_
    refine g_iinc 13 hM rfl rfl rfl rfl ?_
    refine g_lload_n 14 hM rfl rfl rfl ?_
    refine g_bipush 16 hM rfl rfl rfl ?_
    refine g_lushr 17 hM rfl rfl (zR_lit rfl) ?_
    refine g_lstore_n 18 hM rfl rfl rfl ?_
    refine g_goto 4 hM rfl rfl ?_
    cases h
    exact g_lv [(2, .int (Int32.ofInt (v2 + 1))), (3, .long (Int64.ofBitVec (w3 >>> zshl 8)))] rfl ⟨rfl, rfl, trivial⟩ hK
theorem wl_147_4 {k : zK} {d : Nat} {x : am_H} {r : am_A × am_H} {s : zS} {n : Nat} {e : (Int × BitVec 64)} {t : (Int)} (hd : 0 ≤ d) (h : zlp (fun (q : Int × BitVec 64) => b_147_4 s q.1 q.2) n e = some t) (hK : K_147_4 k d x r s t) : G_147_4 k d x r s e := zlp_go (G := fun e => G_147_4 k d x r s e) (K := K_147_4 k d x r s) (fun e e1 h1 hg => wb_147_4 (q := .inl e1) hd h1 hg) (fun e t1 h1 hk => wb_147_4 (q := .inr t1) hd h1 hk) n e t h hK
/-- RelationFinderModel.letters(J)I -/
def f_147 (w0 : BitVec 64) (s : zS) : Option Int := zo (zlp (fun (q : Int × BitVec 64) => b_147_4 s q.1 q.2) zF (0, w0)) (fun e1 => some e1)
theorem w_147 {k : zK} {d : Nat} {x : am_H} {w0 : BitVec 64} {s : zS} {q : Int} (hd : 0 ≤ d) (h : f_147 w0 s = some q) : zgo k d 147 (0, [(0, .long (Int64.ofBitVec w0))], []) (hp s ++ x) (.inl (some (.int (Int32.ofInt q))), hp s ++ x) := by
  unfold f_147 at h
  have hM := xM_147 k.1
  refine g_iconst 1 hM rfl rfl ?_
  refine g_istore_n 2 hM rfl rfl rfl ?_
  refine g_lload_n 3 hM rfl rfl rfl ?_
  refine g_lstore_n 4 hM rfl rfl rfl ?_
  obtain ⟨e1, h2, h⟩ := zo_some h
  refine g_lv [(2, .int (Int32.ofInt 0)), (3, .long (Int64.ofBitVec w0))] rfl ⟨rfl, rfl, trivial⟩ ?_
  refine wl_147_4 (by omega) h2 ?_
  show zgo k d 147 (21, [(2, .int (Int32.ofInt e1))], []) (hp s ++ x) (.inl (some (.int (Int32.ofInt q))), hp s ++ x)
  refine g_iload_n 22 hM rfl rfl rfl ?_
  cases h
  exact g_ret hM rfl rfl
def G_146_33 (k : zK) (d : Nat) (x : am_H) (r : am_A × am_H) (w0 : BitVec 64) (v2 : Int) (s : zS) (e : (Int × Int)) : Prop := zgo k d 146 (33, [(0, .long (Int64.ofBitVec w0)), (2, .int (Int32.ofInt v2)), (3, .int (Int32.ofInt e.1)), (4, .int (Int32.ofInt e.2))], []) (hp s ++ x) r
def K_146_33 (k : zK) (d : Nat) (x : am_H) (r : am_A × am_H) (w0 : BitVec 64) (v2 : Int) (s : zS) (t : (Int)) : Prop := zgo k d 146 (68, [(3, .int (Int32.ofInt t))], []) (hp s ++ x) r
/-- RelationFinderModel.letter(JI)J -/
def f_149 (w0 : BitVec 64) (v2 : Int) : Option (BitVec 64) := zg (zR (8 * v2)) (some ((w0 >>> zshl (8 * v2)) &&& (255#64)))
theorem w_149 {k : zK} {d : Nat} {x : am_H} {w0 : BitVec 64} {v2 : Int} {s : zS} {q : (BitVec 64)} (hd : 0 ≤ d) (h : f_149 w0 v2 = some q) : zgo k d 149 (0, [(0, .long (Int64.ofBitVec w0)), (2, .int (Int32.ofInt v2))], []) (hp s ++ x) (.inl (some (.long (Int64.ofBitVec q))), hp s ++ x) := by
  unfold f_149 at h
  have hM := xM_149 k.1
  refine g_lload_n 1 hM rfl rfl rfl ?_
  refine g_bipush 3 hM rfl rfl rfl ?_
  refine g_iload_n 4 hM rfl rfl rfl ?_
  refine g_imul 5 hM rfl rfl ?_
  obtain ⟨hg1, h⟩ := zg_some h
  refine g_lushr 6 hM rfl rfl hg1 ?_
  refine g_ldc2 9 (255#64) hM rfl rfl rfl (by decide) ?_
  refine g_land 10 hM rfl rfl ?_
  cases h
  exact g_ret hM rfl rfl
/-- RelationFinderModel.isLetter(I)Z -/
def f_150 (v0 : Int) : Option Int := zg (zR v0) (if v0 < 97 then (some 0) else (if 122 < v0 then (some 0) else (some 1)))
theorem w_150 {k : zK} {d : Nat} {x : am_H} {v0 : Int} {s : zS} {q : Int} (hd : 0 ≤ d) (h : f_150 v0 = some q) : zgo k d 150 (0, [(0, .int (Int32.ofInt v0))], []) (hp s ++ x) (.inl (some (.int (Int32.ofInt q))), hp s ++ x) := by
  unfold f_150 at h
  have hM := xM_150 k.1
  refine g_iload_n 1 hM rfl rfl rfl ?_
  refine g_bipush 3 hM rfl rfl rfl ?_
  obtain ⟨hg1, h⟩ := zg_some h
  by_cases hc2 : v0 < 97
  · rw [if_pos hc2] at h
    refine g_ic_lt_t 16 hM rfl rfl hg1 (zR_lit rfl) hc2 ?_
    refine g_iconst 17 hM rfl rfl ?_
    cases h
    exact g_ret hM rfl rfl
  · rw [if_neg hc2] at h
    refine g_ic_lt_f 6 16 hM rfl rfl rfl hg1 (zR_lit rfl) hc2 ?_
    refine g_iload_n 7 hM rfl rfl rfl ?_
    refine g_bipush 9 hM rfl rfl rfl ?_
    by_cases hc3 : 122 < v0
    · rw [if_pos hc3] at h
      refine g_ic_gt_t 16 hM rfl rfl hg1 (zR_lit rfl) hc3 ?_
      refine g_iconst 17 hM rfl rfl ?_
      cases h
      exact g_ret hM rfl rfl
    · rw [if_neg hc3] at h
      refine g_ic_gt_f 12 16 hM rfl rfl rfl hg1 (zR_lit rfl) hc3 ?_
      refine g_iconst 13 hM rfl rfl ?_
      refine g_goto 17 hM rfl rfl ?_
      cases h
      exact g_ret hM rfl rfl
def b_146_33 (w0 : BitVec 64) (v2 : Int) (s : zS) (v3 : Int) (v4 : Int) : Option ((Int × Int) ⊕ (Int)) := zg (zR v4) (zg (zR v2) (if v4 < v2 then (zg (zR v3) (if v3 = 0 then (some (.inl (0, (v4 + 1)))) else (zo (f_149 w0 v4) (fun r7 => zo (f_150 ((BitVec.toNat r7 : Nat) : Int)) (fun r9 => zg (zR r9) (if r9 = 0 then (some (.inl (0, (v4 + 1)))) else (some (.inl (1, (v4 + 1)))))))))) else (some (.inr v3))))
theorem wb_146_33 {k : zK} {d : Nat} {x : am_H} {r : am_A × am_H} {w0 : BitVec 64} {v2 : Int} {v3 : Int} {v4 : Int} {s : zS} {q : (Int × Int) ⊕ (Int)} (hd : 1 ≤ d) (h : b_146_33 w0 v2 s v3 v4 = some q) (hK : Sum.elim (G_146_33 k d x r w0 v2 s) (K_146_33 k d x r w0 v2 s) q) : G_146_33 k d x r w0 v2 s (v3, v4) := by
  unfold b_146_33 at h
  have hM := xM_146 k.1
  show zgo k d 146 (33, [(0, .long (Int64.ofBitVec w0)), (2, .int (Int32.ofInt v2)), (3, .int (Int32.ofInt v3)), (4, .int (Int32.ofInt v4))], []) (hp s ++ x) r
  refine g_iload 35 hM rfl rfl rfl ?_
  refine g_iload_n 36 hM rfl rfl rfl ?_
  obtain ⟨hg1, h⟩ := zg_some h
  obtain ⟨hg2, h⟩ := zg_some h
  by_cases hc3 : v4 < v2
  · rw [if_pos hc3] at h
    refine g_ic_ge_f 39 68 hM rfl rfl rfl hg1 hg2 hc3 ?_
    refine g_iload_n 40 hM rfl rfl rfl ?_
    obtain ⟨hg4, h⟩ := zg_some h
    by_cases hc5 : v3 = 0
    · rw [if_pos hc5] at h
      refine g_if_eq_t 60 hM rfl rfl hg4 hc5 ?_
      refine g_iconst 61 hM rfl rfl ?_
      refine g_istore_n 62 hM rfl rfl rfl ?_
      refine g_iinc 65 hM rfl rfl rfl rfl ?_
      refine g_goto 33 hM rfl rfl ?_
      cases h
      exact g_lv [(0, .long (Int64.ofBitVec w0)), (2, .int (Int32.ofInt v2)), (3, .int (Int32.ofInt 0)), (4, .int (Int32.ofInt (v4 + 1)))] rfl ⟨rfl, rfl, rfl, rfl, trivial⟩ hK
    · rw [if_neg hc5] at h
      refine g_if_eq_f 43 60 hM rfl rfl rfl hg4 hc5 ?_
      refine g_lload_n 44 hM rfl rfl rfl ?_
      refine g_iload 46 hM rfl rfl rfl ?_
      obtain ⟨r7, h6, h⟩ := zo_some h
      refine g_call 49 _ [.long (Int64.ofBitVec r7)] hM rfl rfl rfl rfl rfl (xM_149 _) rfl rfl rfl rfl (by omega) (w_149 (by omega) h6) rfl ?_
      refine g_l2i 50 hM rfl rfl ?_
      obtain ⟨r9, h8, h⟩ := zo_some h
      refine g_call 53 _ [.int (Int32.ofInt r9)] hM rfl rfl rfl rfl rfl (xM_150 _) rfl rfl rfl rfl (by omega) (w_150 (by omega) h8) rfl ?_
      obtain ⟨hg10, h⟩ := zg_some h
      by_cases hc11 : r9 = 0
      · rw [if_pos hc11] at h
        refine g_if_eq_t 60 hM rfl rfl hg10 hc11 ?_
        refine g_iconst 61 hM rfl rfl ?_
        refine g_istore_n 62 hM rfl rfl rfl ?_
        refine g_iinc 65 hM rfl rfl rfl rfl ?_
        refine g_goto 33 hM rfl rfl ?_
        cases h
        exact g_lv [(0, .long (Int64.ofBitVec w0)), (2, .int (Int32.ofInt v2)), (3, .int (Int32.ofInt 0)), (4, .int (Int32.ofInt (v4 + 1)))] rfl ⟨rfl, rfl, rfl, rfl, trivial⟩ hK
      · rw [if_neg hc11] at h
        refine g_if_eq_f 56 60 hM rfl rfl rfl hg10 hc11 ?_
        refine g_iconst 57 hM rfl rfl ?_
        refine g_goto 61 hM rfl rfl ?_
        refine g_istore_n 62 hM rfl rfl rfl ?_
        refine g_iinc 65 hM rfl rfl rfl rfl ?_
        refine g_goto 33 hM rfl rfl ?_
        cases h
        exact g_lv [(0, .long (Int64.ofBitVec w0)), (2, .int (Int32.ofInt v2)), (3, .int (Int32.ofInt 1)), (4, .int (Int32.ofInt (v4 + 1)))] rfl ⟨rfl, rfl, rfl, rfl, trivial⟩ hK
  · rw [if_neg hc3] at h
    refine g_ic_ge_t 68 hM rfl rfl hg1 hg2 hc3 ?_
    cases h
    exact g_lv [(3, .int (Int32.ofInt v3))] rfl ⟨rfl, trivial⟩ hK
theorem wl_146_33 {k : zK} {d : Nat} {x : am_H} {r : am_A × am_H} {w0 : BitVec 64} {v2 : Int} {s : zS} {n : Nat} {e : (Int × Int)} {t : (Int)} (hd : 1 ≤ d) (h : zlp (fun (q : Int × Int) => b_146_33 w0 v2 s q.1 q.2) n e = some t) (hK : K_146_33 k d x r w0 v2 s t) : G_146_33 k d x r w0 v2 s e := zlp_go (G := fun e => G_146_33 k d x r w0 v2 s e) (K := K_146_33 k d x r w0 v2 s) (fun e e1 h1 hg => wb_146_33 (q := .inl e1) hd h1 hg) (fun e t1 h1 hk => wb_146_33 (q := .inr t1) hd h1 hk) n e t h hK
def j_146_29 (w0 : BitVec 64) (v2 : Int) (t0 : Int) (s : zS) : Option Int := zo (zlp (fun (q : Int × Int) => b_146_33 w0 v2 s q.1 q.2) zF (t0, 0)) (fun e1 => zg (e1 = 0 ∨ e1 = 1) (some e1))
theorem wj_146_29 {k : zK} {d : Nat} {x : am_H} {w0 : BitVec 64} {v2 : Int} {t0 : Int} {s : zS} {q : Int} (hd : 1 ≤ d) (h : j_146_29 w0 v2 t0 s = some q) : zgo k d 146 (29, [(0, .long (Int64.ofBitVec w0)), (2, .int (Int32.ofInt v2))], [.int (Int32.ofInt t0)]) (hp s ++ x) (.inl (some (.int (Int32.ofInt q))), hp s ++ x) := by
  unfold j_146_29 at h
  have hM := xM_146 k.1
  refine g_istore_n 30 hM rfl rfl rfl ?_
  refine g_iconst 31 hM rfl rfl ?_
  refine g_istore 33 hM rfl rfl rfl ?_
  obtain ⟨e1, h2, h⟩ := zo_some h
  refine g_lv [(0, .long (Int64.ofBitVec w0)), (2, .int (Int32.ofInt v2)), (3, .int (Int32.ofInt t0)), (4, .int (Int32.ofInt 0))] rfl ⟨rfl, rfl, rfl, rfl, trivial⟩ ?_
  refine wl_146_33 (by omega) h2 ?_
  show zgo k d 146 (68, [(3, .int (Int32.ofInt e1))], []) (hp s ++ x) (.inl (some (.int (Int32.ofInt q))), hp s ++ x)
  refine g_iload_n 69 hM rfl rfl rfl ?_
  obtain ⟨hg3, h⟩ := zg_some h
  cases h
  exact g_ret hM rfl (z_retB hg3)
def j_146_28 (w0 : BitVec 64) (v2 : Int) (s : zS) : Option Int := j_146_29 w0 v2 0 s
theorem wj_146_28 {k : zK} {d : Nat} {x : am_H} {w0 : BitVec 64} {v2 : Int} {s : zS} {q : Int} (hd : 1 ≤ d) (h : j_146_28 w0 v2 s = some q) : zgo k d 146 (28, [(0, .long (Int64.ofBitVec w0)), (2, .int (Int32.ofInt v2))], []) (hp s ++ x) (.inl (some (.int (Int32.ofInt q))), hp s ++ x) := by
  unfold j_146_28 at h
  have hM := xM_146 k.1
  refine g_iconst 29 hM rfl rfl ?_
  refine g_lv [(0, .long (Int64.ofBitVec w0)), (2, .int (Int32.ofInt v2))] rfl ⟨rfl, rfl, trivial⟩ ?_
  exact wj_146_29 (by omega) h
/-- RelationFinderModel.keyword(J)I -/
def f_148 (w0 : BitVec 64) : Option Int := if w0 = (6384748#64) then (some 10) else (if w0 = (1936682341#64) then (some 11) else (if w0 = (28271#64) then (some 12) else (if w0 = (1819242085#64) then (some 13) else (if w0 = (7302757#64) then (some 14) else (if w0 = (7237492#64) then (some 15) else (if w0 = (6385252#64) then (some 16) else (if w0 = (28530#64) then (some 17) else (if w0 = (29675202177230195#64) then (some 18) else (if w0 = (6907494#64) then (some 19) else (if w0 = (26990#64) then (some 20) else (if w0 = (1852796517#64) then (some 21) else (if w0 = (1970170230#64) then (some 22) else (if w0 = (1768187246#64) then (some 23) else (if w0 = (1953658213#64) then (some 24) else (if w0 = (439721161573#64) then (some 25) else (some (-1)))))))))))))))))
theorem w_148 {k : zK} {d : Nat} {x : am_H} {w0 : BitVec 64} {s : zS} {q : Int} (hd : 0 ≤ d) (h : f_148 w0 = some q) : zgo k d 148 (0, [(0, .long (Int64.ofBitVec w0))], []) (hp s ++ x) (.inl (some (.int (Int32.ofInt q))), hp s ++ x) := by
  unfold f_148 at h
  have hM := xM_148 k.1
  refine g_lload_n 1 hM rfl rfl rfl ?_
  refine g_ldc2 4 (6384748#64) hM rfl rfl rfl (by decide) ?_
  by_cases hc1 : w0 = (6384748#64)
  · rw [if_pos hc1] at h
    refine g_lc_ne_f 5 8 11 hM rfl rfl rfl rfl rfl hc1 ?_
    refine g_bipush 10 hM rfl rfl rfl ?_
    cases h
    exact g_ret hM rfl rfl
  · rw [if_neg hc1] at h
    refine g_lc_ne_t 5 11 hM rfl rfl rfl rfl hc1 ?_
    refine g_lload_n 12 hM rfl rfl rfl ?_
    refine g_ldc2 15 (1936682341#64) hM rfl rfl rfl (by decide) ?_
    by_cases hc2 : w0 = (1936682341#64)
    · rw [if_pos hc2] at h
      refine g_lc_ne_f 16 19 22 hM rfl rfl rfl rfl rfl hc2 ?_
      refine g_bipush 21 hM rfl rfl rfl ?_
      cases h
      exact g_ret hM rfl rfl
    · rw [if_neg hc2] at h
      refine g_lc_ne_t 16 22 hM rfl rfl rfl rfl hc2 ?_
      refine g_lload_n 23 hM rfl rfl rfl ?_
      refine g_ldc2 26 (28271#64) hM rfl rfl rfl (by decide) ?_
      by_cases hc3 : w0 = (28271#64)
      · rw [if_pos hc3] at h
        refine g_lc_ne_f 27 30 33 hM rfl rfl rfl rfl rfl hc3 ?_
        refine g_bipush 32 hM rfl rfl rfl ?_
        cases h
        exact g_ret hM rfl rfl
      · rw [if_neg hc3] at h
        refine g_lc_ne_t 27 33 hM rfl rfl rfl rfl hc3 ?_
        refine g_lload_n 34 hM rfl rfl rfl ?_
        refine g_ldc2 37 (1819242085#64) hM rfl rfl rfl (by decide) ?_
        by_cases hc4 : w0 = (1819242085#64)
        · rw [if_pos hc4] at h
          refine g_lc_ne_f 38 41 44 hM rfl rfl rfl rfl rfl hc4 ?_
          refine g_bipush 43 hM rfl rfl rfl ?_
          cases h
          exact g_ret hM rfl rfl
        · rw [if_neg hc4] at h
          refine g_lc_ne_t 38 44 hM rfl rfl rfl rfl hc4 ?_
          refine g_lload_n 45 hM rfl rfl rfl ?_
          refine g_ldc2 48 (7302757#64) hM rfl rfl rfl (by decide) ?_
          by_cases hc5 : w0 = (7302757#64)
          · rw [if_pos hc5] at h
            refine g_lc_ne_f 49 52 55 hM rfl rfl rfl rfl rfl hc5 ?_
            refine g_bipush 54 hM rfl rfl rfl ?_
            cases h
            exact g_ret hM rfl rfl
          · rw [if_neg hc5] at h
            refine g_lc_ne_t 49 55 hM rfl rfl rfl rfl hc5 ?_
            refine g_lload_n 56 hM rfl rfl rfl ?_
            refine g_ldc2 59 (7237492#64) hM rfl rfl rfl (by decide) ?_
            by_cases hc6 : w0 = (7237492#64)
            · rw [if_pos hc6] at h
              refine g_lc_ne_f 60 63 66 hM rfl rfl rfl rfl rfl hc6 ?_
              refine g_bipush 65 hM rfl rfl rfl ?_
              cases h
              exact g_ret hM rfl rfl
            · rw [if_neg hc6] at h
              refine g_lc_ne_t 60 66 hM rfl rfl rfl rfl hc6 ?_
              refine g_lload_n 67 hM rfl rfl rfl ?_
              refine g_ldc2 70 (6385252#64) hM rfl rfl rfl (by decide) ?_
              by_cases hc7 : w0 = (6385252#64)
              · rw [if_pos hc7] at h
                refine g_lc_ne_f 71 74 77 hM rfl rfl rfl rfl rfl hc7 ?_
                refine g_bipush 76 hM rfl rfl rfl ?_
                cases h
                exact g_ret hM rfl rfl
              · rw [if_neg hc7] at h
                refine g_lc_ne_t 71 77 hM rfl rfl rfl rfl hc7 ?_
                refine g_lload_n 78 hM rfl rfl rfl ?_
                refine g_ldc2 81 (28530#64) hM rfl rfl rfl (by decide) ?_
                by_cases hc8 : w0 = (28530#64)
                · rw [if_pos hc8] at h
                  refine g_lc_ne_f 82 85 88 hM rfl rfl rfl rfl rfl hc8 ?_
                  refine g_bipush 87 hM rfl rfl rfl ?_
                  cases h
                  exact g_ret hM rfl rfl
                · rw [if_neg hc8] at h
                  refine g_lc_ne_t 82 88 hM rfl rfl rfl rfl hc8 ?_
                  refine g_lload_n 89 hM rfl rfl rfl ?_
                  refine g_ldc2 92 (29675202177230195#64) hM rfl rfl rfl (by decide) ?_
                  by_cases hc9 : w0 = (29675202177230195#64)
                  · rw [if_pos hc9] at h
                    refine g_lc_ne_f 93 96 99 hM rfl rfl rfl rfl rfl hc9 ?_
                    refine g_bipush 98 hM rfl rfl rfl ?_
                    cases h
                    exact g_ret hM rfl rfl
                  · rw [if_neg hc9] at h
                    refine g_lc_ne_t 93 99 hM rfl rfl rfl rfl hc9 ?_
                    refine g_lload_n 100 hM rfl rfl rfl ?_
                    refine g_ldc2 103 (6907494#64) hM rfl rfl rfl (by decide) ?_
                    by_cases hc10 : w0 = (6907494#64)
                    · rw [if_pos hc10] at h
                      refine g_lc_ne_f 104 107 110 hM rfl rfl rfl rfl rfl hc10 ?_
                      refine g_bipush 109 hM rfl rfl rfl ?_
                      cases h
                      exact g_ret hM rfl rfl
                    · rw [if_neg hc10] at h
                      refine g_lc_ne_t 104 110 hM rfl rfl rfl rfl hc10 ?_
                      refine g_lload_n 111 hM rfl rfl rfl ?_
                      refine g_ldc2 114 (26990#64) hM rfl rfl rfl (by decide) ?_
                      by_cases hc11 : w0 = (26990#64)
                      · rw [if_pos hc11] at h
                        refine g_lc_ne_f 115 118 121 hM rfl rfl rfl rfl rfl hc11 ?_
                        refine g_bipush 120 hM rfl rfl rfl ?_
                        cases h
                        exact g_ret hM rfl rfl
                      · rw [if_neg hc11] at h
                        refine g_lc_ne_t 115 121 hM rfl rfl rfl rfl hc11 ?_
                        refine g_lload_n 122 hM rfl rfl rfl ?_
                        refine g_ldc2 125 (1852796517#64) hM rfl rfl rfl (by decide) ?_
                        by_cases hc12 : w0 = (1852796517#64)
                        · rw [if_pos hc12] at h
                          refine g_lc_ne_f 126 129 132 hM rfl rfl rfl rfl rfl hc12 ?_
                          refine g_bipush 131 hM rfl rfl rfl ?_
                          cases h
                          exact g_ret hM rfl rfl
                        · rw [if_neg hc12] at h
                          refine g_lc_ne_t 126 132 hM rfl rfl rfl rfl hc12 ?_
                          refine g_lload_n 133 hM rfl rfl rfl ?_
                          refine g_ldc2 136 (1970170230#64) hM rfl rfl rfl (by decide) ?_
                          by_cases hc13 : w0 = (1970170230#64)
                          · rw [if_pos hc13] at h
                            refine g_lc_ne_f 137 140 143 hM rfl rfl rfl rfl rfl hc13 ?_
                            refine g_bipush 142 hM rfl rfl rfl ?_
                            cases h
                            exact g_ret hM rfl rfl
                          · rw [if_neg hc13] at h
                            refine g_lc_ne_t 137 143 hM rfl rfl rfl rfl hc13 ?_
                            refine g_lload_n 144 hM rfl rfl rfl ?_
                            refine g_ldc2 147 (1768187246#64) hM rfl rfl rfl (by decide) ?_
                            by_cases hc14 : w0 = (1768187246#64)
                            · rw [if_pos hc14] at h
                              refine g_lc_ne_f 148 151 154 hM rfl rfl rfl rfl rfl hc14 ?_
                              refine g_bipush 153 hM rfl rfl rfl ?_
                              cases h
                              exact g_ret hM rfl rfl
                            · rw [if_neg hc14] at h
                              refine g_lc_ne_t 148 154 hM rfl rfl rfl rfl hc14 ?_
                              refine g_lload_n 155 hM rfl rfl rfl ?_
                              refine g_ldc2 158 (1953658213#64) hM rfl rfl rfl (by decide) ?_
                              by_cases hc15 : w0 = (1953658213#64)
                              · rw [if_pos hc15] at h
                                refine g_lc_ne_f 159 162 165 hM rfl rfl rfl rfl rfl hc15 ?_
                                refine g_bipush 164 hM rfl rfl rfl ?_
                                cases h
                                exact g_ret hM rfl rfl
                              · rw [if_neg hc15] at h
                                refine g_lc_ne_t 159 165 hM rfl rfl rfl rfl hc15 ?_
                                refine g_lload_n 166 hM rfl rfl rfl ?_
                                refine g_ldc2 169 (439721161573#64) hM rfl rfl rfl (by decide) ?_
                                by_cases hc16 : w0 = (439721161573#64)
                                · rw [if_pos hc16] at h
                                  refine g_lc_ne_f 170 173 178 hM rfl rfl rfl rfl rfl hc16 ?_
                                  refine g_bipush 175 hM rfl rfl rfl ?_
                                  refine g_goto 179 hM rfl rfl ?_
                                  cases h
                                  exact g_ret hM rfl rfl
                                · rw [if_neg hc16] at h
                                  refine g_lc_ne_t 170 178 hM rfl rfl rfl rfl hc16 ?_
                                  refine g_iconst 179 hM rfl rfl ?_
                                  cases h
                                  exact g_ret hM rfl rfl
/-- RelationFinderModel.isName(J)Z -/
def f_146 (w0 : BitVec 64) (s : zS) : Option Int := zo (f_147 w0 s) (fun r2 => zg (zR r2) (if r2 < 1 then (j_146_28 w0 r2 s) else (if 6 < r2 then (j_146_28 w0 r2 s) else (zo (f_148 w0) (fun r7 => zg (zR r7) (if r7 = (-1) then (j_146_29 w0 r2 1 s) else (j_146_28 w0 r2 s)))))))
theorem w_146 {k : zK} {d : Nat} {x : am_H} {w0 : BitVec 64} {s : zS} {q : Int} (hd : 1 ≤ d) (h : f_146 w0 s = some q) : zgo k d 146 (0, [(0, .long (Int64.ofBitVec w0))], []) (hp s ++ x) (.inl (some (.int (Int32.ofInt q))), hp s ++ x) := by
  unfold f_146 at h
  have hM := xM_146 k.1
  refine g_lload_n 1 hM rfl rfl rfl ?_
  obtain ⟨r2, h1, h⟩ := zo_some h
  refine g_call 4 _ [.int (Int32.ofInt r2)] hM rfl rfl rfl rfl rfl (xM_147 _) rfl rfl rfl rfl (by omega) (w_147 (by omega) h1) rfl ?_
  refine g_istore_n 5 hM rfl rfl rfl ?_
  refine g_iload_n 6 hM rfl rfl rfl ?_
  refine g_iconst 7 hM rfl rfl ?_
  obtain ⟨hg3, h⟩ := zg_some h
  by_cases hc4 : r2 < 1
  · rw [if_pos hc4] at h
    refine g_ic_lt_t 28 hM rfl rfl hg3 (zR_lit rfl) hc4 ?_
    refine g_lv [(0, .long (Int64.ofBitVec w0)), (2, .int (Int32.ofInt r2))] rfl ⟨rfl, rfl, trivial⟩ ?_
    exact wj_146_28 (by omega) h
  · rw [if_neg hc4] at h
    refine g_ic_lt_f 10 28 hM rfl rfl rfl hg3 (zR_lit rfl) hc4 ?_
    refine g_iload_n 11 hM rfl rfl rfl ?_
    refine g_bipush 13 hM rfl rfl rfl ?_
    by_cases hc5 : 6 < r2
    · rw [if_pos hc5] at h
      refine g_ic_gt_t 28 hM rfl rfl hg3 (zR_lit rfl) hc5 ?_
      refine g_lv [(0, .long (Int64.ofBitVec w0)), (2, .int (Int32.ofInt r2))] rfl ⟨rfl, rfl, trivial⟩ ?_
      exact wj_146_28 (by omega) h
    · rw [if_neg hc5] at h
      refine g_ic_gt_f 16 28 hM rfl rfl rfl hg3 (zR_lit rfl) hc5 ?_
      refine g_lload_n 17 hM rfl rfl rfl ?_
      obtain ⟨r7, h6, h⟩ := zo_some h
      refine g_call 20 _ [.int (Int32.ofInt r7)] hM rfl rfl rfl rfl rfl (xM_148 _) rfl rfl rfl rfl (by omega) (w_148 (by omega) h6) rfl ?_
      refine g_iconst 21 hM rfl rfl ?_
      obtain ⟨hg8, h⟩ := zg_some h
      by_cases hc9 : r7 = (-1)
      · rw [if_pos hc9] at h
        refine g_ic_ne_f 24 28 hM rfl rfl rfl hg8 (zR_lit rfl) hc9 ?_
        refine g_iconst 25 hM rfl rfl ?_
        refine g_goto 29 hM rfl rfl ?_
        refine g_lv [(0, .long (Int64.ofBitVec w0)), (2, .int (Int32.ofInt r2))] rfl ⟨rfl, rfl, trivial⟩ ?_
        exact wj_146_29 (by omega) h
      · rw [if_neg hc9] at h
        refine g_ic_ne_t 28 hM rfl rfl hg8 (zR_lit rfl) hc9 ?_
        refine g_lv [(0, .long (Int64.ofBitVec w0)), (2, .int (Int32.ofInt r2))] rfl ⟨rfl, rfl, trivial⟩ ?_
        exact wj_146_28 (by omega) h
def G_145_27 (k : zK) (d : Nat) (x : am_H) (r : am_A × am_H) (w1 : BitVec 64) (v3 : Int) (s : zS) (e : (Int × Int)) : Prop := zgo k d 145 (27, [(0, .ref 177), (1, .long (Int64.ofBitVec w1)), (3, .int (Int32.ofInt v3)), (4, .int (Int32.ofInt e.1)), (5, .int (Int32.ofInt e.2))], []) (hp s ++ x) r
def K_145_27 (k : zK) (d : Nat) (x : am_H) (r : am_A × am_H) (w1 : BitVec 64) (v3 : Int) (s : zS) (t : (Int)) : Prop := zgo k d 145 (66, [(0, .ref 177), (1, .long (Int64.ofBitVec w1)), (3, .int (Int32.ofInt v3)), (4, .int (Int32.ofInt t))], []) (hp s ++ x) r
def b_145_27 (w1 : BitVec 64) (v3 : Int) (s : zS) (v4 : Int) (v5 : Int) : Option ((Int × Int) ⊕ (Int)) := zg (zR v5) (if v5 < (gI s 177 10) then (zg (zR v4) (if v4 = 0 then (some (.inl (0, (v5 + 1)))) else (zg (0 ≤ v5 ∧ v5 < 8) (if (gJ s 179 v5) = w1 then (some (.inl (0, (v5 + 1)))) else (some (.inl (1, (v5 + 1)))))))) else (some (.inr v4)))
theorem wb_145_27 {k : zK} {d : Nat} {x : am_H} {r : am_A × am_H} {w1 : BitVec 64} {v3 : Int} {v4 : Int} {v5 : Int} {s : zS} {q : (Int × Int) ⊕ (Int)} (hd : 2 ≤ d) (h : b_145_27 w1 v3 s v4 v5 = some q) (hK : Sum.elim (G_145_27 k d x r w1 v3 s) (K_145_27 k d x r w1 v3 s) q) : G_145_27 k d x r w1 v3 s (v4, v5) := by
  unfold b_145_27 at h
  have hM := xM_145 k.1
  show zgo k d 145 (27, [(0, .ref 177), (1, .long (Int64.ofBitVec w1)), (3, .int (Int32.ofInt v3)), (4, .int (Int32.ofInt v4)), (5, .int (Int32.ofInt v5))], []) (hp s ++ x) r
  refine g_iload 29 hM rfl rfl rfl ?_
  refine g_aload_n 30 hM rfl rfl rfl ?_
  refine g_getI 33 10 (gI s 177 10) hM rfl rfl rfl rfl rfl rfl rfl ?_
  obtain ⟨hg1, h⟩ := zg_some h
  by_cases hc2 : v5 < (gI s 177 10)
  · rw [if_pos hc2] at h
    refine g_ic_ge_f 36 66 hM rfl rfl rfl hg1 (zR_gI _ _ _) hc2 ?_
    refine g_iload 38 hM rfl rfl rfl ?_
    obtain ⟨hg3, h⟩ := zg_some h
    by_cases hc4 : v4 = 0
    · rw [if_pos hc4] at h
      refine g_if_eq_t 57 hM rfl rfl hg3 hc4 ?_
      refine g_iconst 58 hM rfl rfl ?_
      refine g_istore 60 hM rfl rfl rfl ?_
      refine g_iinc 63 hM rfl rfl rfl rfl ?_
      refine g_goto 27 hM rfl rfl ?_
      cases h
      exact g_lv [(0, .ref 177), (1, .long (Int64.ofBitVec w1)), (3, .int (Int32.ofInt v3)), (4, .int (Int32.ofInt 0)), (5, .int (Int32.ofInt (v5 + 1)))] rfl ⟨rfl, rfl, rfl, rfl, rfl, trivial⟩ hK
    · rw [if_neg hc4] at h
      refine g_if_eq_f 41 57 hM rfl rfl rfl hg3 hc4 ?_
      refine g_aload_n 42 hM rfl rfl rfl ?_
      refine g_getF 45 hM rfl rfl rfl rfl rfl ?_
      refine g_iload 47 hM rfl rfl rfl ?_
      obtain ⟨hg5, h⟩ := zg_some h
      refine g_laload 48 (gJ s 179 v5) hM rfl rfl rfl rfl hg5 rfl ?_
      refine g_lload_n 49 hM rfl rfl rfl ?_
      by_cases hc6 : (gJ s 179 v5) = w1
      · rw [if_pos hc6] at h
        refine g_lc_eq_t 50 57 hM rfl rfl rfl rfl hc6 ?_
        refine g_iconst 58 hM rfl rfl ?_
        refine g_istore 60 hM rfl rfl rfl ?_
        refine g_iinc 63 hM rfl rfl rfl rfl ?_
        refine g_goto 27 hM rfl rfl ?_
        cases h
        exact g_lv [(0, .ref 177), (1, .long (Int64.ofBitVec w1)), (3, .int (Int32.ofInt v3)), (4, .int (Int32.ofInt 0)), (5, .int (Int32.ofInt (v5 + 1)))] rfl ⟨rfl, rfl, rfl, rfl, rfl, trivial⟩ hK
      · rw [if_neg hc6] at h
        refine g_lc_eq_f 50 53 57 hM rfl rfl rfl rfl rfl hc6 ?_
        refine g_iconst 54 hM rfl rfl ?_
        refine g_goto 58 hM rfl rfl ?_
        refine g_istore 60 hM rfl rfl rfl ?_
        refine g_iinc 63 hM rfl rfl rfl rfl ?_
        refine g_goto 27 hM rfl rfl ?_
        cases h
        exact g_lv [(0, .ref 177), (1, .long (Int64.ofBitVec w1)), (3, .int (Int32.ofInt v3)), (4, .int (Int32.ofInt 1)), (5, .int (Int32.ofInt (v5 + 1)))] rfl ⟨rfl, rfl, rfl, rfl, rfl, trivial⟩ hK
  · rw [if_neg hc2] at h
    refine g_ic_ge_t 66 hM rfl rfl hg1 (zR_gI _ _ _) hc2 ?_
    cases h
    exact g_lv [(0, .ref 177), (1, .long (Int64.ofBitVec w1)), (3, .int (Int32.ofInt v3)), (4, .int (Int32.ofInt v4))] rfl ⟨rfl, rfl, rfl, rfl, trivial⟩ hK
theorem wl_145_27 {k : zK} {d : Nat} {x : am_H} {r : am_A × am_H} {w1 : BitVec 64} {v3 : Int} {s : zS} {n : Nat} {e : (Int × Int)} {t : (Int)} (hd : 2 ≤ d) (h : zlp (fun (q : Int × Int) => b_145_27 w1 v3 s q.1 q.2) n e = some t) (hK : K_145_27 k d x r w1 v3 s t) : G_145_27 k d x r w1 v3 s e := zlp_go (G := fun e => G_145_27 k d x r w1 v3 s e) (K := K_145_27 k d x r w1 v3 s) (fun e e1 h1 hg => wb_145_27 (q := .inl e1) hd h1 hg) (fun e t1 h1 hk => wb_145_27 (q := .inr t1) hd h1 hk) n e t h hK
def j_145_90 (w1 : BitVec 64) (v3 : Int) (t1 : Int) (s : zS) : Option (Int × zS) := if 0 < (gI (sI s 177 0 t1) 177 0) then (some (0, (sI s 177 0 t1))) else (zg (0 ≤ (gI s 177 10) ∧ (gI s 177 10) < 8) (some (((gI (sI (sI (sJ (sI s 177 0 t1) 179 (gI s 177 10) w1) 180 (gI s 177 10) v3) 177 10 ((gI s 177 10) + 1)) 177 10) - 1), (sI (sI (sI (sJ (sI s 177 0 t1) 179 (gI s 177 10) w1) 180 (gI s 177 10) v3) 177 10 ((gI s 177 10) + 1)) 177 21 0))))
theorem wj_145_90 {k : zK} {d : Nat} {x : am_H} {w1 : BitVec 64} {v3 : Int} {t1 : Int} {s : zS} {q : (Int × zS)} (hd : 2 ≤ d) (h : j_145_90 w1 v3 t1 s = some q) : zgo k d 145 (90, [(0, .ref 177), (1, .long (Int64.ofBitVec w1)), (3, .int (Int32.ofInt v3))], [.int (Int32.ofInt t1), .ref 177]) (hp s ++ x) (.inl (some (.int (Int32.ofInt q.1))), hp q.2 ++ x) := by
  unfold j_145_90 at h
  have hM := xM_145 k.1
  refine g_putI 93 0 hM rfl rfl rfl rfl rfl rfl rfl ?_
  refine g_aload_n 94 hM rfl rfl rfl ?_
  refine g_getI 97 0 (gI (sI s 177 0 t1) 177 0) hM rfl rfl rfl rfl rfl rfl rfl ?_
  by_cases hc1 : 0 < (gI (sI s 177 0 t1) 177 0)
  · rw [if_pos hc1] at h
    refine g_if_le_f 100 102 hM rfl rfl rfl (zR_gI _ _ _) hc1 ?_
    refine g_iconst 101 hM rfl rfl ?_
    cases h
    exact g_ret hM rfl rfl
  · rw [if_neg hc1] at h
    refine g_if_le_t 102 hM rfl rfl (zR_gI _ _ _) hc1 ?_
    refine g_aload_n 103 hM rfl rfl rfl ?_
    refine g_getF 106 hM rfl rfl rfl rfl rfl ?_
    refine g_aload_n 107 hM rfl rfl rfl ?_
    refine g_getI 110 10 (gI s 177 10) hM rfl rfl rfl rfl rfl rfl rfl ?_
    refine g_lload_n 111 hM rfl rfl rfl ?_
    obtain ⟨hg2, h⟩ := zg_some h
    refine g_lastore 112 hM rfl rfl rfl rfl hg2 ?_
    refine g_aload_n 113 hM rfl rfl rfl ?_
    refine g_getF 116 hM rfl rfl rfl rfl rfl ?_
    refine g_aload_n 117 hM rfl rfl rfl ?_
    refine g_getI 120 10 (gI s 177 10) hM rfl rfl rfl rfl rfl rfl rfl ?_
    refine g_iload_n 121 hM rfl rfl rfl ?_
    refine g_iastore 122 hM rfl rfl rfl rfl hg2 ?_
    refine g_aload_n 123 hM rfl rfl rfl ?_
    refine g_dup 124 hM rfl rfl rfl ?_
    refine g_getI 127 10 (gI s 177 10) hM rfl rfl rfl rfl rfl rfl rfl ?_
    refine g_iconst 128 hM rfl rfl ?_
    refine g_iadd 129 hM rfl rfl ?_
    refine g_putI 132 10 hM rfl rfl rfl rfl rfl rfl rfl ?_
    refine g_aload_n 133 hM rfl rfl rfl ?_
    refine g_iconst 134 hM rfl rfl ?_
    refine g_putI 137 21 hM rfl rfl rfl rfl rfl rfl rfl ?_
    refine g_aload_n 138 hM rfl rfl rfl ?_
    refine g_getI 141 10 (gI (sI (sI (sJ (sI s 177 0 t1) 179 (gI s 177 10) w1) 180 (gI s 177 10) v3) 177 10 ((gI s 177 10) + 1)) 177 10) hM rfl rfl rfl rfl rfl rfl rfl ?_
    refine g_iconst 142 hM rfl rfl ?_
    refine g_isub 143 hM rfl rfl ?_
    cases h
    exact g_ret hM rfl rfl
def j_145_22 (w1 : BitVec 64) (v3 : Int) (t0 : Int) (s : zS) : Option (Int × zS) := zo (zlp (fun (q : Int × Int) => b_145_27 w1 v3 s q.1 q.2) zF (t0, 0)) (fun e1 => zg (zR e1) (if e1 = 0 then (j_145_90 w1 v3 1 s) else (if (gI s 177 10) = 8 then (j_145_90 w1 v3 2 s) else (j_145_90 w1 v3 0 s))))
theorem wj_145_22 {k : zK} {d : Nat} {x : am_H} {w1 : BitVec 64} {v3 : Int} {t0 : Int} {s : zS} {q : (Int × zS)} (hd : 2 ≤ d) (h : j_145_22 w1 v3 t0 s = some q) : zgo k d 145 (22, [(0, .ref 177), (1, .long (Int64.ofBitVec w1)), (3, .int (Int32.ofInt v3))], [.int (Int32.ofInt t0)]) (hp s ++ x) (.inl (some (.int (Int32.ofInt q.1))), hp q.2 ++ x) := by
  unfold j_145_22 at h
  have hM := xM_145 k.1
  refine g_istore 24 hM rfl rfl rfl ?_
  refine g_iconst 25 hM rfl rfl ?_
  refine g_istore 27 hM rfl rfl rfl ?_
  obtain ⟨e1, h2, h⟩ := zo_some h
  refine g_lv [(0, .ref 177), (1, .long (Int64.ofBitVec w1)), (3, .int (Int32.ofInt v3)), (4, .int (Int32.ofInt t0)), (5, .int (Int32.ofInt 0))] rfl ⟨rfl, rfl, rfl, rfl, rfl, trivial⟩ ?_
  refine wl_145_27 (by omega) h2 ?_
  show zgo k d 145 (66, [(0, .ref 177), (1, .long (Int64.ofBitVec w1)), (3, .int (Int32.ofInt v3)), (4, .int (Int32.ofInt e1))], []) (hp s ++ x) (.inl (some (.int (Int32.ofInt q.1))), hp q.2 ++ x)
  refine g_aload_n 67 hM rfl rfl rfl ?_
  refine g_iload 69 hM rfl rfl rfl ?_
  obtain ⟨hg3, h⟩ := zg_some h
  by_cases hc4 : e1 = 0
  · rw [if_pos hc4] at h
    refine g_if_ne_f 72 76 hM rfl rfl rfl hg3 hc4 ?_
    refine g_iconst 73 hM rfl rfl ?_
    refine g_goto 90 hM rfl rfl ?_
    refine g_lv [(0, .ref 177), (1, .long (Int64.ofBitVec w1)), (3, .int (Int32.ofInt v3))] rfl ⟨rfl, rfl, rfl, trivial⟩ ?_
    exact wj_145_90 (by omega) h
  · rw [if_neg hc4] at h
    refine g_if_ne_t 76 hM rfl rfl hg3 hc4 ?_
    refine g_aload_n 77 hM rfl rfl rfl ?_
    refine g_getI 80 10 (gI s 177 10) hM rfl rfl rfl rfl rfl rfl rfl ?_
    refine g_bipush 82 hM rfl rfl rfl ?_
    by_cases hc5 : (gI s 177 10) = 8
    · rw [if_pos hc5] at h
      refine g_ic_ne_f 85 89 hM rfl rfl rfl (zR_gI _ _ _) (zR_lit rfl) hc5 ?_
      refine g_iconst 86 hM rfl rfl ?_
      refine g_goto 90 hM rfl rfl ?_
      refine g_lv [(0, .ref 177), (1, .long (Int64.ofBitVec w1)), (3, .int (Int32.ofInt v3))] rfl ⟨rfl, rfl, rfl, trivial⟩ ?_
      exact wj_145_90 (by omega) h
    · rw [if_neg hc5] at h
      refine g_ic_ne_t 89 hM rfl rfl (zR_gI _ _ _) (zR_lit rfl) hc5 ?_
      refine g_iconst 90 hM rfl rfl ?_
      refine g_lv [(0, .ref 177), (1, .long (Int64.ofBitVec w1)), (3, .int (Int32.ofInt v3))] rfl ⟨rfl, rfl, rfl, trivial⟩ ?_
      exact wj_145_90 (by omega) h
def j_145_21 (w1 : BitVec 64) (v3 : Int) (s : zS) : Option (Int × zS) := j_145_22 w1 v3 0 s
theorem wj_145_21 {k : zK} {d : Nat} {x : am_H} {w1 : BitVec 64} {v3 : Int} {s : zS} {q : (Int × zS)} (hd : 2 ≤ d) (h : j_145_21 w1 v3 s = some q) : zgo k d 145 (21, [(0, .ref 177), (1, .long (Int64.ofBitVec w1)), (3, .int (Int32.ofInt v3))], []) (hp s ++ x) (.inl (some (.int (Int32.ofInt q.1))), hp q.2 ++ x) := by
  unfold j_145_21 at h
  have hM := xM_145 k.1
  refine g_iconst 22 hM rfl rfl ?_
  refine g_lv [(0, .ref 177), (1, .long (Int64.ofBitVec w1)), (3, .int (Int32.ofInt v3))] rfl ⟨rfl, rfl, rfl, trivial⟩ ?_
  exact wj_145_22 (by omega) h
/-- RelationFinderModel.relation(JI)I -/
def f_145 (w1 : BitVec 64) (v3 : Int) (s : zS) : Option (Int × zS) := zo (f_146 w1 s) (fun r2 => zg (zR r2) (if r2 = 0 then (j_145_21 w1 v3 s) else (zg (zR v3) (if v3 < 1 then (j_145_21 w1 v3 s) else (if 3 < v3 then (j_145_21 w1 v3 s) else (j_145_22 w1 v3 1 s))))))
theorem w_145 {k : zK} {d : Nat} {x : am_H} {w1 : BitVec 64} {v3 : Int} {s : zS} {q : (Int × zS)} (hd : 2 ≤ d) (h : f_145 w1 v3 s = some q) : zgo k d 145 (0, [(0, .ref 177), (1, .long (Int64.ofBitVec w1)), (3, .int (Int32.ofInt v3))], []) (hp s ++ x) (.inl (some (.int (Int32.ofInt q.1))), hp q.2 ++ x) := by
  unfold f_145 at h
  have hM := xM_145 k.1
  refine g_lload_n 1 hM rfl rfl rfl ?_
  obtain ⟨r2, h1, h⟩ := zo_some h
  refine g_call 4 _ [.int (Int32.ofInt r2)] hM rfl rfl rfl rfl rfl (xM_146 _) rfl rfl rfl rfl (by omega) (w_146 (by omega) h1) rfl ?_
  obtain ⟨hg3, h⟩ := zg_some h
  by_cases hc4 : r2 = 0
  · rw [if_pos hc4] at h
    refine g_if_eq_t 21 hM rfl rfl hg3 hc4 ?_
    refine g_lv [(0, .ref 177), (1, .long (Int64.ofBitVec w1)), (3, .int (Int32.ofInt v3))] rfl ⟨rfl, rfl, rfl, trivial⟩ ?_
    exact wj_145_21 (by omega) h
  · rw [if_neg hc4] at h
    refine g_if_eq_f 7 21 hM rfl rfl rfl hg3 hc4 ?_
    refine g_iload_n 8 hM rfl rfl rfl ?_
    refine g_iconst 9 hM rfl rfl ?_
    obtain ⟨hg5, h⟩ := zg_some h
    by_cases hc6 : v3 < 1
    · rw [if_pos hc6] at h
      refine g_ic_lt_t 21 hM rfl rfl hg5 (zR_lit rfl) hc6 ?_
      refine g_lv [(0, .ref 177), (1, .long (Int64.ofBitVec w1)), (3, .int (Int32.ofInt v3))] rfl ⟨rfl, rfl, rfl, trivial⟩ ?_
      exact wj_145_21 (by omega) h
    · rw [if_neg hc6] at h
      refine g_ic_lt_f 12 21 hM rfl rfl rfl hg5 (zR_lit rfl) hc6 ?_
      refine g_iload_n 13 hM rfl rfl rfl ?_
      refine g_iconst 14 hM rfl rfl ?_
      by_cases hc7 : 3 < v3
      · rw [if_pos hc7] at h
        refine g_ic_gt_t 21 hM rfl rfl hg5 (zR_lit rfl) hc7 ?_
        refine g_lv [(0, .ref 177), (1, .long (Int64.ofBitVec w1)), (3, .int (Int32.ofInt v3))] rfl ⟨rfl, rfl, rfl, trivial⟩ ?_
        exact wj_145_21 (by omega) h
      · rw [if_neg hc7] at h
        refine g_ic_gt_f 17 21 hM rfl rfl rfl hg5 (zR_lit rfl) hc7 ?_
        refine g_iconst 18 hM rfl rfl ?_
        refine g_goto 22 hM rfl rfl ?_
        refine g_lv [(0, .ref 177), (1, .long (Int64.ofBitVec w1)), (3, .int (Int32.ofInt v3))] rfl ⟨rfl, rfl, rfl, trivial⟩ ?_
        exact wj_145_22 (by omega) h
def G_153_4 (k : zK) (d : Nat) (x : am_H) (r : am_A × am_H) (v1 : Int) (s : zS) (e : (Int × Int)) : Prop := zgo k d 153 (4, [(0, .ref 177), (1, .int (Int32.ofInt v1)), (2, .int (Int32.ofInt e.1)), (3, .int (Int32.ofInt e.2))], []) (hp s ++ x) r
def K_153_4 (k : zK) (d : Nat) (x : am_H) (r : am_A × am_H) (v1 : Int) (s : zS) (t : (Int)) : Prop := zgo k d 153 (22, [(2, .int (Int32.ofInt t))], []) (hp s ++ x) r
def b_153_4 (v1 : Int) (s : zS) (v2 : Int) (v3 : Int) : Option ((Int × Int) ⊕ (Int)) := zg (zR v3) (zg (zR v1) (if v3 < v1 then (some (.inl ((v2 * (gI s 177 1)), (v3 + 1)))) else (some (.inr v2))))
theorem wb_153_4 {k : zK} {d : Nat} {x : am_H} {r : am_A × am_H} {v1 : Int} {v2 : Int} {v3 : Int} {s : zS} {q : (Int × Int) ⊕ (Int)} (hd : 0 ≤ d) (h : b_153_4 v1 s v2 v3 = some q) (hK : Sum.elim (G_153_4 k d x r v1 s) (K_153_4 k d x r v1 s) q) : G_153_4 k d x r v1 s (v2, v3) := by
  unfold b_153_4 at h
  have hM := xM_153 k.1
  show zgo k d 153 (4, [(0, .ref 177), (1, .int (Int32.ofInt v1)), (2, .int (Int32.ofInt v2)), (3, .int (Int32.ofInt v3))], []) (hp s ++ x) r
  refine g_iload_n 5 hM rfl rfl rfl ?_
  refine g_iload_n 6 hM rfl rfl rfl ?_
  obtain ⟨hg1, h⟩ := zg_some h
  obtain ⟨hg2, h⟩ := zg_some h
  by_cases hc3 : v3 < v1
  · rw [if_pos hc3] at h
    refine g_ic_ge_f 9 22 hM rfl rfl rfl hg1 hg2 hc3 ?_
    refine g_iload_n 10 hM rfl rfl rfl ?_
    refine g_aload_n 11 hM rfl rfl rfl ?_
    refine g_getI 14 1 (gI s 177 1) hM rfl rfl rfl rfl rfl rfl rfl ?_
    refine g_imul 15 hM rfl rfl ?_
    refine g_istore_n 16 hM rfl rfl rfl ?_
    refine g_iinc 19 hM rfl rfl rfl rfl ?_
    refine g_goto 4 hM rfl rfl ?_
    cases h
    exact g_lv [(0, .ref 177), (1, .int (Int32.ofInt v1)), (2, .int (Int32.ofInt (v2 * (gI s 177 1)))), (3, .int (Int32.ofInt (v3 + 1)))] rfl ⟨rfl, rfl, rfl, rfl, trivial⟩ hK
  · rw [if_neg hc3] at h
    refine g_ic_ge_t 22 hM rfl rfl hg1 hg2 hc3 ?_
    cases h
    exact g_lv [(2, .int (Int32.ofInt v2))] rfl ⟨rfl, trivial⟩ hK
theorem wl_153_4 {k : zK} {d : Nat} {x : am_H} {r : am_A × am_H} {v1 : Int} {s : zS} {n : Nat} {e : (Int × Int)} {t : (Int)} (hd : 0 ≤ d) (h : zlp (fun (q : Int × Int) => b_153_4 v1 s q.1 q.2) n e = some t) (hK : K_153_4 k d x r v1 s t) : G_153_4 k d x r v1 s e := zlp_go (G := fun e => G_153_4 k d x r v1 s e) (K := K_153_4 k d x r v1 s) (fun e e1 h1 hg => wb_153_4 (q := .inl e1) hd h1 hg) (fun e t1 h1 hk => wb_153_4 (q := .inr t1) hd h1 hk) n e t h hK
/-- RelationFinderModel.power(I)I -/
def f_153 (v1 : Int) (s : zS) : Option Int := zo (zlp (fun (q : Int × Int) => b_153_4 v1 s q.1 q.2) zF (1, 0)) (fun e1 => some e1)
theorem w_153 {k : zK} {d : Nat} {x : am_H} {v1 : Int} {s : zS} {q : Int} (hd : 0 ≤ d) (h : f_153 v1 s = some q) : zgo k d 153 (0, [(0, .ref 177), (1, .int (Int32.ofInt v1))], []) (hp s ++ x) (.inl (some (.int (Int32.ofInt q))), hp s ++ x) := by
  unfold f_153 at h
  have hM := xM_153 k.1
  refine g_iconst 1 hM rfl rfl ?_
  refine g_istore_n 2 hM rfl rfl rfl ?_
  refine g_iconst 3 hM rfl rfl ?_
  refine g_istore_n 4 hM rfl rfl rfl ?_
  obtain ⟨e1, h2, h⟩ := zo_some h
  refine g_lv [(0, .ref 177), (1, .int (Int32.ofInt v1)), (2, .int (Int32.ofInt 1)), (3, .int (Int32.ofInt 0))] rfl ⟨rfl, rfl, rfl, rfl, trivial⟩ ?_
  refine wl_153_4 (by omega) h2 ?_
  show zgo k d 153 (22, [(2, .int (Int32.ofInt e1))], []) (hp s ++ x) (.inl (some (.int (Int32.ofInt q))), hp s ++ x)
  refine g_iload_n 23 hM rfl rfl rfl ?_
  cases h
  exact g_ret hM rfl rfl
/-- RelationFinderModel.noTuple(II)Z -/
def f_152 (v1 : Int) (v2 : Int) (s : zS) : Option Int := zg (zR v1) (if v1 < 0 then (some 1) else (if v1 < (gI s 177 10) then (zg (zR v2) (if v2 < 0 then (some 1) else (zg (0 ≤ v1 ∧ v1 < 8) (zo (f_153 (gI s 180 v1) s) (fun r8 => zg (zR r8) (if v2 < r8 then (some 0) else (some 1))))))) else (some 1)))
theorem w_152 {k : zK} {d : Nat} {x : am_H} {v1 : Int} {v2 : Int} {s : zS} {q : Int} (hd : 1 ≤ d) (h : f_152 v1 v2 s = some q) : zgo k d 152 (0, [(0, .ref 177), (1, .int (Int32.ofInt v1)), (2, .int (Int32.ofInt v2))], []) (hp s ++ x) (.inl (some (.int (Int32.ofInt q))), hp s ++ x) := by
  unfold f_152 at h
  have hM := xM_152 k.1
  refine g_iload_n 1 hM rfl rfl rfl ?_
  obtain ⟨hg1, h⟩ := zg_some h
  by_cases hc2 : v1 < 0
  · rw [if_pos hc2] at h
    refine g_if_lt_t 30 hM rfl rfl hg1 hc2 ?_
    refine g_iconst 31 hM rfl rfl ?_
    refine g_goto 35 hM rfl rfl ?_
    cases h
    exact g_ret hM rfl rfl
  · rw [if_neg hc2] at h
    refine g_if_lt_f 4 30 hM rfl rfl rfl hg1 hc2 ?_
    refine g_iload_n 5 hM rfl rfl rfl ?_
    refine g_aload_n 6 hM rfl rfl rfl ?_
    refine g_getI 9 10 (gI s 177 10) hM rfl rfl rfl rfl rfl rfl rfl ?_
    by_cases hc3 : v1 < (gI s 177 10)
    · rw [if_pos hc3] at h
      refine g_ic_ge_f 12 30 hM rfl rfl rfl hg1 (zR_gI _ _ _) hc3 ?_
      refine g_iload_n 13 hM rfl rfl rfl ?_
      obtain ⟨hg4, h⟩ := zg_some h
      by_cases hc5 : v2 < 0
      · rw [if_pos hc5] at h
        refine g_if_lt_t 30 hM rfl rfl hg4 hc5 ?_
        refine g_iconst 31 hM rfl rfl ?_
        refine g_goto 35 hM rfl rfl ?_
        cases h
        exact g_ret hM rfl rfl
      · rw [if_neg hc5] at h
        refine g_if_lt_f 16 30 hM rfl rfl rfl hg4 hc5 ?_
        refine g_iload_n 17 hM rfl rfl rfl ?_
        refine g_aload_n 18 hM rfl rfl rfl ?_
        refine g_aload_n 19 hM rfl rfl rfl ?_
        refine g_getF 22 hM rfl rfl rfl rfl rfl ?_
        refine g_iload_n 23 hM rfl rfl rfl ?_
        obtain ⟨hg6, h⟩ := zg_some h
        refine g_iaload 24 (gI s 180 v1) hM rfl rfl rfl rfl hg6 rfl ?_
        obtain ⟨r8, h7, h⟩ := zo_some h
        refine g_call 27 _ [.int (Int32.ofInt r8), .int (Int32.ofInt v2)] hM rfl rfl rfl rfl rfl (xM_153 _) rfl (z_rcv2 rfl) rfl rfl (by omega) (w_153 (by omega) h7) rfl ?_
        obtain ⟨hg9, h⟩ := zg_some h
        by_cases hc10 : v2 < r8
        · rw [if_pos hc10] at h
          refine g_ic_lt_t 34 hM rfl rfl hg4 hg9 hc10 ?_
          refine g_iconst 35 hM rfl rfl ?_
          cases h
          exact g_ret hM rfl rfl
        · rw [if_neg hc10] at h
          refine g_ic_lt_f 30 34 hM rfl rfl rfl hg4 hg9 hc10 ?_
          refine g_iconst 31 hM rfl rfl ?_
          refine g_goto 35 hM rfl rfl ?_
          cases h
          exact g_ret hM rfl rfl
    · rw [if_neg hc3] at h
      refine g_ic_ge_t 30 hM rfl rfl hg1 (zR_gI _ _ _) hc3 ?_
      refine g_iconst 31 hM rfl rfl ?_
      refine g_goto 35 hM rfl rfl ?_
      cases h
      exact g_ret hM rfl rfl
def G_154_7 (k : zK) (d : Nat) (x : am_H) (r : am_A × am_H) (e : (Int × zS)) : Prop := zgo k d 154 (7, [(0, .ref 177), (1, .int (Int32.ofInt e.1))], []) (hp e.2 ++ x) r
def K_154_7 (k : zK) (d : Nat) (x : am_H) (r : am_A × am_H) (t : (zS)) : Prop := zgo k d 154 (70, [], []) (hp t ++ x) r
def b_154_7 (v1 : Int) (s : zS) : Option ((Int × zS) ⊕ (zS)) := zg (zR v1) (zg (zR (125 * (gI s 177 10))) (if v1 < (125 * (gI s 177 10)) then (zg (0 ≤ v1 ∧ v1 < 1000) (if (gI s 181 v1) = 1 then (zg (0 ≤ v1 ∧ zR v1 ∧ (0 : Int) < 125 ∧ zR 125) (zg (0 ≤ (gI s 177 13) ∧ (gI s 177 13) < 12) (some (.inl ((v1 + 1), (sI (sI (sI s 182 (gI s 177 13) (v1 / 125)) 183 (gI s 177 13) (v1 % 125)) 177 13 ((gI s 177 13) + 1))))))) else (some (.inl ((v1 + 1), s))))) else (some (.inr s))))
theorem wb_154_7 {k : zK} {d : Nat} {x : am_H} {r : am_A × am_H} {v1 : Int} {s : zS} {q : (Int × zS) ⊕ (zS)} (hd : 0 ≤ d) (h : b_154_7 v1 s = some q) (hK : Sum.elim (G_154_7 k d x r) (K_154_7 k d x r) q) : G_154_7 k d x r (v1, s) := by
  unfold b_154_7 at h
  have hM := xM_154 k.1
  show zgo k d 154 (7, [(0, .ref 177), (1, .int (Int32.ofInt v1))], []) (hp s ++ x) r
  refine g_iload_n 8 hM rfl rfl rfl ?_
  refine g_bipush 10 hM rfl rfl rfl ?_
  refine g_aload_n 11 hM rfl rfl rfl ?_
  refine g_getI 14 10 (gI s 177 10) hM rfl rfl rfl rfl rfl rfl rfl ?_
  refine g_imul 15 hM rfl rfl ?_
  obtain ⟨hg1, h⟩ := zg_some h
  obtain ⟨hg2, h⟩ := zg_some h
  by_cases hc3 : v1 < (125 * (gI s 177 10))
  · rw [if_pos hc3] at h
    refine g_ic_ge_f 18 70 hM rfl rfl rfl hg1 hg2 hc3 ?_
    refine g_aload_n 19 hM rfl rfl rfl ?_
    refine g_getF 22 hM rfl rfl rfl rfl rfl ?_
    refine g_iload_n 23 hM rfl rfl rfl ?_
    obtain ⟨hg4, h⟩ := zg_some h
    refine g_iaload 24 (gI s 181 v1) hM rfl rfl rfl rfl hg4 rfl ?_
    refine g_iconst 25 hM rfl rfl ?_
    by_cases hc5 : (gI s 181 v1) = 1
    · rw [if_pos hc5] at h
      refine g_ic_ne_f 28 64 hM rfl rfl rfl (zR_gI _ _ _) (zR_lit rfl) hc5 ?_
      refine g_aload_n 29 hM rfl rfl rfl ?_
      refine g_getF 32 hM rfl rfl rfl rfl rfl ?_
      refine g_aload_n 33 hM rfl rfl rfl ?_
      refine g_getI 36 13 (gI s 177 13) hM rfl rfl rfl rfl rfl rfl rfl ?_
      refine g_iload_n 37 hM rfl rfl rfl ?_
      refine g_bipush 39 hM rfl rfl rfl ?_
      obtain ⟨hg6, h⟩ := zg_some h
      refine g_idiv 40 hM rfl rfl hg6 ?_
      obtain ⟨hg7, h⟩ := zg_some h
      refine g_iastore 41 hM rfl rfl rfl rfl hg7 ?_
      refine g_aload_n 42 hM rfl rfl rfl ?_
      refine g_getF 45 hM rfl rfl rfl rfl rfl ?_
      refine g_aload_n 46 hM rfl rfl rfl ?_
      refine g_getI 49 13 (gI s 177 13) hM rfl rfl rfl rfl rfl rfl rfl ?_
      refine g_iload_n 50 hM rfl rfl rfl ?_
      refine g_bipush 52 hM rfl rfl rfl ?_
      refine g_irem 53 hM rfl rfl hg6 ?_
      refine g_iastore 54 hM rfl rfl rfl rfl hg7 ?_
      refine g_aload_n 55 hM rfl rfl rfl ?_
      refine g_dup 56 hM rfl rfl rfl ?_
      refine g_getI 59 13 (gI s 177 13) hM rfl rfl rfl rfl rfl rfl rfl ?_
      refine g_iconst 60 hM rfl rfl ?_
      refine g_iadd 61 hM rfl rfl ?_
      refine g_putI 64 13 hM rfl rfl rfl rfl rfl rfl rfl ?_
      refine g_iinc 67 hM rfl rfl rfl rfl ?_
      refine g_goto 7 hM rfl rfl ?_
      cases h
      exact g_lv [(0, .ref 177), (1, .int (Int32.ofInt (v1 + 1)))] rfl ⟨rfl, rfl, trivial⟩ hK
    · rw [if_neg hc5] at h
      refine g_ic_ne_t 64 hM rfl rfl (zR_gI _ _ _) (zR_lit rfl) hc5 ?_
      refine g_iinc 67 hM rfl rfl rfl rfl ?_
      refine g_goto 7 hM rfl rfl ?_
      cases h
      exact g_lv [(0, .ref 177), (1, .int (Int32.ofInt (v1 + 1)))] rfl ⟨rfl, rfl, trivial⟩ hK
  · rw [if_neg hc3] at h
    refine g_ic_ge_t 70 hM rfl rfl hg1 hg2 hc3 ?_
    cases h
    exact g_lv [] rfl trivial hK
theorem wl_154_7 {k : zK} {d : Nat} {x : am_H} {r : am_A × am_H} {n : Nat} {e : (Int × zS)} {t : (zS)} (hd : 0 ≤ d) (h : zlp (fun (q : Int × zS) => b_154_7 q.1 q.2) n e = some t) (hK : K_154_7 k d x r t) : G_154_7 k d x r e := zlp_go (G := fun e => G_154_7 k d x r e) (K := K_154_7 k d x r) (fun e e1 h1 hg => wb_154_7 (q := .inl e1) hd h1 hg) (fun e t1 h1 hk => wb_154_7 (q := .inr t1) hd h1 hk) n e t h hK
/-- RelationFinderModel.listFree()V -/
def f_154 (s : zS) : Option (Unit × zS) := zo (zlp (fun (q : Int × zS) => b_154_7 q.1 q.2) zF (0, (sI s 177 13 0))) (fun e1 => some ((), e1))
theorem w_154 {k : zK} {d : Nat} {x : am_H} {s : zS} {q : (Unit × zS)} (hd : 0 ≤ d) (h : f_154 s = some q) : zgo k d 154 (0, [(0, .ref 177)], []) (hp s ++ x) (.inl (none), hp q.2 ++ x) := by
  unfold f_154 at h
  have hM := xM_154 k.1
  refine g_aload_n 1 hM rfl rfl rfl ?_
  refine g_iconst 2 hM rfl rfl ?_
  refine g_putI 5 13 hM rfl rfl rfl rfl rfl rfl rfl ?_
  refine g_iconst 6 hM rfl rfl ?_
  refine g_istore_n 7 hM rfl rfl rfl ?_
  obtain ⟨e1, h2, h⟩ := zo_some h
  refine g_lv [(0, .ref 177), (1, .int (Int32.ofInt 0))] rfl ⟨rfl, rfl, trivial⟩ ?_
  refine wl_154_7 (by omega) h2 ?_
  show zgo k d 154 (70, [], []) (hp e1 ++ x) (.inl (none), hp q.2 ++ x)
  cases h
  exact g_ret hM rfl rfl
def j_151_86 (v3 : Int) (v4 : Int) (v5 : Int) (s : zS) : Option (Int × zS) := if 0 < (gI (sI s 177 0 0) 177 0) then (some (0, (sI s 177 0 0))) else (zg (0 ≤ v4 ∧ v4 < 1000) (some (v5, (sI (sI (sI s 177 0 0) 181 v4 v3) 177 21 0))))
theorem wj_151_86 {k : zK} {d : Nat} {x : am_H} {v3 : Int} {v4 : Int} {v5 : Int} {s : zS} {q : (Int × zS)} (hd : 2 ≤ d) (h : j_151_86 v3 v4 v5 s = some q) : zgo k d 151 (86, [(0, .ref 177), (3, .int (Int32.ofInt v3)), (4, .int (Int32.ofInt v4)), (5, .int (Int32.ofInt v5))], [.ref 177]) (hp s ++ x) (.inl (some (.int (Int32.ofInt q.1))), hp q.2 ++ x) := by
  unfold j_151_86 at h
  have hM := xM_151 k.1
  refine g_iconst 87 hM rfl rfl ?_
  refine g_putI 90 0 hM rfl rfl rfl rfl rfl rfl rfl ?_
  refine g_aload_n 91 hM rfl rfl rfl ?_
  refine g_getI 94 0 (gI (sI s 177 0 0) 177 0) hM rfl rfl rfl rfl rfl rfl rfl ?_
  by_cases hc1 : 0 < (gI (sI s 177 0 0) 177 0)
  · rw [if_pos hc1] at h
    refine g_if_le_f 97 99 hM rfl rfl rfl (zR_gI _ _ _) hc1 ?_
    refine g_iconst 98 hM rfl rfl ?_
    cases h
    exact g_ret hM rfl rfl
  · rw [if_neg hc1] at h
    refine g_if_le_t 99 hM rfl rfl (zR_gI _ _ _) hc1 ?_
    refine g_aload_n 100 hM rfl rfl rfl ?_
    refine g_getF 103 hM rfl rfl rfl rfl rfl ?_
    refine g_iload 105 hM rfl rfl rfl ?_
    refine g_iload_n 106 hM rfl rfl rfl ?_
    obtain ⟨hg2, h⟩ := zg_some h
    refine g_iastore 107 hM rfl rfl rfl rfl hg2 ?_
    refine g_aload_n 108 hM rfl rfl rfl ?_
    refine g_iconst 109 hM rfl rfl ?_
    refine g_putI 112 21 hM rfl rfl rfl rfl rfl rfl rfl ?_
    refine g_iload 114 hM rfl rfl rfl ?_
    cases h
    exact g_ret hM rfl rfl
def j_151_28 (v1 : Int) (v2 : Int) (v3 : Int) (t1 : Int) (s : zS) : Option (Int × zS) := if 0 < (gI (sI s 177 0 t1) 177 0) then (some (0, (sI s 177 0 t1))) else (zb (f_154 (sI s 177 0 t1)) (fun r3 s4 => zg (0 ≤ ((125 * v1) + v2) ∧ ((125 * v1) + v2) < 1000) (zg (zR v3) (if v3 = 1 then (if (gI s4 181 ((125 * v1) + v2)) = 1 then (j_151_86 v3 ((125 * v1) + v2) (gI s4 181 ((125 * v1) + v2)) s4) else (if (gI s4 177 13) = 12 then (if 0 < (gI (sI s4 177 0 3) 177 0) then (some (0, (sI s4 177 0 3))) else (some ((gI s4 181 ((125 * v1) + v2)), (sI (sI (sI s4 177 0 3) 181 ((125 * v1) + v2) v3) 177 21 0)))) else (j_151_86 v3 ((125 * v1) + v2) (gI s4 181 ((125 * v1) + v2)) s4))) else (j_151_86 v3 ((125 * v1) + v2) (gI s4 181 ((125 * v1) + v2)) s4)))))
theorem wj_151_28 {k : zK} {d : Nat} {x : am_H} {v1 : Int} {v2 : Int} {v3 : Int} {t1 : Int} {s : zS} {q : (Int × zS)} (hd : 2 ≤ d) (h : j_151_28 v1 v2 v3 t1 s = some q) : zgo k d 151 (28, [(0, .ref 177), (1, .int (Int32.ofInt v1)), (2, .int (Int32.ofInt v2)), (3, .int (Int32.ofInt v3))], [.int (Int32.ofInt t1), .ref 177]) (hp s ++ x) (.inl (some (.int (Int32.ofInt q.1))), hp q.2 ++ x) := by
  unfold j_151_28 at h
  have hM := xM_151 k.1
  refine g_putI 31 0 hM rfl rfl rfl rfl rfl rfl rfl ?_
  refine g_aload_n 32 hM rfl rfl rfl ?_
  refine g_getI 35 0 (gI (sI s 177 0 t1) 177 0) hM rfl rfl rfl rfl rfl rfl rfl ?_
  by_cases hc1 : 0 < (gI (sI s 177 0 t1) 177 0)
  · rw [if_pos hc1] at h
    refine g_if_le_f 38 40 hM rfl rfl rfl (zR_gI _ _ _) hc1 ?_
    refine g_iconst 39 hM rfl rfl ?_
    cases h
    exact g_ret hM rfl rfl
  · rw [if_neg hc1] at h
    refine g_if_le_t 40 hM rfl rfl (zR_gI _ _ _) hc1 ?_
    refine g_aload_n 41 hM rfl rfl rfl ?_
    obtain ⟨r3, s4, h2, h⟩ := zb_some h
    refine g_call 44 _ [] hM rfl rfl rfl rfl rfl (xM_154 _) rfl (z_rcv2 rfl) rfl rfl (by omega) (w_154 (by omega) h2) rfl ?_
    refine g_bipush 46 hM rfl rfl rfl ?_
    refine g_iload_n 47 hM rfl rfl rfl ?_
    refine g_imul 48 hM rfl rfl ?_
    refine g_iload_n 49 hM rfl rfl rfl ?_
    refine g_iadd 50 hM rfl rfl ?_
    refine g_istore 52 hM rfl rfl rfl ?_
    refine g_aload_n 53 hM rfl rfl rfl ?_
    refine g_getF 56 hM rfl rfl rfl rfl rfl ?_
    refine g_iload 58 hM rfl rfl rfl ?_
    obtain ⟨hg5, h⟩ := zg_some h
    refine g_iaload 59 (gI s4 181 ((125 * v1) + v2)) hM rfl rfl rfl rfl hg5 rfl ?_
    refine g_istore 61 hM rfl rfl rfl ?_
    refine g_aload_n 62 hM rfl rfl rfl ?_
    refine g_iload_n 63 hM rfl rfl rfl ?_
    refine g_iconst 64 hM rfl rfl ?_
    obtain ⟨hg6, h⟩ := zg_some h
    by_cases hc7 : v3 = 1
    · rw [if_pos hc7] at h
      refine g_ic_ne_f 67 86 hM rfl rfl rfl hg6 (zR_lit rfl) hc7 ?_
      refine g_iload 69 hM rfl rfl rfl ?_
      refine g_iconst 70 hM rfl rfl ?_
      by_cases hc8 : (gI s4 181 ((125 * v1) + v2)) = 1
      · rw [if_pos hc8] at h
        refine g_ic_eq_t 86 hM rfl rfl (zR_gI _ _ _) (zR_lit rfl) hc8 ?_
        refine g_lv [(0, .ref 177), (3, .int (Int32.ofInt v3)), (4, .int (Int32.ofInt ((125 * v1) + v2))), (5, .int (Int32.ofInt (gI s4 181 ((125 * v1) + v2))))] rfl ⟨rfl, rfl, rfl, rfl, trivial⟩ ?_
        exact wj_151_86 (by omega) h
      · rw [if_neg hc8] at h
        refine g_ic_eq_f 73 86 hM rfl rfl rfl (zR_gI _ _ _) (zR_lit rfl) hc8 ?_
        refine g_aload_n 74 hM rfl rfl rfl ?_
        refine g_getI 77 13 (gI s4 177 13) hM rfl rfl rfl rfl rfl rfl rfl ?_
        refine g_bipush 79 hM rfl rfl rfl ?_
        by_cases hc9 : (gI s4 177 13) = 12
        · rw [if_pos hc9] at h
          refine g_ic_ne_f 82 86 hM rfl rfl rfl (zR_gI _ _ _) (zR_lit rfl) hc9 ?_
          refine g_iconst 83 hM rfl rfl ?_
          refine g_goto 87 hM rfl rfl ?_
          refine g_putI 90 0 hM rfl rfl rfl rfl rfl rfl rfl ?_
          refine g_aload_n 91 hM rfl rfl rfl ?_
          refine g_getI 94 0 (gI (sI s4 177 0 3) 177 0) hM rfl rfl rfl rfl rfl rfl rfl ?_
          by_cases hc10 : 0 < (gI (sI s4 177 0 3) 177 0)
          · rw [if_pos hc10] at h
            refine g_if_le_f 97 99 hM rfl rfl rfl (zR_gI _ _ _) hc10 ?_
            refine g_iconst 98 hM rfl rfl ?_
            cases h
            exact g_ret hM rfl rfl
          · rw [if_neg hc10] at h
            refine g_if_le_t 99 hM rfl rfl (zR_gI _ _ _) hc10 ?_
            refine g_aload_n 100 hM rfl rfl rfl ?_
            refine g_getF 103 hM rfl rfl rfl rfl rfl ?_
            refine g_iload 105 hM rfl rfl rfl ?_
            refine g_iload_n 106 hM rfl rfl rfl ?_
            refine g_iastore 107 hM rfl rfl rfl rfl hg5 ?_
            refine g_aload_n 108 hM rfl rfl rfl ?_
            refine g_iconst 109 hM rfl rfl ?_
            refine g_putI 112 21 hM rfl rfl rfl rfl rfl rfl rfl ?_
            refine g_iload 114 hM rfl rfl rfl ?_
            cases h
            exact g_ret hM rfl rfl
        · rw [if_neg hc9] at h
          refine g_ic_ne_t 86 hM rfl rfl (zR_gI _ _ _) (zR_lit rfl) hc9 ?_
          refine g_lv [(0, .ref 177), (3, .int (Int32.ofInt v3)), (4, .int (Int32.ofInt ((125 * v1) + v2))), (5, .int (Int32.ofInt (gI s4 181 ((125 * v1) + v2))))] rfl ⟨rfl, rfl, rfl, rfl, trivial⟩ ?_
          exact wj_151_86 (by omega) h
    · rw [if_neg hc7] at h
      refine g_ic_ne_t 86 hM rfl rfl hg6 (zR_lit rfl) hc7 ?_
      refine g_lv [(0, .ref 177), (3, .int (Int32.ofInt v3)), (4, .int (Int32.ofInt ((125 * v1) + v2))), (5, .int (Int32.ofInt (gI s4 181 ((125 * v1) + v2))))] rfl ⟨rfl, rfl, rfl, rfl, trivial⟩ ?_
      exact wj_151_86 (by omega) h
def j_151_23 (v1 : Int) (v2 : Int) (v3 : Int) (s : zS) : Option (Int × zS) := j_151_28 v1 v2 v3 2 s
theorem wj_151_23 {k : zK} {d : Nat} {x : am_H} {v1 : Int} {v2 : Int} {v3 : Int} {s : zS} {q : (Int × zS)} (hd : 2 ≤ d) (h : j_151_23 v1 v2 v3 s = some q) : zgo k d 151 (23, [(0, .ref 177), (1, .int (Int32.ofInt v1)), (2, .int (Int32.ofInt v2)), (3, .int (Int32.ofInt v3))], [.ref 177]) (hp s ++ x) (.inl (some (.int (Int32.ofInt q.1))), hp q.2 ++ x) := by
  unfold j_151_23 at h
  have hM := xM_151 k.1
  refine g_iconst 24 hM rfl rfl ?_
  refine g_goto 28 hM rfl rfl ?_
  refine g_lv [(0, .ref 177), (1, .int (Int32.ofInt v1)), (2, .int (Int32.ofInt v2)), (3, .int (Int32.ofInt v3))] rfl ⟨rfl, rfl, rfl, rfl, trivial⟩ ?_
  exact wj_151_28 (by omega) h
/-- RelationFinderModel.bound(III)I -/
def f_151 (v1 : Int) (v2 : Int) (v3 : Int) (s : zS) : Option (Int × zS) := zo (f_152 v1 v2 s) (fun r2 => zg (zR r2) (if r2 = 0 then (zg (zR v3) (if v3 < 0 then (j_151_23 v1 v2 v3 s) else (if 2 < v3 then (j_151_23 v1 v2 v3 s) else (j_151_28 v1 v2 v3 0 s)))) else (j_151_28 v1 v2 v3 1 s)))
theorem w_151 {k : zK} {d : Nat} {x : am_H} {v1 : Int} {v2 : Int} {v3 : Int} {s : zS} {q : (Int × zS)} (hd : 2 ≤ d) (h : f_151 v1 v2 v3 s = some q) : zgo k d 151 (0, [(0, .ref 177), (1, .int (Int32.ofInt v1)), (2, .int (Int32.ofInt v2)), (3, .int (Int32.ofInt v3))], []) (hp s ++ x) (.inl (some (.int (Int32.ofInt q.1))), hp q.2 ++ x) := by
  unfold f_151 at h
  have hM := xM_151 k.1
  refine g_aload_n 1 hM rfl rfl rfl ?_
  refine g_aload_n 2 hM rfl rfl rfl ?_
  refine g_iload_n 3 hM rfl rfl rfl ?_
  refine g_iload_n 4 hM rfl rfl rfl ?_
  obtain ⟨r2, h1, h⟩ := zo_some h
  refine g_call 7 _ [.int (Int32.ofInt r2), .ref 177] hM rfl rfl rfl rfl rfl (xM_152 _) rfl (z_rcv2 rfl) rfl rfl (by omega) (w_152 (by omega) h1) rfl ?_
  obtain ⟨hg3, h⟩ := zg_some h
  by_cases hc4 : r2 = 0
  · rw [if_pos hc4] at h
    refine g_if_eq_t 14 hM rfl rfl hg3 hc4 ?_
    refine g_iload_n 15 hM rfl rfl rfl ?_
    obtain ⟨hg5, h⟩ := zg_some h
    by_cases hc6 : v3 < 0
    · rw [if_pos hc6] at h
      refine g_if_lt_t 23 hM rfl rfl hg5 hc6 ?_
      refine g_lv [(0, .ref 177), (1, .int (Int32.ofInt v1)), (2, .int (Int32.ofInt v2)), (3, .int (Int32.ofInt v3))] rfl ⟨rfl, rfl, rfl, rfl, trivial⟩ ?_
      exact wj_151_23 (by omega) h
    · rw [if_neg hc6] at h
      refine g_if_lt_f 18 23 hM rfl rfl rfl hg5 hc6 ?_
      refine g_iload_n 19 hM rfl rfl rfl ?_
      refine g_iconst 20 hM rfl rfl ?_
      by_cases hc7 : 2 < v3
      · rw [if_pos hc7] at h
        refine g_ic_le_f 23 27 hM rfl rfl rfl hg5 (zR_lit rfl) hc7 ?_
        refine g_lv [(0, .ref 177), (1, .int (Int32.ofInt v1)), (2, .int (Int32.ofInt v2)), (3, .int (Int32.ofInt v3))] rfl ⟨rfl, rfl, rfl, rfl, trivial⟩ ?_
        exact wj_151_23 (by omega) h
      · rw [if_neg hc7] at h
        refine g_ic_le_t 27 hM rfl rfl hg5 (zR_lit rfl) hc7 ?_
        refine g_iconst 28 hM rfl rfl ?_
        refine g_lv [(0, .ref 177), (1, .int (Int32.ofInt v1)), (2, .int (Int32.ofInt v2)), (3, .int (Int32.ofInt v3))] rfl ⟨rfl, rfl, rfl, rfl, trivial⟩ ?_
        exact wj_151_28 (by omega) h
  · rw [if_neg hc4] at h
    refine g_if_eq_f 10 14 hM rfl rfl rfl hg3 hc4 ?_
    refine g_iconst 11 hM rfl rfl ?_
    refine g_goto 28 hM rfl rfl ?_
    refine g_lv [(0, .ref 177), (1, .int (Int32.ofInt v1)), (2, .int (Int32.ofInt v2)), (3, .int (Int32.ofInt v3))] rfl ⟨rfl, rfl, rfl, rfl, trivial⟩ ?_
    exact wj_151_28 (by omega) h
/-- RelationFinderModel.push(II)V -/
def f_158 (v1 : Int) (v2 : Int) (s : zS) : Option (Unit × zS) := zg (0 ≤ (gI s 177 38) ∧ (gI s 177 38) < 64) (some ((), (sI (sJ (sI (sI (sI (sI (sI s 189 (gI s 177 38) v1) 190 (gI s 177 38) (gI s 177 28)) 191 (gI s 177 38) 0) 192 (gI s 177 38) (gI s 177 41)) 193 (gI s 177 38) v2) 194 (gI s 177 38) (gJ s 177 29)) 177 38 ((gI s 177 38) + 1))))
theorem w_158 {k : zK} {d : Nat} {x : am_H} {v1 : Int} {v2 : Int} {s : zS} {q : (Unit × zS)} (hd : 0 ≤ d) (h : f_158 v1 v2 s = some q) : zgo k d 158 (0, [(0, .ref 177), (1, .int (Int32.ofInt v1)), (2, .int (Int32.ofInt v2))], []) (hp s ++ x) (.inl (none), hp q.2 ++ x) := by
  unfold f_158 at h
  have hM := xM_158 k.1
  refine g_aload_n 1 hM rfl rfl rfl ?_
  refine g_getF 4 hM rfl rfl rfl rfl rfl ?_
  refine g_aload_n 5 hM rfl rfl rfl ?_
  refine g_getI 8 38 (gI s 177 38) hM rfl rfl rfl rfl rfl rfl rfl ?_
  refine g_iload_n 9 hM rfl rfl rfl ?_
  obtain ⟨hg1, h⟩ := zg_some h
  refine g_iastore 10 hM rfl rfl rfl rfl hg1 ?_
  refine g_aload_n 11 hM rfl rfl rfl ?_
  refine g_getF 14 hM rfl rfl rfl rfl rfl ?_
  refine g_aload_n 15 hM rfl rfl rfl ?_
  refine g_getI 18 38 (gI s 177 38) hM rfl rfl rfl rfl rfl rfl rfl ?_
  refine g_aload_n 19 hM rfl rfl rfl ?_
  refine g_getI 22 28 (gI s 177 28) hM rfl rfl rfl rfl rfl rfl rfl ?_
  refine g_iastore 23 hM rfl rfl rfl rfl hg1 ?_
  refine g_aload_n 24 hM rfl rfl rfl ?_
  refine g_getF 27 hM rfl rfl rfl rfl rfl ?_
  refine g_aload_n 28 hM rfl rfl rfl ?_
  refine g_getI 31 38 (gI s 177 38) hM rfl rfl rfl rfl rfl rfl rfl ?_
  refine g_iconst 32 hM rfl rfl ?_
  refine g_iastore 33 hM rfl rfl rfl rfl hg1 ?_
  refine g_aload_n 34 hM rfl rfl rfl ?_
  refine g_getF 37 hM rfl rfl rfl rfl rfl ?_
  refine g_aload_n 38 hM rfl rfl rfl ?_
  refine g_getI 41 38 (gI s 177 38) hM rfl rfl rfl rfl rfl rfl rfl ?_
  refine g_aload_n 42 hM rfl rfl rfl ?_
  refine g_getI 45 41 (gI s 177 41) hM rfl rfl rfl rfl rfl rfl rfl ?_
  refine g_iastore 46 hM rfl rfl rfl rfl hg1 ?_
  refine g_aload_n 47 hM rfl rfl rfl ?_
  refine g_getF 50 hM rfl rfl rfl rfl rfl ?_
  refine g_aload_n 51 hM rfl rfl rfl ?_
  refine g_getI 54 38 (gI s 177 38) hM rfl rfl rfl rfl rfl rfl rfl ?_
  refine g_iload_n 55 hM rfl rfl rfl ?_
  refine g_iastore 56 hM rfl rfl rfl rfl hg1 ?_
  refine g_aload_n 57 hM rfl rfl rfl ?_
  refine g_getF 60 hM rfl rfl rfl rfl rfl ?_
  refine g_aload_n 61 hM rfl rfl rfl ?_
  refine g_getI 64 38 (gI s 177 38) hM rfl rfl rfl rfl rfl rfl rfl ?_
  refine g_aload_n 65 hM rfl rfl rfl ?_
  refine g_getJ 68 29 (gJ s 177 29) hM rfl rfl rfl rfl rfl rfl rfl ?_
  refine g_lastore 69 hM rfl rfl rfl rfl hg1 ?_
  refine g_aload_n 70 hM rfl rfl rfl ?_
  refine g_dup 71 hM rfl rfl rfl ?_
  refine g_getI 74 38 (gI s 177 38) hM rfl rfl rfl rfl rfl rfl rfl ?_
  refine g_iconst 75 hM rfl rfl ?_
  refine g_iadd 76 hM rfl rfl ?_
  refine g_putI 79 38 hM rfl rfl rfl rfl rfl rfl rfl ?_
  cases h
  exact g_ret hM rfl rfl
def G_157_56 (k : zK) (d : Nat) (x : am_H) (r : am_A × am_H) (e : (Int × zS)) : Prop := zgo k d 157 (56, [(0, .ref 177), (2, .int (Int32.ofInt e.1))], []) (hp e.2 ++ x) r
def K_157_56 (k : zK) (d : Nat) (x : am_H) (r : am_A × am_H) (t : ((Int × zS) ⊕ (Int × zS))) : Prop := Sum.elim (fun e => zgo k d 157 (154, [(0, .ref 177), (2, .int (Int32.ofInt e.1))], []) (hp e.2 ++ x) r) (fun q => r = (.inl (some (.int (Int32.ofInt q.1))), hp q.2 ++ x)) t
def G_159_0 (k : zK) (d : Nat) (x : am_H) (r : am_A × am_H) (e : (zS)) : Prop := zgo k d 159 (0, [(0, .ref 177)], []) (hp e ++ x) r
def K_159_0 (k : zK) (d : Nat) (x : am_H) (r : am_A × am_H) (t : (zS)) : Prop := zgo k d 159 (38, [(0, .ref 177)], []) (hp t ++ x) r
def b_159_0 (s : zS) : Option ((zS) ⊕ (zS)) := if (gI s 177 26) < (gI s 177 3) then (zg (0 ≤ (gI s 177 26) ∧ (gI s 177 26) < 600) (if 32 < (gI s 178 (gI s 177 26)) then (some (.inr s)) else (some (.inl (sI s 177 26 ((gI s 177 26) + 1)))))) else (some (.inr s))
theorem wb_159_0 {k : zK} {d : Nat} {x : am_H} {r : am_A × am_H} {s : zS} {q : (zS) ⊕ (zS)} (hd : 2 ≤ d) (h : b_159_0 s = some q) (hK : Sum.elim (G_159_0 k d x r) (K_159_0 k d x r) q) : G_159_0 k d x r s := by
  unfold b_159_0 at h
  have hM := xM_159 k.1
  show zgo k d 159 (0, [(0, .ref 177)], []) (hp s ++ x) r
  refine g_aload_n 1 hM rfl rfl rfl ?_
  refine g_getI 4 26 (gI s 177 26) hM rfl rfl rfl rfl rfl rfl rfl ?_
  refine g_aload_n 5 hM rfl rfl rfl ?_
  refine g_getI 8 3 (gI s 177 3) hM rfl rfl rfl rfl rfl rfl rfl ?_
  by_cases hc1 : (gI s 177 26) < (gI s 177 3)
  · rw [if_pos hc1] at h
    refine g_ic_ge_f 11 38 hM rfl rfl rfl (zR_gI _ _ _) (zR_gI _ _ _) hc1 ?_
    refine g_aload_n 12 hM rfl rfl rfl ?_
    refine g_getF 15 hM rfl rfl rfl rfl rfl ?_
    refine g_aload_n 16 hM rfl rfl rfl ?_
    refine g_getI 19 26 (gI s 177 26) hM rfl rfl rfl rfl rfl rfl rfl ?_
    obtain ⟨hg2, h⟩ := zg_some h
    refine g_iaload 20 (gI s 178 (gI s 177 26)) hM rfl rfl rfl rfl hg2 rfl ?_
    refine g_bipush 22 hM rfl rfl rfl ?_
    by_cases hc3 : 32 < (gI s 178 (gI s 177 26))
    · rw [if_pos hc3] at h
      refine g_ic_gt_t 38 hM rfl rfl (zR_gI _ _ _) (zR_lit rfl) hc3 ?_
      cases h
      exact g_lv [(0, .ref 177)] rfl ⟨rfl, trivial⟩ hK
    · rw [if_neg hc3] at h
      refine g_ic_gt_f 25 38 hM rfl rfl rfl (zR_gI _ _ _) (zR_lit rfl) hc3 ?_
      refine g_aload_n 26 hM rfl rfl rfl ?_
      refine g_dup 27 hM rfl rfl rfl ?_
      refine g_getI 30 26 (gI s 177 26) hM rfl rfl rfl rfl rfl rfl rfl ?_
      refine g_iconst 31 hM rfl rfl ?_
      refine g_iadd 32 hM rfl rfl ?_
      refine g_putI 35 26 hM rfl rfl rfl rfl rfl rfl rfl ?_
      refine g_goto 0 hM rfl rfl ?_
      cases h
      exact g_lv [(0, .ref 177)] rfl ⟨rfl, trivial⟩ hK
  · rw [if_neg hc1] at h
    refine g_ic_ge_t 38 hM rfl rfl (zR_gI _ _ _) (zR_gI _ _ _) hc1 ?_
    cases h
    exact g_lv [(0, .ref 177)] rfl ⟨rfl, trivial⟩ hK
theorem wl_159_0 {k : zK} {d : Nat} {x : am_H} {r : am_A × am_H} {n : Nat} {e : (zS)} {t : (zS)} (hd : 2 ≤ d) (h : zlp (fun (q : zS) => b_159_0 q) n e = some t) (hK : K_159_0 k d x r t) : G_159_0 k d x r e := zlp_go (G := fun e => G_159_0 k d x r e) (K := K_159_0 k d x r) (fun e e1 h1 hg => wb_159_0 (q := .inl e1) hd h1 hg) (fun e t1 h1 hk => wb_159_0 (q := .inr t1) hd h1 hk) n e t h hK
/-- RelationFinderModel.byteAt(I)I -/
def f_160 (v1 : Int) (s : zS) : Option Int := zg (zR v1) (if v1 < (gI s 177 3) then (zg (0 ≤ v1 ∧ v1 < 600) (some (gI s 178 v1))) else (some (-1)))
theorem w_160 {k : zK} {d : Nat} {x : am_H} {v1 : Int} {s : zS} {q : Int} (hd : 0 ≤ d) (h : f_160 v1 s = some q) : zgo k d 160 (0, [(0, .ref 177), (1, .int (Int32.ofInt v1))], []) (hp s ++ x) (.inl (some (.int (Int32.ofInt q))), hp s ++ x) := by
  unfold f_160 at h
  have hM := xM_160 k.1
  refine g_iload_n 1 hM rfl rfl rfl ?_
  refine g_aload_n 2 hM rfl rfl rfl ?_
  refine g_getI 5 3 (gI s 177 3) hM rfl rfl rfl rfl rfl rfl rfl ?_
  obtain ⟨hg1, h⟩ := zg_some h
  by_cases hc2 : v1 < (gI s 177 3)
  · rw [if_pos hc2] at h
    refine g_ic_ge_f 8 17 hM rfl rfl rfl hg1 (zR_gI _ _ _) hc2 ?_
    refine g_aload_n 9 hM rfl rfl rfl ?_
    refine g_getF 12 hM rfl rfl rfl rfl rfl ?_
    refine g_iload_n 13 hM rfl rfl rfl ?_
    obtain ⟨hg3, h⟩ := zg_some h
    refine g_iaload 14 (gI s 178 v1) hM rfl rfl rfl rfl hg3 rfl ?_
    refine g_goto 18 hM rfl rfl ?_
    cases h
    exact g_ret hM rfl rfl
  · rw [if_neg hc2] at h
    refine g_ic_ge_t 17 hM rfl rfl hg1 (zR_gI _ _ _) hc2 ?_
    refine g_iconst 18 hM rfl rfl ?_
    cases h
    exact g_ret hM rfl rfl
/-- RelationFinderModel.isDigit(I)Z -/
def f_162 (v0 : Int) : Option Int := zg (zR v0) (if v0 < 48 then (some 0) else (if 57 < v0 then (some 0) else (some 1)))
theorem w_162 {k : zK} {d : Nat} {x : am_H} {v0 : Int} {s : zS} {q : Int} (hd : 0 ≤ d) (h : f_162 v0 = some q) : zgo k d 162 (0, [(0, .int (Int32.ofInt v0))], []) (hp s ++ x) (.inl (some (.int (Int32.ofInt q))), hp s ++ x) := by
  unfold f_162 at h
  have hM := xM_162 k.1
  refine g_iload_n 1 hM rfl rfl rfl ?_
  refine g_bipush 3 hM rfl rfl rfl ?_
  obtain ⟨hg1, h⟩ := zg_some h
  by_cases hc2 : v0 < 48
  · rw [if_pos hc2] at h
    refine g_ic_lt_t 16 hM rfl rfl hg1 (zR_lit rfl) hc2 ?_
    refine g_iconst 17 hM rfl rfl ?_
    cases h
    exact g_ret hM rfl rfl
  · rw [if_neg hc2] at h
    refine g_ic_lt_f 6 16 hM rfl rfl rfl hg1 (zR_lit rfl) hc2 ?_
    refine g_iload_n 7 hM rfl rfl rfl ?_
    refine g_bipush 9 hM rfl rfl rfl ?_
    by_cases hc3 : 57 < v0
    · rw [if_pos hc3] at h
      refine g_ic_gt_t 16 hM rfl rfl hg1 (zR_lit rfl) hc3 ?_
      refine g_iconst 17 hM rfl rfl ?_
      cases h
      exact g_ret hM rfl rfl
    · rw [if_neg hc3] at h
      refine g_ic_gt_f 12 16 hM rfl rfl rfl hg1 (zR_lit rfl) hc3 ?_
      refine g_iconst 13 hM rfl rfl ?_
      refine g_goto 17 hM rfl rfl ?_
      cases h
      exact g_ret hM rfl rfl
def t_164_1 (a : Int) : Nat := zswl [(35, 185), (38, 170), (40, 197), (41, 200), (42, 182), (43, 164), (45, 167), (46, 173), (58, 215), (60, 191), (61, 188), (62, 194), (91, 203), (93, 206), (94, 179), (123, 209), (124, 218), (125, 212), (126, 176)] 221 a
/-- RelationFinderModel.signOf(I)I -/
def f_164 (v0 : Int) : Option Int := zg (zR v0) (if t_164_1 v0 = 164 then (some 34) else (if t_164_1 v0 = 167 then (some 35) else (if t_164_1 v0 = 170 then (some 36) else (if t_164_1 v0 = 173 then (some 37) else (if t_164_1 v0 = 176 then (some 38) else (if t_164_1 v0 = 179 then (some 39) else (if t_164_1 v0 = 182 then (some 40) else (if t_164_1 v0 = 185 then (some 41) else (if t_164_1 v0 = 188 then (some 42) else (if t_164_1 v0 = 191 then (some 43) else (if t_164_1 v0 = 194 then (some 44) else (if t_164_1 v0 = 197 then (some 45) else (if t_164_1 v0 = 200 then (some 46) else (if t_164_1 v0 = 203 then (some 47) else (if t_164_1 v0 = 206 then (some 48) else (if t_164_1 v0 = 209 then (some 49) else (if t_164_1 v0 = 212 then (some 50) else (if t_164_1 v0 = 215 then (some 51) else (if t_164_1 v0 = 218 then (some 52) else (if t_164_1 v0 = 221 then (some 3) else (none)))))))))))))))))))))
theorem w_164 {k : zK} {d : Nat} {x : am_H} {v0 : Int} {s : zS} {q : Int} (hd : 0 ≤ d) (h : f_164 v0 = some q) : zgo k d 164 (0, [(0, .int (Int32.ofInt v0))], []) (hp s ++ x) (.inl (some (.int (Int32.ofInt q))), hp s ++ x) := by
  unfold f_164 at h
  have hM := xM_164 k.1
  refine g_iload_n 1 hM rfl rfl rfl ?_
  obtain ⟨hg1, h⟩ := zg_some h
  by_cases hc2 : t_164_1 v0 = 164
  · rw [if_pos hc2] at h
    refine g_lsw 164 hM rfl hg1 hc2 rfl rfl rfl ?_
    refine g_bipush 166 hM rfl rfl rfl ?_
    cases h
    exact g_ret hM rfl rfl
  · rw [if_neg hc2] at h
    by_cases hc3 : t_164_1 v0 = 167
    · rw [if_pos hc3] at h
      refine g_lsw 167 hM rfl hg1 hc3 rfl rfl rfl ?_
      refine g_bipush 169 hM rfl rfl rfl ?_
      cases h
      exact g_ret hM rfl rfl
    · rw [if_neg hc3] at h
      by_cases hc4 : t_164_1 v0 = 170
      · rw [if_pos hc4] at h
        refine g_lsw 170 hM rfl hg1 hc4 rfl rfl rfl ?_
        refine g_bipush 172 hM rfl rfl rfl ?_
        cases h
        exact g_ret hM rfl rfl
      · rw [if_neg hc4] at h
        by_cases hc5 : t_164_1 v0 = 173
        · rw [if_pos hc5] at h
          refine g_lsw 173 hM rfl hg1 hc5 rfl rfl rfl ?_
          refine g_bipush 175 hM rfl rfl rfl ?_
          cases h
          exact g_ret hM rfl rfl
        · rw [if_neg hc5] at h
          by_cases hc6 : t_164_1 v0 = 176
          · rw [if_pos hc6] at h
            refine g_lsw 176 hM rfl hg1 hc6 rfl rfl rfl ?_
            refine g_bipush 178 hM rfl rfl rfl ?_
            cases h
            exact g_ret hM rfl rfl
          · rw [if_neg hc6] at h
            by_cases hc7 : t_164_1 v0 = 179
            · rw [if_pos hc7] at h
              refine g_lsw 179 hM rfl hg1 hc7 rfl rfl rfl ?_
              refine g_bipush 181 hM rfl rfl rfl ?_
              cases h
              exact g_ret hM rfl rfl
            · rw [if_neg hc7] at h
              by_cases hc8 : t_164_1 v0 = 182
              · rw [if_pos hc8] at h
                refine g_lsw 182 hM rfl hg1 hc8 rfl rfl rfl ?_
                refine g_bipush 184 hM rfl rfl rfl ?_
                cases h
                exact g_ret hM rfl rfl
              · rw [if_neg hc8] at h
                by_cases hc9 : t_164_1 v0 = 185
                · rw [if_pos hc9] at h
                  refine g_lsw 185 hM rfl hg1 hc9 rfl rfl rfl ?_
                  refine g_bipush 187 hM rfl rfl rfl ?_
                  cases h
                  exact g_ret hM rfl rfl
                · rw [if_neg hc9] at h
                  by_cases hc10 : t_164_1 v0 = 188
                  · rw [if_pos hc10] at h
                    refine g_lsw 188 hM rfl hg1 hc10 rfl rfl rfl ?_
                    refine g_bipush 190 hM rfl rfl rfl ?_
                    cases h
                    exact g_ret hM rfl rfl
                  · rw [if_neg hc10] at h
                    by_cases hc11 : t_164_1 v0 = 191
                    · rw [if_pos hc11] at h
                      refine g_lsw 191 hM rfl hg1 hc11 rfl rfl rfl ?_
                      refine g_bipush 193 hM rfl rfl rfl ?_
                      cases h
                      exact g_ret hM rfl rfl
                    · rw [if_neg hc11] at h
                      by_cases hc12 : t_164_1 v0 = 194
                      · rw [if_pos hc12] at h
                        refine g_lsw 194 hM rfl hg1 hc12 rfl rfl rfl ?_
                        refine g_bipush 196 hM rfl rfl rfl ?_
                        cases h
                        exact g_ret hM rfl rfl
                      · rw [if_neg hc12] at h
                        by_cases hc13 : t_164_1 v0 = 197
                        · rw [if_pos hc13] at h
                          refine g_lsw 197 hM rfl hg1 hc13 rfl rfl rfl ?_
                          refine g_bipush 199 hM rfl rfl rfl ?_
                          cases h
                          exact g_ret hM rfl rfl
                        · rw [if_neg hc13] at h
                          by_cases hc14 : t_164_1 v0 = 200
                          · rw [if_pos hc14] at h
                            refine g_lsw 200 hM rfl hg1 hc14 rfl rfl rfl ?_
                            refine g_bipush 202 hM rfl rfl rfl ?_
                            cases h
                            exact g_ret hM rfl rfl
                          · rw [if_neg hc14] at h
                            by_cases hc15 : t_164_1 v0 = 203
                            · rw [if_pos hc15] at h
                              refine g_lsw 203 hM rfl hg1 hc15 rfl rfl rfl ?_
                              refine g_bipush 205 hM rfl rfl rfl ?_
                              cases h
                              exact g_ret hM rfl rfl
                            · rw [if_neg hc15] at h
                              by_cases hc16 : t_164_1 v0 = 206
                              · rw [if_pos hc16] at h
                                refine g_lsw 206 hM rfl hg1 hc16 rfl rfl rfl ?_
                                refine g_bipush 208 hM rfl rfl rfl ?_
                                cases h
                                exact g_ret hM rfl rfl
                              · rw [if_neg hc16] at h
                                by_cases hc17 : t_164_1 v0 = 209
                                · rw [if_pos hc17] at h
                                  refine g_lsw 209 hM rfl hg1 hc17 rfl rfl rfl ?_
                                  refine g_bipush 211 hM rfl rfl rfl ?_
                                  cases h
                                  exact g_ret hM rfl rfl
                                · rw [if_neg hc17] at h
                                  by_cases hc18 : t_164_1 v0 = 212
                                  · rw [if_pos hc18] at h
                                    refine g_lsw 212 hM rfl hg1 hc18 rfl rfl rfl ?_
                                    refine g_bipush 214 hM rfl rfl rfl ?_
                                    cases h
                                    exact g_ret hM rfl rfl
                                  · rw [if_neg hc18] at h
                                    by_cases hc19 : t_164_1 v0 = 215
                                    · rw [if_pos hc19] at h
                                      refine g_lsw 215 hM rfl hg1 hc19 rfl rfl rfl ?_
                                      refine g_bipush 217 hM rfl rfl rfl ?_
                                      cases h
                                      exact g_ret hM rfl rfl
                                    · rw [if_neg hc19] at h
                                      by_cases hc20 : t_164_1 v0 = 218
                                      · rw [if_pos hc20] at h
                                        refine g_lsw 218 hM rfl hg1 hc20 rfl rfl rfl ?_
                                        refine g_bipush 220 hM rfl rfl rfl ?_
                                        cases h
                                        exact g_ret hM rfl rfl
                                      · rw [if_neg hc20] at h
                                        by_cases hc21 : t_164_1 v0 = 221
                                        · rw [if_pos hc21] at h
                                          refine g_lsw 221 hM rfl hg1 hc21 rfl rfl rfl ?_
                                          refine g_iconst 222 hM rfl rfl ?_
                                          cases h
                                          exact g_ret hM rfl rfl
                                        · rw [if_neg hc21] at h
                                          cases h
def j_159_231 (v1 : Int) (s : zS) : Option (Unit × zS) := zo (f_164 v1) (fun r2 => some ((), (sI (sI s 177 27 r2) 177 26 ((gI s 177 26) + 1))))
theorem wj_159_231 {k : zK} {d : Nat} {x : am_H} {v1 : Int} {s : zS} {q : (Unit × zS)} (hd : 2 ≤ d) (h : j_159_231 v1 s = some q) : zgo k d 159 (231, [(0, .ref 177), (1, .int (Int32.ofInt v1))], []) (hp s ++ x) (.inl (none), hp q.2 ++ x) := by
  unfold j_159_231 at h
  have hM := xM_159 k.1
  refine g_aload_n 232 hM rfl rfl rfl ?_
  refine g_iload_n 233 hM rfl rfl rfl ?_
  obtain ⟨r2, h1, h⟩ := zo_some h
  refine g_call 236 _ [.int (Int32.ofInt r2), .ref 177] hM rfl rfl rfl rfl rfl (xM_164 _) rfl rfl rfl rfl (by omega) (w_164 (by omega) h1) rfl ?_
  refine g_putI 239 27 hM rfl rfl rfl rfl rfl rfl rfl ?_
  refine g_aload_n 240 hM rfl rfl rfl ?_
  refine g_dup 241 hM rfl rfl rfl ?_
  refine g_getI 244 26 (gI s 177 26) hM rfl rfl rfl rfl rfl rfl rfl ?_
  refine g_iconst 245 hM rfl rfl ?_
  refine g_iadd 246 hM rfl rfl ?_
  refine g_putI 249 26 hM rfl rfl rfl rfl rfl rfl rfl ?_
  cases h
  exact g_ret hM rfl rfl
def j_159_200 (v1 : Int) (v2 : Int) (s : zS) : Option (Unit × zS) := zg (zR v1) (if v1 = 58 then (zg (zR v2) (if v2 = 62 then (some ((), (sI (sI s 177 27 33) 177 26 ((gI s 177 26) + 2)))) else (j_159_231 v1 s))) else (j_159_231 v1 s))
theorem wj_159_200 {k : zK} {d : Nat} {x : am_H} {v1 : Int} {v2 : Int} {s : zS} {q : (Unit × zS)} (hd : 2 ≤ d) (h : j_159_200 v1 v2 s = some q) : zgo k d 159 (200, [(0, .ref 177), (1, .int (Int32.ofInt v1)), (2, .int (Int32.ofInt v2))], []) (hp s ++ x) (.inl (none), hp q.2 ++ x) := by
  unfold j_159_200 at h
  have hM := xM_159 k.1
  refine g_iload_n 201 hM rfl rfl rfl ?_
  refine g_bipush 203 hM rfl rfl rfl ?_
  obtain ⟨hg1, h⟩ := zg_some h
  by_cases hc2 : v1 = 58
  · rw [if_pos hc2] at h
    refine g_ic_ne_f 206 231 hM rfl rfl rfl hg1 (zR_lit rfl) hc2 ?_
    refine g_iload_n 207 hM rfl rfl rfl ?_
    refine g_bipush 209 hM rfl rfl rfl ?_
    obtain ⟨hg3, h⟩ := zg_some h
    by_cases hc4 : v2 = 62
    · rw [if_pos hc4] at h
      refine g_ic_ne_f 212 231 hM rfl rfl rfl hg3 (zR_lit rfl) hc4 ?_
      refine g_aload_n 213 hM rfl rfl rfl ?_
      refine g_bipush 215 hM rfl rfl rfl ?_
      refine g_putI 218 27 hM rfl rfl rfl rfl rfl rfl rfl ?_
      refine g_aload_n 219 hM rfl rfl rfl ?_
      refine g_aload_n 220 hM rfl rfl rfl ?_
      refine g_getI 223 26 (gI s 177 26) hM rfl rfl rfl rfl rfl rfl rfl ?_
      refine g_iconst 224 hM rfl rfl ?_
      refine g_iadd 225 hM rfl rfl ?_
      refine g_putI 228 26 hM rfl rfl rfl rfl rfl rfl rfl ?_
      refine g_goto 249 hM rfl rfl ?_
      cases h
      exact g_ret hM rfl rfl
    · rw [if_neg hc4] at h
      refine g_ic_ne_t 231 hM rfl rfl hg3 (zR_lit rfl) hc4 ?_
      refine g_lv [(0, .ref 177), (1, .int (Int32.ofInt v1))] rfl ⟨rfl, rfl, trivial⟩ ?_
      exact wj_159_231 (by omega) h
  · rw [if_neg hc2] at h
    refine g_ic_ne_t 231 hM rfl rfl hg1 (zR_lit rfl) hc2 ?_
    refine g_lv [(0, .ref 177), (1, .int (Int32.ofInt v1))] rfl ⟨rfl, rfl, trivial⟩ ?_
    exact wj_159_231 (by omega) h
def j_159_169 (v1 : Int) (v2 : Int) (s : zS) : Option (Unit × zS) := zg (zR v1) (if v1 = 60 then (zg (zR v2) (if v2 = 58 then (some ((), (sI (sI s 177 27 32) 177 26 ((gI s 177 26) + 2)))) else (j_159_200 v1 v2 s))) else (j_159_200 v1 v2 s))
theorem wj_159_169 {k : zK} {d : Nat} {x : am_H} {v1 : Int} {v2 : Int} {s : zS} {q : (Unit × zS)} (hd : 2 ≤ d) (h : j_159_169 v1 v2 s = some q) : zgo k d 159 (169, [(0, .ref 177), (1, .int (Int32.ofInt v1)), (2, .int (Int32.ofInt v2))], []) (hp s ++ x) (.inl (none), hp q.2 ++ x) := by
  unfold j_159_169 at h
  have hM := xM_159 k.1
  refine g_iload_n 170 hM rfl rfl rfl ?_
  refine g_bipush 172 hM rfl rfl rfl ?_
  obtain ⟨hg1, h⟩ := zg_some h
  by_cases hc2 : v1 = 60
  · rw [if_pos hc2] at h
    refine g_ic_ne_f 175 200 hM rfl rfl rfl hg1 (zR_lit rfl) hc2 ?_
    refine g_iload_n 176 hM rfl rfl rfl ?_
    refine g_bipush 178 hM rfl rfl rfl ?_
    obtain ⟨hg3, h⟩ := zg_some h
    by_cases hc4 : v2 = 58
    · rw [if_pos hc4] at h
      refine g_ic_ne_f 181 200 hM rfl rfl rfl hg3 (zR_lit rfl) hc4 ?_
      refine g_aload_n 182 hM rfl rfl rfl ?_
      refine g_bipush 184 hM rfl rfl rfl ?_
      refine g_putI 187 27 hM rfl rfl rfl rfl rfl rfl rfl ?_
      refine g_aload_n 188 hM rfl rfl rfl ?_
      refine g_aload_n 189 hM rfl rfl rfl ?_
      refine g_getI 192 26 (gI s 177 26) hM rfl rfl rfl rfl rfl rfl rfl ?_
      refine g_iconst 193 hM rfl rfl ?_
      refine g_iadd 194 hM rfl rfl ?_
      refine g_putI 197 26 hM rfl rfl rfl rfl rfl rfl rfl ?_
      refine g_goto 249 hM rfl rfl ?_
      cases h
      exact g_ret hM rfl rfl
    · rw [if_neg hc4] at h
      refine g_ic_ne_t 200 hM rfl rfl hg3 (zR_lit rfl) hc4 ?_
      refine g_lv [(0, .ref 177), (1, .int (Int32.ofInt v1)), (2, .int (Int32.ofInt v2))] rfl ⟨rfl, rfl, rfl, trivial⟩ ?_
      exact wj_159_200 (by omega) h
  · rw [if_neg hc2] at h
    refine g_ic_ne_t 200 hM rfl rfl hg1 (zR_lit rfl) hc2 ?_
    refine g_lv [(0, .ref 177), (1, .int (Int32.ofInt v1)), (2, .int (Int32.ofInt v2))] rfl ⟨rfl, rfl, rfl, trivial⟩ ?_
    exact wj_159_200 (by omega) h
def j_159_138 (v1 : Int) (v2 : Int) (s : zS) : Option (Unit × zS) := zg (zR v1) (if v1 = 43 then (zg (zR v2) (if v2 = 43 then (some ((), (sI (sI s 177 27 31) 177 26 ((gI s 177 26) + 2)))) else (j_159_169 v1 v2 s))) else (j_159_169 v1 v2 s))
theorem wj_159_138 {k : zK} {d : Nat} {x : am_H} {v1 : Int} {v2 : Int} {s : zS} {q : (Unit × zS)} (hd : 2 ≤ d) (h : j_159_138 v1 v2 s = some q) : zgo k d 159 (138, [(0, .ref 177), (1, .int (Int32.ofInt v1)), (2, .int (Int32.ofInt v2))], []) (hp s ++ x) (.inl (none), hp q.2 ++ x) := by
  unfold j_159_138 at h
  have hM := xM_159 k.1
  refine g_iload_n 139 hM rfl rfl rfl ?_
  refine g_bipush 141 hM rfl rfl rfl ?_
  obtain ⟨hg1, h⟩ := zg_some h
  by_cases hc2 : v1 = 43
  · rw [if_pos hc2] at h
    refine g_ic_ne_f 144 169 hM rfl rfl rfl hg1 (zR_lit rfl) hc2 ?_
    refine g_iload_n 145 hM rfl rfl rfl ?_
    refine g_bipush 147 hM rfl rfl rfl ?_
    obtain ⟨hg3, h⟩ := zg_some h
    by_cases hc4 : v2 = 43
    · rw [if_pos hc4] at h
      refine g_ic_ne_f 150 169 hM rfl rfl rfl hg3 (zR_lit rfl) hc4 ?_
      refine g_aload_n 151 hM rfl rfl rfl ?_
      refine g_bipush 153 hM rfl rfl rfl ?_
      refine g_putI 156 27 hM rfl rfl rfl rfl rfl rfl rfl ?_
      refine g_aload_n 157 hM rfl rfl rfl ?_
      refine g_aload_n 158 hM rfl rfl rfl ?_
      refine g_getI 161 26 (gI s 177 26) hM rfl rfl rfl rfl rfl rfl rfl ?_
      refine g_iconst 162 hM rfl rfl ?_
      refine g_iadd 163 hM rfl rfl ?_
      refine g_putI 166 26 hM rfl rfl rfl rfl rfl rfl rfl ?_
      refine g_goto 249 hM rfl rfl ?_
      cases h
      exact g_ret hM rfl rfl
    · rw [if_neg hc4] at h
      refine g_ic_ne_t 169 hM rfl rfl hg3 (zR_lit rfl) hc4 ?_
      refine g_lv [(0, .ref 177), (1, .int (Int32.ofInt v1)), (2, .int (Int32.ofInt v2))] rfl ⟨rfl, rfl, rfl, trivial⟩ ?_
      exact wj_159_169 (by omega) h
  · rw [if_neg hc2] at h
    refine g_ic_ne_t 169 hM rfl rfl hg1 (zR_lit rfl) hc2 ?_
    refine g_lv [(0, .ref 177), (1, .int (Int32.ofInt v1)), (2, .int (Int32.ofInt v2))] rfl ⟨rfl, rfl, rfl, trivial⟩ ?_
    exact wj_159_169 (by omega) h
def G_163_4 (k : zK) (d : Nat) (x : am_H) (r : am_A × am_H) (e : (Int × Int × zS)) : Prop := zgo k d 163 (4, [(0, .ref 177), (1, .int (Int32.ofInt e.1)), (2, .int (Int32.ofInt e.2.1))], []) (hp e.2.2 ++ x) r
def K_163_4 (k : zK) (d : Nat) (x : am_H) (r : am_A × am_H) (t : (Int × Int × zS)) : Prop := zgo k d 163 (60, [(0, .ref 177), (1, .int (Int32.ofInt t.1)), (2, .int (Int32.ofInt t.2.1))], []) (hp t.2.2 ++ x) r
def b_163_4 (v1 : Int) (v2 : Int) (s : zS) : Option ((Int × Int × zS) ⊕ (Int × Int × zS)) := zo (f_160 (gI s 177 26) s) (fun r2 => zo (f_162 r2) (fun r4 => zg (zR r4) (if r4 = 0 then (some (.inr (v1, v2, s))) else (zg (zR v2) (if v2 < 3 then (zo (f_160 (gI s 177 26) s) (fun r10 => some (.inl ((((10 * v1) + r10) - 48), (v2 + 1), (sI s 177 26 ((gI s 177 26) + 1)))))) else (some (.inl (v1, (v2 + 1), (sI s 177 26 ((gI s 177 26) + 1))))))))))
theorem wb_163_4 {k : zK} {d : Nat} {x : am_H} {r : am_A × am_H} {v1 : Int} {v2 : Int} {s : zS} {q : (Int × Int × zS) ⊕ (Int × Int × zS)} (hd : 1 ≤ d) (h : b_163_4 v1 v2 s = some q) (hK : Sum.elim (G_163_4 k d x r) (K_163_4 k d x r) q) : G_163_4 k d x r (v1, v2, s) := by
  unfold b_163_4 at h
  have hM := xM_163 k.1
  show zgo k d 163 (4, [(0, .ref 177), (1, .int (Int32.ofInt v1)), (2, .int (Int32.ofInt v2))], []) (hp s ++ x) r
  refine g_aload_n 5 hM rfl rfl rfl ?_
  refine g_aload_n 6 hM rfl rfl rfl ?_
  refine g_getI 9 26 (gI s 177 26) hM rfl rfl rfl rfl rfl rfl rfl ?_
  obtain ⟨r2, h1, h⟩ := zo_some h
  refine g_call 12 _ [.int (Int32.ofInt r2)] hM rfl rfl rfl rfl rfl (xM_160 _) rfl (z_rcv2 rfl) rfl rfl (by omega) (w_160 (by omega) h1) rfl ?_
  obtain ⟨r4, h3, h⟩ := zo_some h
  refine g_call 15 _ [.int (Int32.ofInt r4)] hM rfl rfl rfl rfl rfl (xM_162 _) rfl rfl rfl rfl (by omega) (w_162 (by omega) h3) rfl ?_
  obtain ⟨hg5, h⟩ := zg_some h
  by_cases hc6 : r4 = 0
  · rw [if_pos hc6] at h
    refine g_if_eq_t 60 hM rfl rfl hg5 hc6 ?_
    cases h
    exact g_lv [(0, .ref 177), (1, .int (Int32.ofInt v1)), (2, .int (Int32.ofInt v2))] rfl ⟨rfl, rfl, rfl, trivial⟩ hK
  · rw [if_neg hc6] at h
    refine g_if_eq_f 18 60 hM rfl rfl rfl hg5 hc6 ?_
    refine g_iload_n 19 hM rfl rfl rfl ?_
    refine g_iconst 20 hM rfl rfl ?_
    obtain ⟨hg7, h⟩ := zg_some h
    by_cases hc8 : v2 < 3
    · rw [if_pos hc8] at h
      refine g_ic_ge_f 23 42 hM rfl rfl rfl hg7 (zR_lit rfl) hc8 ?_
      refine g_bipush 25 hM rfl rfl rfl ?_
      refine g_iload_n 26 hM rfl rfl rfl ?_
      refine g_imul 27 hM rfl rfl ?_
      refine g_aload_n 28 hM rfl rfl rfl ?_
      refine g_aload_n 29 hM rfl rfl rfl ?_
      refine g_getI 32 26 (gI s 177 26) hM rfl rfl rfl rfl rfl rfl rfl ?_
      obtain ⟨r10, h9, h⟩ := zo_some h
      refine g_call 35 _ [.int (Int32.ofInt r10), .int (Int32.ofInt (10 * v1))] hM rfl rfl rfl rfl rfl (xM_160 _) rfl (z_rcv2 rfl) rfl rfl (by omega) (w_160 (by omega) h9) rfl ?_
      refine g_iadd 36 hM rfl rfl ?_
      refine g_bipush 38 hM rfl rfl rfl ?_
      refine g_isub 39 hM rfl rfl ?_
      refine g_goto 43 hM rfl rfl ?_
      refine g_istore_n 44 hM rfl rfl rfl ?_
      refine g_iinc 47 hM rfl rfl rfl rfl ?_
      refine g_aload_n 48 hM rfl rfl rfl ?_
      refine g_dup 49 hM rfl rfl rfl ?_
      refine g_getI 52 26 (gI s 177 26) hM rfl rfl rfl rfl rfl rfl rfl ?_
      refine g_iconst 53 hM rfl rfl ?_
      refine g_iadd 54 hM rfl rfl ?_
      refine g_putI 57 26 hM rfl rfl rfl rfl rfl rfl rfl ?_
      refine g_goto 4 hM rfl rfl ?_
      cases h
      exact g_lv [(0, .ref 177), (1, .int (Int32.ofInt (((10 * v1) + r10) - 48))), (2, .int (Int32.ofInt (v2 + 1)))] rfl ⟨rfl, rfl, rfl, trivial⟩ hK
    · rw [if_neg hc8] at h
      refine g_ic_ge_t 42 hM rfl rfl hg7 (zR_lit rfl) hc8 ?_
      refine g_iload_n 43 hM rfl rfl rfl ?_
      refine g_istore_n 44 hM rfl rfl rfl ?_
      refine g_iinc 47 hM rfl rfl rfl rfl ?_
      refine g_aload_n 48 hM rfl rfl rfl ?_
      refine g_dup 49 hM rfl rfl rfl ?_
      refine g_getI 52 26 (gI s 177 26) hM rfl rfl rfl rfl rfl rfl rfl ?_
      refine g_iconst 53 hM rfl rfl ?_
      refine g_iadd 54 hM rfl rfl ?_
      refine g_putI 57 26 hM rfl rfl rfl rfl rfl rfl rfl ?_
      refine g_goto 4 hM rfl rfl ?_
      cases h
      exact g_lv [(0, .ref 177), (1, .int (Int32.ofInt v1)), (2, .int (Int32.ofInt (v2 + 1)))] rfl ⟨rfl, rfl, rfl, trivial⟩ hK
theorem wl_163_4 {k : zK} {d : Nat} {x : am_H} {r : am_A × am_H} {n : Nat} {e : (Int × Int × zS)} {t : (Int × Int × zS)} (hd : 1 ≤ d) (h : zlp (fun (q : Int × Int × zS) => b_163_4 q.1 q.2.1 q.2.2) n e = some t) (hK : K_163_4 k d x r t) : G_163_4 k d x r e := zlp_go (G := fun e => G_163_4 k d x r e) (K := K_163_4 k d x r) (fun e e1 h1 hg => wb_163_4 (q := .inl e1) hd h1 hg) (fun e t1 h1 hk => wb_163_4 (q := .inr t1) hd h1 hk) n e t h hK
/-- RelationFinderModel.readNumber()V -/
def f_163 (s : zS) : Option (Unit × zS) := zo (zlp (fun (q : Int × Int × zS) => b_163_4 q.1 q.2.1 q.2.2) zF (0, 0, s)) (fun e1 => zg (zR e1.2.1) (if 3 < e1.2.1 then (some ((), (sI (sI e1.2.2 177 27 3) 177 30 e1.1))) else (some ((), (sI (sI e1.2.2 177 27 2) 177 30 e1.1)))))
theorem w_163 {k : zK} {d : Nat} {x : am_H} {s : zS} {q : (Unit × zS)} (hd : 1 ≤ d) (h : f_163 s = some q) : zgo k d 163 (0, [(0, .ref 177)], []) (hp s ++ x) (.inl (none), hp q.2 ++ x) := by
  unfold f_163 at h
  have hM := xM_163 k.1
  refine g_iconst 1 hM rfl rfl ?_
  refine g_istore_n 2 hM rfl rfl rfl ?_
  refine g_iconst 3 hM rfl rfl ?_
  refine g_istore_n 4 hM rfl rfl rfl ?_
  obtain ⟨e1, h2, h⟩ := zo_some h
  refine g_lv [(0, .ref 177), (1, .int (Int32.ofInt 0)), (2, .int (Int32.ofInt 0))] rfl ⟨rfl, rfl, rfl, trivial⟩ ?_
  refine wl_163_4 (by omega) h2 ?_
  show zgo k d 163 (60, [(0, .ref 177), (1, .int (Int32.ofInt e1.1)), (2, .int (Int32.ofInt e1.2.1))], []) (hp e1.2.2 ++ x) (.inl (none), hp q.2 ++ x)
  refine g_aload_n 61 hM rfl rfl rfl ?_
  refine g_iload_n 62 hM rfl rfl rfl ?_
  refine g_iconst 63 hM rfl rfl ?_
  obtain ⟨hg3, h⟩ := zg_some h
  by_cases hc4 : 3 < e1.2.1
  · rw [if_pos hc4] at h
    refine g_ic_gt_t 70 hM rfl rfl hg3 (zR_lit rfl) hc4 ?_
    refine g_iconst 71 hM rfl rfl ?_
    refine g_putI 74 27 hM rfl rfl rfl rfl rfl rfl rfl ?_
    refine g_aload_n 75 hM rfl rfl rfl ?_
    refine g_iload_n 76 hM rfl rfl rfl ?_
    refine g_putI 79 30 hM rfl rfl rfl rfl rfl rfl rfl ?_
    cases h
    exact g_ret hM rfl rfl
  · rw [if_neg hc4] at h
    refine g_ic_gt_f 66 70 hM rfl rfl rfl hg3 (zR_lit rfl) hc4 ?_
    refine g_iconst 67 hM rfl rfl ?_
    refine g_goto 71 hM rfl rfl ?_
    refine g_putI 74 27 hM rfl rfl rfl rfl rfl rfl rfl ?_
    refine g_aload_n 75 hM rfl rfl rfl ?_
    refine g_iload_n 76 hM rfl rfl rfl ?_
    refine g_putI 79 30 hM rfl rfl rfl rfl rfl rfl rfl ?_
    cases h
    exact g_ret hM rfl rfl
def G_161_4 (k : zK) (d : Nat) (x : am_H) (r : am_A × am_H) (e : (BitVec 64 × Int × zS)) : Prop := zgo k d 161 (4, [(0, .ref 177), (1, .long (Int64.ofBitVec e.1)), (3, .int (Int32.ofInt e.2.1))], []) (hp e.2.2 ++ x) r
def K_161_4 (k : zK) (d : Nat) (x : am_H) (r : am_A × am_H) (t : (BitVec 64 × Int × zS)) : Prop := zgo k d 161 (59, [(0, .ref 177), (1, .long (Int64.ofBitVec t.1)), (3, .int (Int32.ofInt t.2.1))], []) (hp t.2.2 ++ x) r
def b_161_4 (w1 : BitVec 64) (v3 : Int) (s : zS) : Option ((BitVec 64 × Int × zS) ⊕ (BitVec 64 × Int × zS)) := zo (f_160 (gI s 177 26) s) (fun r2 => zo (f_150 r2) (fun r4 => zg (zR r4) (if r4 = 0 then (some (.inr (w1, v3, s))) else (zg (zR v3) (if v3 < 7 then (zo (f_160 (gI s 177 26) s) (fun r10 => zg (zR r10) (some (.inl (((w1 <<< zshl 8) ||| (BitVec.ofInt 64 r10)), (v3 + 1), (sI s 177 26 ((gI s 177 26) + 1))))))) else (some (.inl (w1, (v3 + 1), (sI s 177 26 ((gI s 177 26) + 1))))))))))
theorem wb_161_4 {k : zK} {d : Nat} {x : am_H} {r : am_A × am_H} {w1 : BitVec 64} {v3 : Int} {s : zS} {q : (BitVec 64 × Int × zS) ⊕ (BitVec 64 × Int × zS)} (hd : 1 ≤ d) (h : b_161_4 w1 v3 s = some q) (hK : Sum.elim (G_161_4 k d x r) (K_161_4 k d x r) q) : G_161_4 k d x r (w1, v3, s) := by
  unfold b_161_4 at h
  have hM := xM_161 k.1
  show zgo k d 161 (4, [(0, .ref 177), (1, .long (Int64.ofBitVec w1)), (3, .int (Int32.ofInt v3))], []) (hp s ++ x) r
  refine g_aload_n 5 hM rfl rfl rfl ?_
  refine g_aload_n 6 hM rfl rfl rfl ?_
  refine g_getI 9 26 (gI s 177 26) hM rfl rfl rfl rfl rfl rfl rfl ?_
  obtain ⟨r2, h1, h⟩ := zo_some h
  refine g_call 12 _ [.int (Int32.ofInt r2)] hM rfl rfl rfl rfl rfl (xM_160 _) rfl (z_rcv2 rfl) rfl rfl (by omega) (w_160 (by omega) h1) rfl ?_
  obtain ⟨r4, h3, h⟩ := zo_some h
  refine g_call 15 _ [.int (Int32.ofInt r4)] hM rfl rfl rfl rfl rfl (xM_150 _) rfl rfl rfl rfl (by omega) (w_150 (by omega) h3) rfl ?_
  obtain ⟨hg5, h⟩ := zg_some h
  by_cases hc6 : r4 = 0
  · rw [if_pos hc6] at h
    refine g_if_eq_t 59 hM rfl rfl hg5 hc6 ?_
    cases h
    exact g_lv [(0, .ref 177), (1, .long (Int64.ofBitVec w1)), (3, .int (Int32.ofInt v3))] rfl ⟨rfl, rfl, rfl, trivial⟩ hK
  · rw [if_neg hc6] at h
    refine g_if_eq_f 18 59 hM rfl rfl rfl hg5 hc6 ?_
    refine g_iload_n 19 hM rfl rfl rfl ?_
    refine g_bipush 21 hM rfl rfl rfl ?_
    obtain ⟨hg7, h⟩ := zg_some h
    by_cases hc8 : v3 < 7
    · rw [if_pos hc8] at h
      refine g_ic_ge_f 24 41 hM rfl rfl rfl hg7 (zR_lit rfl) hc8 ?_
      refine g_lload_n 25 hM rfl rfl rfl ?_
      refine g_bipush 27 hM rfl rfl rfl ?_
      refine g_lshl 28 hM rfl rfl (zR_lit rfl) ?_
      refine g_aload_n 29 hM rfl rfl rfl ?_
      refine g_aload_n 30 hM rfl rfl rfl ?_
      refine g_getI 33 26 (gI s 177 26) hM rfl rfl rfl rfl rfl rfl rfl ?_
      obtain ⟨r10, h9, h⟩ := zo_some h
      refine g_call 36 _ [.int (Int32.ofInt r10), .long (Int64.ofBitVec (w1 <<< zshl 8))] hM rfl rfl rfl rfl rfl (xM_160 _) rfl (z_rcv2 rfl) rfl rfl (by omega) (w_160 (by omega) h9) rfl ?_
      obtain ⟨hg11, h⟩ := zg_some h
      refine g_i2l 37 hM rfl rfl hg11 ?_
      refine g_lor 38 hM rfl rfl ?_
      refine g_goto 42 hM rfl rfl ?_
      refine g_lstore_n 43 hM rfl rfl rfl ?_
      refine g_iinc 46 hM rfl rfl rfl rfl ?_
      refine g_aload_n 47 hM rfl rfl rfl ?_
      refine g_dup 48 hM rfl rfl rfl ?_
      refine g_getI 51 26 (gI s 177 26) hM rfl rfl rfl rfl rfl rfl rfl ?_
      refine g_iconst 52 hM rfl rfl ?_
      refine g_iadd 53 hM rfl rfl ?_
      refine g_putI 56 26 hM rfl rfl rfl rfl rfl rfl rfl ?_
      refine g_goto 4 hM rfl rfl ?_
      cases h
      exact g_lv [(0, .ref 177), (1, .long (Int64.ofBitVec ((w1 <<< zshl 8) ||| (BitVec.ofInt 64 r10)))), (3, .int (Int32.ofInt (v3 + 1)))] rfl ⟨rfl, rfl, rfl, trivial⟩ hK
    · rw [if_neg hc8] at h
      refine g_ic_ge_t 41 hM rfl rfl hg7 (zR_lit rfl) hc8 ?_
      refine g_lload_n 42 hM rfl rfl rfl ?_
      refine g_lstore_n 43 hM rfl rfl rfl ?_
      refine g_iinc 46 hM rfl rfl rfl rfl ?_
      refine g_aload_n 47 hM rfl rfl rfl ?_
      refine g_dup 48 hM rfl rfl rfl ?_
      refine g_getI 51 26 (gI s 177 26) hM rfl rfl rfl rfl rfl rfl rfl ?_
      refine g_iconst 52 hM rfl rfl ?_
      refine g_iadd 53 hM rfl rfl ?_
      refine g_putI 56 26 hM rfl rfl rfl rfl rfl rfl rfl ?_
      refine g_goto 4 hM rfl rfl ?_
      cases h
      exact g_lv [(0, .ref 177), (1, .long (Int64.ofBitVec w1)), (3, .int (Int32.ofInt (v3 + 1)))] rfl ⟨rfl, rfl, rfl, trivial⟩ hK
theorem wl_161_4 {k : zK} {d : Nat} {x : am_H} {r : am_A × am_H} {n : Nat} {e : (BitVec 64 × Int × zS)} {t : (BitVec 64 × Int × zS)} (hd : 1 ≤ d) (h : zlp (fun (q : BitVec 64 × Int × zS) => b_161_4 q.1 q.2.1 q.2.2) n e = some t) (hK : K_161_4 k d x r t) : G_161_4 k d x r e := zlp_go (G := fun e => G_161_4 k d x r e) (K := K_161_4 k d x r) (fun e e1 h1 hg => wb_161_4 (q := .inl e1) hd h1 hg) (fun e t1 h1 hk => wb_161_4 (q := .inr t1) hd h1 hk) n e t h hK
def j_161_73 (w1 : BitVec 64) (v3 : Int) (t0 : Int) (s : zS) : Option (Unit × zS) := zg (zR t0) (if t0 = (-1) then (zg (zR v3) (if 6 < v3 then (some ((), (sJ (sI s 177 27 3) 177 29 w1))) else (some ((), (sJ (sI s 177 27 1) 177 29 w1))))) else (some ((), (sJ (sI s 177 27 t0) 177 29 w1))))
theorem wj_161_73 {k : zK} {d : Nat} {x : am_H} {w1 : BitVec 64} {v3 : Int} {t0 : Int} {s : zS} {q : (Unit × zS)} (hd : 1 ≤ d) (h : j_161_73 w1 v3 t0 s = some q) : zgo k d 161 (73, [(0, .ref 177), (1, .long (Int64.ofBitVec w1)), (3, .int (Int32.ofInt v3))], [.int (Int32.ofInt t0)]) (hp s ++ x) (.inl (none), hp q.2 ++ x) := by
  unfold j_161_73 at h
  have hM := xM_161 k.1
  refine g_istore 75 hM rfl rfl rfl ?_
  refine g_aload_n 76 hM rfl rfl rfl ?_
  refine g_iload 78 hM rfl rfl rfl ?_
  refine g_iconst 79 hM rfl rfl ?_
  obtain ⟨hg1, h⟩ := zg_some h
  by_cases hc2 : t0 = (-1)
  · rw [if_pos hc2] at h
    refine g_ic_eq_t 87 hM rfl rfl hg1 (zR_lit rfl) hc2 ?_
    refine g_iload_n 88 hM rfl rfl rfl ?_
    refine g_bipush 90 hM rfl rfl rfl ?_
    obtain ⟨hg3, h⟩ := zg_some h
    by_cases hc4 : 6 < v3
    · rw [if_pos hc4] at h
      refine g_ic_gt_t 97 hM rfl rfl hg3 (zR_lit rfl) hc4 ?_
      refine g_iconst 98 hM rfl rfl ?_
      refine g_putI 101 27 hM rfl rfl rfl rfl rfl rfl rfl ?_
      refine g_aload_n 102 hM rfl rfl rfl ?_
      refine g_lload_n 103 hM rfl rfl rfl ?_
      refine g_putJ 106 29 hM rfl rfl rfl rfl rfl rfl rfl ?_
      cases h
      exact g_ret hM rfl rfl
    · rw [if_neg hc4] at h
      refine g_ic_gt_f 93 97 hM rfl rfl rfl hg3 (zR_lit rfl) hc4 ?_
      refine g_iconst 94 hM rfl rfl ?_
      refine g_goto 98 hM rfl rfl ?_
      refine g_putI 101 27 hM rfl rfl rfl rfl rfl rfl rfl ?_
      refine g_aload_n 102 hM rfl rfl rfl ?_
      refine g_lload_n 103 hM rfl rfl rfl ?_
      refine g_putJ 106 29 hM rfl rfl rfl rfl rfl rfl rfl ?_
      cases h
      exact g_ret hM rfl rfl
  · rw [if_neg hc2] at h
    refine g_ic_eq_f 82 87 hM rfl rfl rfl hg1 (zR_lit rfl) hc2 ?_
    refine g_iload 84 hM rfl rfl rfl ?_
    refine g_goto 98 hM rfl rfl ?_
    refine g_putI 101 27 hM rfl rfl rfl rfl rfl rfl rfl ?_
    refine g_aload_n 102 hM rfl rfl rfl ?_
    refine g_lload_n 103 hM rfl rfl rfl ?_
    refine g_putJ 106 29 hM rfl rfl rfl rfl rfl rfl rfl ?_
    cases h
    exact g_ret hM rfl rfl
/-- RelationFinderModel.readWord()V -/
def f_161 (s : zS) : Option (Unit × zS) := zo (zlp (fun (q : BitVec 64 × Int × zS) => b_161_4 q.1 q.2.1 q.2.2) zF ((0#64), 0, s)) (fun e1 => zg (zR e1.2.1) (if 7 < e1.2.1 then (j_161_73 e1.1 e1.2.1 (-1) e1.2.2) else (zo (f_148 e1.1) (fun r6 => j_161_73 e1.1 e1.2.1 r6 e1.2.2))))
theorem w_161 {k : zK} {d : Nat} {x : am_H} {s : zS} {q : (Unit × zS)} (hd : 1 ≤ d) (h : f_161 s = some q) : zgo k d 161 (0, [(0, .ref 177)], []) (hp s ++ x) (.inl (none), hp q.2 ++ x) := by
  unfold f_161 at h
  have hM := xM_161 k.1
  refine g_lconst 1 (0#64) hM rfl rfl rfl ?_
  refine g_lstore_n 2 hM rfl rfl rfl ?_
  refine g_iconst 3 hM rfl rfl ?_
  refine g_istore_n 4 hM rfl rfl rfl ?_
  obtain ⟨e1, h2, h⟩ := zo_some h
  refine g_lv [(0, .ref 177), (1, .long (Int64.ofBitVec (0#64))), (3, .int (Int32.ofInt 0))] rfl ⟨rfl, rfl, rfl, trivial⟩ ?_
  refine wl_161_4 (by omega) h2 ?_
  show zgo k d 161 (59, [(0, .ref 177), (1, .long (Int64.ofBitVec e1.1)), (3, .int (Int32.ofInt e1.2.1))], []) (hp e1.2.2 ++ x) (.inl (none), hp q.2 ++ x)
  refine g_iload_n 60 hM rfl rfl rfl ?_
  refine g_bipush 62 hM rfl rfl rfl ?_
  obtain ⟨hg3, h⟩ := zg_some h
  by_cases hc4 : 7 < e1.2.1
  · rw [if_pos hc4] at h
    refine g_ic_gt_t 72 hM rfl rfl hg3 (zR_lit rfl) hc4 ?_
    refine g_iconst 73 hM rfl rfl ?_
    refine g_lv [(0, .ref 177), (1, .long (Int64.ofBitVec e1.1)), (3, .int (Int32.ofInt e1.2.1))] rfl ⟨rfl, rfl, rfl, trivial⟩ ?_
    exact wj_161_73 (by omega) h
  · rw [if_neg hc4] at h
    refine g_ic_gt_f 65 72 hM rfl rfl rfl hg3 (zR_lit rfl) hc4 ?_
    refine g_lload_n 66 hM rfl rfl rfl ?_
    obtain ⟨r6, h5, h⟩ := zo_some h
    refine g_call 69 _ [.int (Int32.ofInt r6)] hM rfl rfl rfl rfl rfl (xM_148 _) rfl rfl rfl rfl (by omega) (w_148 (by omega) h5) rfl ?_
    refine g_goto 73 hM rfl rfl ?_
    refine g_lv [(0, .ref 177), (1, .long (Int64.ofBitVec e1.1)), (3, .int (Int32.ofInt e1.2.1))] rfl ⟨rfl, rfl, rfl, trivial⟩ ?_
    exact wj_161_73 (by omega) h
def j_159_38 (s : zS) : Option (Unit × zS) := zo (f_160 (gI s 177 26) (sI s 177 28 (gI s 177 26))) (fun r2 => zo (f_160 ((gI s 177 26) + 1) (sI s 177 28 (gI s 177 26))) (fun r4 => zg (zR r2) (if r2 = (-1) then (some ((), (sI (sI s 177 28 (gI s 177 26)) 177 27 0))) else (zo (f_150 r2) (fun r8 => zg (zR r8) (if r8 = 0 then (zo (f_162 r2) (fun r12 => zg (zR r12) (if r12 = 0 then (if r2 = 45 then (zg (zR r4) (if r4 = 62 then (some ((), (sI (sI (sI s 177 28 (gI s 177 26)) 177 27 30) 177 26 ((gI s 177 26) + 2)))) else (j_159_138 r2 r4 (sI s 177 28 (gI s 177 26))))) else (j_159_138 r2 r4 (sI s 177 28 (gI s 177 26)))) else (zb (f_163 (sI s 177 28 (gI s 177 26))) (fun r19 s20 => some ((), s20)))))) else (zb (f_161 (sI s 177 28 (gI s 177 26))) (fun r22 s23 => some ((), s23)))))))))
theorem wj_159_38 {k : zK} {d : Nat} {x : am_H} {s : zS} {q : (Unit × zS)} (hd : 2 ≤ d) (h : j_159_38 s = some q) : zgo k d 159 (38, [(0, .ref 177)], []) (hp s ++ x) (.inl (none), hp q.2 ++ x) := by
  unfold j_159_38 at h
  have hM := xM_159 k.1
  refine g_aload_n 39 hM rfl rfl rfl ?_
  refine g_aload_n 40 hM rfl rfl rfl ?_
  refine g_getI 43 26 (gI s 177 26) hM rfl rfl rfl rfl rfl rfl rfl ?_
  refine g_putI 46 28 hM rfl rfl rfl rfl rfl rfl rfl ?_
  refine g_aload_n 47 hM rfl rfl rfl ?_
  refine g_aload_n 48 hM rfl rfl rfl ?_
  refine g_getI 51 26 (gI s 177 26) hM rfl rfl rfl rfl rfl rfl rfl ?_
  obtain ⟨r2, h1, h⟩ := zo_some h
  refine g_call 54 _ [.int (Int32.ofInt r2)] hM rfl rfl rfl rfl rfl (xM_160 _) rfl (z_rcv2 rfl) rfl rfl (by omega) (w_160 (by omega) h1) rfl ?_
  refine g_istore_n 55 hM rfl rfl rfl ?_
  refine g_aload_n 56 hM rfl rfl rfl ?_
  refine g_aload_n 57 hM rfl rfl rfl ?_
  refine g_getI 60 26 (gI s 177 26) hM rfl rfl rfl rfl rfl rfl rfl ?_
  refine g_iconst 61 hM rfl rfl ?_
  refine g_iadd 62 hM rfl rfl ?_
  obtain ⟨r4, h3, h⟩ := zo_some h
  refine g_call 65 _ [.int (Int32.ofInt r4)] hM rfl rfl rfl rfl rfl (xM_160 _) rfl (z_rcv2 rfl) rfl rfl (by omega) (w_160 (by omega) h3) rfl ?_
  refine g_istore_n 66 hM rfl rfl rfl ?_
  refine g_iload_n 67 hM rfl rfl rfl ?_
  refine g_iconst 68 hM rfl rfl ?_
  obtain ⟨hg5, h⟩ := zg_some h
  by_cases hc6 : r2 = (-1)
  · rw [if_pos hc6] at h
    refine g_ic_ne_f 71 79 hM rfl rfl rfl hg5 (zR_lit rfl) hc6 ?_
    refine g_aload_n 72 hM rfl rfl rfl ?_
    refine g_iconst 73 hM rfl rfl ?_
    refine g_putI 76 27 hM rfl rfl rfl rfl rfl rfl rfl ?_
    refine g_goto 249 hM rfl rfl ?_
    cases h
    exact g_ret hM rfl rfl
  · rw [if_neg hc6] at h
    refine g_ic_ne_t 79 hM rfl rfl hg5 (zR_lit rfl) hc6 ?_
    refine g_iload_n 80 hM rfl rfl rfl ?_
    obtain ⟨r8, h7, h⟩ := zo_some h
    refine g_call 83 _ [.int (Int32.ofInt r8)] hM rfl rfl rfl rfl rfl (xM_150 _) rfl rfl rfl rfl (by omega) (w_150 (by omega) h7) rfl ?_
    obtain ⟨hg9, h⟩ := zg_some h
    by_cases hc10 : r8 = 0
    · rw [if_pos hc10] at h
      refine g_if_eq_t 93 hM rfl rfl hg9 hc10 ?_
      refine g_iload_n 94 hM rfl rfl rfl ?_
      obtain ⟨r12, h11, h⟩ := zo_some h
      refine g_call 97 _ [.int (Int32.ofInt r12)] hM rfl rfl rfl rfl rfl (xM_162 _) rfl rfl rfl rfl (by omega) (w_162 (by omega) h11) rfl ?_
      obtain ⟨hg13, h⟩ := zg_some h
      by_cases hc14 : r12 = 0
      · rw [if_pos hc14] at h
        refine g_if_eq_t 107 hM rfl rfl hg13 hc14 ?_
        refine g_iload_n 108 hM rfl rfl rfl ?_
        refine g_bipush 110 hM rfl rfl rfl ?_
        by_cases hc15 : r2 = 45
        · rw [if_pos hc15] at h
          refine g_ic_ne_f 113 138 hM rfl rfl rfl hg5 (zR_lit rfl) hc15 ?_
          refine g_iload_n 114 hM rfl rfl rfl ?_
          refine g_bipush 116 hM rfl rfl rfl ?_
          obtain ⟨hg16, h⟩ := zg_some h
          by_cases hc17 : r4 = 62
          · rw [if_pos hc17] at h
            refine g_ic_ne_f 119 138 hM rfl rfl rfl hg16 (zR_lit rfl) hc17 ?_
            refine g_aload_n 120 hM rfl rfl rfl ?_
            refine g_bipush 122 hM rfl rfl rfl ?_
            refine g_putI 125 27 hM rfl rfl rfl rfl rfl rfl rfl ?_
            refine g_aload_n 126 hM rfl rfl rfl ?_
            refine g_aload_n 127 hM rfl rfl rfl ?_
            refine g_getI 130 26 (gI s 177 26) hM rfl rfl rfl rfl rfl rfl rfl ?_
            refine g_iconst 131 hM rfl rfl ?_
            refine g_iadd 132 hM rfl rfl ?_
            refine g_putI 135 26 hM rfl rfl rfl rfl rfl rfl rfl ?_
            refine g_goto 249 hM rfl rfl ?_
            cases h
            exact g_ret hM rfl rfl
          · rw [if_neg hc17] at h
            refine g_ic_ne_t 138 hM rfl rfl hg16 (zR_lit rfl) hc17 ?_
            refine g_lv [(0, .ref 177), (1, .int (Int32.ofInt r2)), (2, .int (Int32.ofInt r4))] rfl ⟨rfl, rfl, rfl, trivial⟩ ?_
            exact wj_159_138 (by omega) h
        · rw [if_neg hc15] at h
          refine g_ic_ne_t 138 hM rfl rfl hg5 (zR_lit rfl) hc15 ?_
          refine g_lv [(0, .ref 177), (1, .int (Int32.ofInt r2)), (2, .int (Int32.ofInt r4))] rfl ⟨rfl, rfl, rfl, trivial⟩ ?_
          exact wj_159_138 (by omega) h
      · rw [if_neg hc14] at h
        refine g_if_eq_f 100 107 hM rfl rfl rfl hg13 hc14 ?_
        refine g_aload_n 101 hM rfl rfl rfl ?_
        obtain ⟨r19, s20, h18, h⟩ := zb_some h
        refine g_call 104 _ [] hM rfl rfl rfl rfl rfl (xM_163 _) rfl (z_rcv2 rfl) rfl rfl (by omega) (w_163 (by omega) h18) rfl ?_
        refine g_goto 249 hM rfl rfl ?_
        cases h
        exact g_ret hM rfl rfl
    · rw [if_neg hc10] at h
      refine g_if_eq_f 86 93 hM rfl rfl rfl hg9 hc10 ?_
      refine g_aload_n 87 hM rfl rfl rfl ?_
      obtain ⟨r22, s23, h21, h⟩ := zb_some h
      refine g_call 90 _ [] hM rfl rfl rfl rfl rfl (xM_161 _) rfl (z_rcv2 rfl) rfl rfl (by omega) (w_161 (by omega) h21) rfl ?_
      refine g_goto 249 hM rfl rfl ?_
      cases h
      exact g_ret hM rfl rfl
/-- RelationFinderModel.readToken()V -/
def f_159 (s : zS) : Option (Unit × zS) := zo (zlp (fun (q : zS) => b_159_0 q) zF s) (fun e1 => j_159_38 e1)
theorem w_159 {k : zK} {d : Nat} {x : am_H} {s : zS} {q : (Unit × zS)} (hd : 2 ≤ d) (h : f_159 s = some q) : zgo k d 159 (0, [(0, .ref 177)], []) (hp s ++ x) (.inl (none), hp q.2 ++ x) := by
  unfold f_159 at h
  have hM := xM_159 k.1
  obtain ⟨e1, h2, h⟩ := zo_some h
  refine g_lv [(0, .ref 177)] rfl ⟨rfl, trivial⟩ ?_
  refine wl_159_0 (by omega) h2 ?_
  show zgo k d 159 (38, [(0, .ref 177)], []) (hp e1 ++ x) (.inl (none), hp q.2 ++ x)
  refine g_lv [(0, .ref 177)] rfl ⟨rfl, trivial⟩ ?_
  exact wj_159_38 (by omega) h
def t_170_1 (a : Int) : Nat := zswt 0 3 [32, 37, 42, 47] 52 a
/-- RelationFinderModel.lay(III)V -/
def f_172 (v1 : Int) (v2 : Int) (v3 : Int) (s : zS) : Option (Unit × zS) := zg (0 ≤ (5440 + (gI s 177 41)) ∧ (5440 + (gI s 177 41)) < 5760) (some ((), (sI (sI (sI (sI s 184 (5440 + (gI s 177 41)) v1) 185 (5440 + (gI s 177 41)) v2) 186 (5440 + (gI s 177 41)) v3) 177 41 ((gI s 177 41) + 1))))
theorem w_172 {k : zK} {d : Nat} {x : am_H} {v1 : Int} {v2 : Int} {v3 : Int} {s : zS} {q : (Unit × zS)} (hd : 0 ≤ d) (h : f_172 v1 v2 v3 s = some q) : zgo k d 172 (0, [(0, .ref 177), (1, .int (Int32.ofInt v1)), (2, .int (Int32.ofInt v2)), (3, .int (Int32.ofInt v3))], []) (hp s ++ x) (.inl (none), hp q.2 ++ x) := by
  unfold f_172 at h
  have hM := xM_172 k.1
  refine g_sipush 3 hM rfl rfl rfl ?_
  refine g_aload_n 4 hM rfl rfl rfl ?_
  refine g_getI 7 41 (gI s 177 41) hM rfl rfl rfl rfl rfl rfl rfl ?_
  refine g_iadd 8 hM rfl rfl ?_
  refine g_istore 10 hM rfl rfl rfl ?_
  refine g_aload_n 11 hM rfl rfl rfl ?_
  refine g_getF 14 hM rfl rfl rfl rfl rfl ?_
  refine g_iload 16 hM rfl rfl rfl ?_
  refine g_iload_n 17 hM rfl rfl rfl ?_
  obtain ⟨hg1, h⟩ := zg_some h
  refine g_iastore 18 hM rfl rfl rfl rfl hg1 ?_
  refine g_aload_n 19 hM rfl rfl rfl ?_
  refine g_getF 22 hM rfl rfl rfl rfl rfl ?_
  refine g_iload 24 hM rfl rfl rfl ?_
  refine g_iload_n 25 hM rfl rfl rfl ?_
  refine g_iastore 26 hM rfl rfl rfl rfl hg1 ?_
  refine g_aload_n 27 hM rfl rfl rfl ?_
  refine g_getF 30 hM rfl rfl rfl rfl rfl ?_
  refine g_iload 32 hM rfl rfl rfl ?_
  refine g_iload_n 33 hM rfl rfl rfl ?_
  refine g_iastore 34 hM rfl rfl rfl rfl hg1 ?_
  refine g_aload_n 35 hM rfl rfl rfl ?_
  refine g_dup 36 hM rfl rfl rfl ?_
  refine g_getI 39 41 (gI s 177 41) hM rfl rfl rfl rfl rfl rfl rfl ?_
  refine g_iconst 40 hM rfl rfl ?_
  refine g_iadd 41 hM rfl rfl ?_
  refine g_putI 44 41 hM rfl rfl rfl rfl rfl rfl rfl ?_
  cases h
  exact g_ret hM rfl rfl
def j_171_103 (s : zS) : Option (Int × zS) := zb (f_158 62 ((gI s 177 27) - 10) s) (fun r2 s3 => some (4, s3))
theorem wj_171_103 {k : zK} {d : Nat} {x : am_H} {s : zS} {q : (Int × zS)} (hd : 4 ≤ d) (h : j_171_103 s = some q) : zgo k d 171 (103, [(0, .ref 177)], []) (hp s ++ x) (.inl (some (.int (Int32.ofInt q.1))), hp q.2 ++ x) := by
  unfold j_171_103 at h
  have hM := xM_171 k.1
  refine g_aload_n 104 hM rfl rfl rfl ?_
  refine g_bipush 106 hM rfl rfl rfl ?_
  refine g_aload_n 107 hM rfl rfl rfl ?_
  refine g_getI 110 27 (gI s 177 27) hM rfl rfl rfl rfl rfl rfl rfl ?_
  refine g_bipush 112 hM rfl rfl rfl ?_
  refine g_isub 113 hM rfl rfl ?_
  obtain ⟨r2, s3, h1, h⟩ := zb_some h
  refine g_call 116 _ [] hM rfl rfl rfl rfl rfl (xM_158 _) rfl (z_rcv2 rfl) rfl rfl (by omega) (w_158 (by omega) h1) rfl ?_
  refine g_iconst 117 hM rfl rfl ?_
  cases h
  exact g_ret hM rfl rfl
def t_166_1 (a : Int) : Nat := zswt 15 40 [128, 126, 124, 122, 120, 148, 148, 148, 148, 148, 148, 148, 148, 148, 148, 136, 139, 139, 139, 130, 130, 133, 142, 145, 145, 145] 148 a
/-- RelationFinderModel.level(I)I -/
def f_166 (v0 : Int) : Option Int := zg (zR v0) (if t_166_1 v0 = 120 then (some 1) else (if t_166_1 v0 = 122 then (some 2) else (if t_166_1 v0 = 124 then (some 3) else (if t_166_1 v0 = 126 then (some 4) else (if t_166_1 v0 = 128 then (some 5) else (if t_166_1 v0 = 130 then (some 11) else (if t_166_1 v0 = 133 then (some 12) else (if t_166_1 v0 = 136 then (some 13) else (if t_166_1 v0 = 139 then (some 14) else (if t_166_1 v0 = 142 then (some 15) else (if t_166_1 v0 = 145 then (some 16) else (if t_166_1 v0 = 148 then (some 0) else (none)))))))))))))
theorem w_166 {k : zK} {d : Nat} {x : am_H} {v0 : Int} {s : zS} {q : Int} (hd : 0 ≤ d) (h : f_166 v0 = some q) : zgo k d 166 (0, [(0, .int (Int32.ofInt v0))], []) (hp s ++ x) (.inl (some (.int (Int32.ofInt q))), hp s ++ x) := by
  unfold f_166 at h
  have hM := xM_166 k.1
  refine g_iload_n 1 hM rfl rfl rfl ?_
  obtain ⟨hg1, h⟩ := zg_some h
  by_cases hc2 : t_166_1 v0 = 120
  · rw [if_pos hc2] at h
    refine g_tsw 120 hM rfl hg1 hc2 rfl rfl rfl ?_
    refine g_iconst 121 hM rfl rfl ?_
    cases h
    exact g_ret hM rfl rfl
  · rw [if_neg hc2] at h
    by_cases hc3 : t_166_1 v0 = 122
    · rw [if_pos hc3] at h
      refine g_tsw 122 hM rfl hg1 hc3 rfl rfl rfl ?_
      refine g_iconst 123 hM rfl rfl ?_
      cases h
      exact g_ret hM rfl rfl
    · rw [if_neg hc3] at h
      by_cases hc4 : t_166_1 v0 = 124
      · rw [if_pos hc4] at h
        refine g_tsw 124 hM rfl hg1 hc4 rfl rfl rfl ?_
        refine g_iconst 125 hM rfl rfl ?_
        cases h
        exact g_ret hM rfl rfl
      · rw [if_neg hc4] at h
        by_cases hc5 : t_166_1 v0 = 126
        · rw [if_pos hc5] at h
          refine g_tsw 126 hM rfl hg1 hc5 rfl rfl rfl ?_
          refine g_iconst 127 hM rfl rfl ?_
          cases h
          exact g_ret hM rfl rfl
        · rw [if_neg hc5] at h
          by_cases hc6 : t_166_1 v0 = 128
          · rw [if_pos hc6] at h
            refine g_tsw 128 hM rfl hg1 hc6 rfl rfl rfl ?_
            refine g_iconst 129 hM rfl rfl ?_
            cases h
            exact g_ret hM rfl rfl
          · rw [if_neg hc6] at h
            by_cases hc7 : t_166_1 v0 = 130
            · rw [if_pos hc7] at h
              refine g_tsw 130 hM rfl hg1 hc7 rfl rfl rfl ?_
              refine g_bipush 132 hM rfl rfl rfl ?_
              cases h
              exact g_ret hM rfl rfl
            · rw [if_neg hc7] at h
              by_cases hc8 : t_166_1 v0 = 133
              · rw [if_pos hc8] at h
                refine g_tsw 133 hM rfl hg1 hc8 rfl rfl rfl ?_
                refine g_bipush 135 hM rfl rfl rfl ?_
                cases h
                exact g_ret hM rfl rfl
              · rw [if_neg hc8] at h
                by_cases hc9 : t_166_1 v0 = 136
                · rw [if_pos hc9] at h
                  refine g_tsw 136 hM rfl hg1 hc9 rfl rfl rfl ?_
                  refine g_bipush 138 hM rfl rfl rfl ?_
                  cases h
                  exact g_ret hM rfl rfl
                · rw [if_neg hc9] at h
                  by_cases hc10 : t_166_1 v0 = 139
                  · rw [if_pos hc10] at h
                    refine g_tsw 139 hM rfl hg1 hc10 rfl rfl rfl ?_
                    refine g_bipush 141 hM rfl rfl rfl ?_
                    cases h
                    exact g_ret hM rfl rfl
                  · rw [if_neg hc10] at h
                    by_cases hc11 : t_166_1 v0 = 142
                    · rw [if_pos hc11] at h
                      refine g_tsw 142 hM rfl hg1 hc11 rfl rfl rfl ?_
                      refine g_bipush 144 hM rfl rfl rfl ?_
                      cases h
                      exact g_ret hM rfl rfl
                    · rw [if_neg hc11] at h
                      by_cases hc12 : t_166_1 v0 = 145
                      · rw [if_pos hc12] at h
                        refine g_tsw 145 hM rfl hg1 hc12 rfl rfl rfl ?_
                        refine g_bipush 147 hM rfl rfl rfl ?_
                        cases h
                        exact g_ret hM rfl rfl
                      · rw [if_neg hc12] at h
                        by_cases hc13 : t_166_1 v0 = 148
                        · rw [if_pos hc13] at h
                          refine g_tsw 148 hM rfl hg1 hc13 rfl rfl rfl ?_
                          refine g_iconst 149 hM rfl rfl ?_
                          cases h
                          exact g_ret hM rfl rfl
                        · rw [if_neg hc13] at h
                          cases h
def G_175_6 (k : zK) (d : Nat) (x : am_H) (r : am_A × am_H) (s : zS) (e : (Int × Int × Int)) : Prop := zgo k d 175 (6, [(0, .ref 177), (1, .int (Int32.ofInt e.1)), (2, .int (Int32.ofInt e.2.1)), (3, .int (Int32.ofInt e.2.2))], []) (hp s ++ x) r
def K_175_6 (k : zK) (d : Nat) (x : am_H) (r : am_A × am_H) (s : zS) (t : (Int)) : Prop := zgo k d 175 (65, [(0, .ref 177), (2, .int (Int32.ofInt t))], []) (hp s ++ x) r
def j_175_6_36 (v1 : Int) (v2 : Int) (v3 : Int) (s : zS) : Option ((Int × Int × Int) ⊕ (Int)) := zg (0 ≤ v3 ∧ v3 < 64) (if (gJ s 194 v3) = (gJ s 177 29) then (some (.inl ((v1 + 1), v1, (v3 + 1)))) else (some (.inl ((v1 + 1), v2, (v3 + 1)))))
theorem wj_175_6_36 {k : zK} {d : Nat} {x : am_H} {r : am_A × am_H} {v1 : Int} {v2 : Int} {v3 : Int} {s : zS} {q : (Int × Int × Int) ⊕ (Int)} (hd : 1 ≤ d) (h : j_175_6_36 v1 v2 v3 s = some q) (hK : Sum.elim (G_175_6 k d x r s) (K_175_6 k d x r s) q) : zgo k d 175 (36, [(0, .ref 177), (1, .int (Int32.ofInt v1)), (2, .int (Int32.ofInt v2)), (3, .int (Int32.ofInt v3))], []) (hp s ++ x) r := by
  unfold j_175_6_36 at h
  have hM := xM_175 k.1
  refine g_aload_n 37 hM rfl rfl rfl ?_
  refine g_getF 40 hM rfl rfl rfl rfl rfl ?_
  refine g_iload_n 41 hM rfl rfl rfl ?_
  obtain ⟨hg1, h⟩ := zg_some h
  refine g_laload 42 (gJ s 194 v3) hM rfl rfl rfl rfl hg1 rfl ?_
  refine g_aload_n 43 hM rfl rfl rfl ?_
  refine g_getJ 46 29 (gJ s 177 29) hM rfl rfl rfl rfl rfl rfl rfl ?_
  by_cases hc2 : (gJ s 194 v3) = (gJ s 177 29)
  · rw [if_pos hc2] at h
    refine g_lc_ne_f 47 50 54 hM rfl rfl rfl rfl rfl hc2 ?_
    refine g_iload_n 51 hM rfl rfl rfl ?_
    refine g_goto 55 hM rfl rfl ?_
    refine g_istore_n 56 hM rfl rfl rfl ?_
    refine g_iinc 59 hM rfl rfl rfl rfl ?_
    refine g_iinc 62 hM rfl rfl rfl rfl ?_
    refine g_goto 6 hM rfl rfl ?_
    cases h
    exact g_lv [(0, .ref 177), (1, .int (Int32.ofInt (v1 + 1))), (2, .int (Int32.ofInt v1)), (3, .int (Int32.ofInt (v3 + 1)))] rfl ⟨rfl, rfl, rfl, rfl, trivial⟩ hK
  · rw [if_neg hc2] at h
    refine g_lc_ne_t 47 54 hM rfl rfl rfl rfl hc2 ?_
    refine g_iload_n 55 hM rfl rfl rfl ?_
    refine g_istore_n 56 hM rfl rfl rfl ?_
    refine g_iinc 59 hM rfl rfl rfl rfl ?_
    refine g_iinc 62 hM rfl rfl rfl rfl ?_
    refine g_goto 6 hM rfl rfl ?_
    cases h
    exact g_lv [(0, .ref 177), (1, .int (Int32.ofInt (v1 + 1))), (2, .int (Int32.ofInt v2)), (3, .int (Int32.ofInt (v3 + 1)))] rfl ⟨rfl, rfl, rfl, rfl, trivial⟩ hK
def b_175_6 (s : zS) (v1 : Int) (v2 : Int) (v3 : Int) : Option ((Int × Int × Int) ⊕ (Int)) := zg (zR v3) (if v3 < (gI s 177 38) then (zg (0 ≤ v3 ∧ v3 < 64) (if (gI s 189 v3) = 63 then (j_175_6_36 v1 v2 v3 s) else (if (gI s 189 v3) = 65 then (j_175_6_36 v1 v2 v3 s) else (some (.inl (v1, v2, (v3 + 1))))))) else (some (.inr v2)))
theorem wb_175_6 {k : zK} {d : Nat} {x : am_H} {r : am_A × am_H} {v1 : Int} {v2 : Int} {v3 : Int} {s : zS} {q : (Int × Int × Int) ⊕ (Int)} (hd : 1 ≤ d) (h : b_175_6 s v1 v2 v3 = some q) (hK : Sum.elim (G_175_6 k d x r s) (K_175_6 k d x r s) q) : G_175_6 k d x r s (v1, v2, v3) := by
  unfold b_175_6 at h
  have hM := xM_175 k.1
  show zgo k d 175 (6, [(0, .ref 177), (1, .int (Int32.ofInt v1)), (2, .int (Int32.ofInt v2)), (3, .int (Int32.ofInt v3))], []) (hp s ++ x) r
  refine g_iload_n 7 hM rfl rfl rfl ?_
  refine g_aload_n 8 hM rfl rfl rfl ?_
  refine g_getI 11 38 (gI s 177 38) hM rfl rfl rfl rfl rfl rfl rfl ?_
  obtain ⟨hg1, h⟩ := zg_some h
  by_cases hc2 : v3 < (gI s 177 38)
  · rw [if_pos hc2] at h
    refine g_ic_ge_f 14 65 hM rfl rfl rfl hg1 (zR_gI _ _ _) hc2 ?_
    refine g_aload_n 15 hM rfl rfl rfl ?_
    refine g_getF 18 hM rfl rfl rfl rfl rfl ?_
    refine g_iload_n 19 hM rfl rfl rfl ?_
    obtain ⟨hg3, h⟩ := zg_some h
    refine g_iaload 20 (gI s 189 v3) hM rfl rfl rfl rfl hg3 rfl ?_
    refine g_bipush 22 hM rfl rfl rfl ?_
    by_cases hc4 : (gI s 189 v3) = 63
    · rw [if_pos hc4] at h
      refine g_ic_eq_t 36 hM rfl rfl (zR_gI _ _ _) (zR_lit rfl) hc4 ?_
      refine g_lv [(0, .ref 177), (1, .int (Int32.ofInt v1)), (2, .int (Int32.ofInt v2)), (3, .int (Int32.ofInt v3))] rfl ⟨rfl, rfl, rfl, rfl, trivial⟩ ?_
      exact wj_175_6_36 (by omega) h hK
    · rw [if_neg hc4] at h
      refine g_ic_eq_f 25 36 hM rfl rfl rfl (zR_gI _ _ _) (zR_lit rfl) hc4 ?_
      refine g_aload_n 26 hM rfl rfl rfl ?_
      refine g_getF 29 hM rfl rfl rfl rfl rfl ?_
      refine g_iload_n 30 hM rfl rfl rfl ?_
      refine g_iaload 31 (gI s 189 v3) hM rfl rfl rfl rfl hg3 rfl ?_
      refine g_bipush 33 hM rfl rfl rfl ?_
      by_cases hc5 : (gI s 189 v3) = 65
      · rw [if_pos hc5] at h
        refine g_ic_ne_f 36 59 hM rfl rfl rfl (zR_gI _ _ _) (zR_lit rfl) hc5 ?_
        refine g_lv [(0, .ref 177), (1, .int (Int32.ofInt v1)), (2, .int (Int32.ofInt v2)), (3, .int (Int32.ofInt v3))] rfl ⟨rfl, rfl, rfl, rfl, trivial⟩ ?_
        exact wj_175_6_36 (by omega) h hK
      · rw [if_neg hc5] at h
        refine g_ic_ne_t 59 hM rfl rfl (zR_gI _ _ _) (zR_lit rfl) hc5 ?_
        refine g_iinc 62 hM rfl rfl rfl rfl ?_
        refine g_goto 6 hM rfl rfl ?_
        cases h
        exact g_lv [(0, .ref 177), (1, .int (Int32.ofInt v1)), (2, .int (Int32.ofInt v2)), (3, .int (Int32.ofInt (v3 + 1)))] rfl ⟨rfl, rfl, rfl, rfl, trivial⟩ hK
  · rw [if_neg hc2] at h
    refine g_ic_ge_t 65 hM rfl rfl hg1 (zR_gI _ _ _) hc2 ?_
    cases h
    exact g_lv [(0, .ref 177), (2, .int (Int32.ofInt v2))] rfl ⟨rfl, rfl, trivial⟩ hK
theorem wl_175_6 {k : zK} {d : Nat} {x : am_H} {r : am_A × am_H} {s : zS} {n : Nat} {e : (Int × Int × Int)} {t : (Int)} (hd : 1 ≤ d) (h : zlp (fun (q : Int × Int × Int) => b_175_6 s q.1 q.2.1 q.2.2) n e = some t) (hK : K_175_6 k d x r s t) : G_175_6 k d x r s e := zlp_go (G := fun e => G_175_6 k d x r s e) (K := K_175_6 k d x r s) (fun e e1 h1 hg => wb_175_6 (q := .inl e1) hd h1 hg) (fun e t1 h1 hk => wb_175_6 (q := .inr t1) hd h1 hk) n e t h hK
def G_175_101 (k : zK) (d : Nat) (x : am_H) (r : am_A × am_H) (e : (Int × zS)) : Prop := zgo k d 175 (101, [(0, .ref 177), (3, .int (Int32.ofInt e.1))], []) (hp e.2 ++ x) r
def K_175_101 (k : zK) (d : Nat) (x : am_H) (r : am_A × am_H) (t : ((zS) ⊕ (Int × zS))) : Prop := Sum.elim (fun e => zgo k d 175 (163, [], []) (hp e ++ x) r) (fun q => r = (.inl (some (.int (Int32.ofInt q.1))), hp q.2 ++ x)) t
def b_175_101 (v3 : Int) (s : zS) : Option ((Int × zS) ⊕ ((zS) ⊕ (Int × zS))) := zg (zR v3) (if v3 < (gI s 177 10) then (zg (0 ≤ v3 ∧ v3 < 8) (if (gJ s 179 v3) = (gJ s 177 29) then (zb (f_172 1 v3 0 s) (fun r6 s7 => zg (0 ≤ (gI s7 177 40) ∧ (gI s7 177 40) < 64) (some (.inr (.inr (1, (sI (sI s7 195 (gI s7 177 40) (gI s7 180 v3)) 177 40 ((gI s7 177 40) + 1)))))))) else (some (.inl ((v3 + 1), s))))) else (some (.inr (.inl s))))
theorem wb_175_101 {k : zK} {d : Nat} {x : am_H} {r : am_A × am_H} {v3 : Int} {s : zS} {q : (Int × zS) ⊕ ((zS) ⊕ (Int × zS))} (hd : 1 ≤ d) (h : b_175_101 v3 s = some q) (hK : Sum.elim (G_175_101 k d x r) (K_175_101 k d x r) q) : G_175_101 k d x r (v3, s) := by
  unfold b_175_101 at h
  have hM := xM_175 k.1
  show zgo k d 175 (101, [(0, .ref 177), (3, .int (Int32.ofInt v3))], []) (hp s ++ x) r
  refine g_iload_n 102 hM rfl rfl rfl ?_
  refine g_aload_n 103 hM rfl rfl rfl ?_
  refine g_getI 106 10 (gI s 177 10) hM rfl rfl rfl rfl rfl rfl rfl ?_
  obtain ⟨hg1, h⟩ := zg_some h
  by_cases hc2 : v3 < (gI s 177 10)
  · rw [if_pos hc2] at h
    refine g_ic_ge_f 109 163 hM rfl rfl rfl hg1 (zR_gI _ _ _) hc2 ?_
    refine g_aload_n 110 hM rfl rfl rfl ?_
    refine g_getF 113 hM rfl rfl rfl rfl rfl ?_
    refine g_iload_n 114 hM rfl rfl rfl ?_
    obtain ⟨hg3, h⟩ := zg_some h
    refine g_laload 115 (gJ s 179 v3) hM rfl rfl rfl rfl hg3 rfl ?_
    refine g_aload_n 116 hM rfl rfl rfl ?_
    refine g_getJ 119 29 (gJ s 177 29) hM rfl rfl rfl rfl rfl rfl rfl ?_
    by_cases hc4 : (gJ s 179 v3) = (gJ s 177 29)
    · rw [if_pos hc4] at h
      refine g_lc_ne_f 120 123 157 hM rfl rfl rfl rfl rfl hc4 ?_
      refine g_aload_n 124 hM rfl rfl rfl ?_
      refine g_iconst 125 hM rfl rfl ?_
      refine g_iload_n 126 hM rfl rfl rfl ?_
      refine g_iconst 127 hM rfl rfl ?_
      obtain ⟨r6, s7, h5, h⟩ := zb_some h
      refine g_call 130 _ [] hM rfl rfl rfl rfl rfl (xM_172 _) rfl (z_rcv2 rfl) rfl rfl (by omega) (w_172 (by omega) h5) rfl ?_
      refine g_aload_n 131 hM rfl rfl rfl ?_
      refine g_getF 134 hM rfl rfl rfl rfl rfl ?_
      refine g_aload_n 135 hM rfl rfl rfl ?_
      refine g_getI 138 40 (gI s7 177 40) hM rfl rfl rfl rfl rfl rfl rfl ?_
      refine g_aload_n 139 hM rfl rfl rfl ?_
      refine g_getF 142 hM rfl rfl rfl rfl rfl ?_
      refine g_iload_n 143 hM rfl rfl rfl ?_
      refine g_iaload 144 (gI s7 180 v3) hM rfl rfl rfl rfl hg3 rfl ?_
      obtain ⟨hg8, h⟩ := zg_some h
      refine g_iastore 145 hM rfl rfl rfl rfl hg8 ?_
      refine g_aload_n 146 hM rfl rfl rfl ?_
      refine g_dup 147 hM rfl rfl rfl ?_
      refine g_getI 150 40 (gI s7 177 40) hM rfl rfl rfl rfl rfl rfl rfl ?_
      refine g_iconst 151 hM rfl rfl ?_
      refine g_iadd 152 hM rfl rfl ?_
      refine g_putI 155 40 hM rfl rfl rfl rfl rfl rfl rfl ?_
      refine g_iconst 156 hM rfl rfl ?_
      cases h
      rw [show r = _ from hK]
      exact g_ret hM rfl rfl
    · rw [if_neg hc4] at h
      refine g_lc_ne_t 120 157 hM rfl rfl rfl rfl hc4 ?_
      refine g_iinc 160 hM rfl rfl rfl rfl ?_
      refine g_goto 101 hM rfl rfl ?_
      cases h
      exact g_lv [(0, .ref 177), (3, .int (Int32.ofInt (v3 + 1)))] rfl ⟨rfl, rfl, trivial⟩ hK
  · rw [if_neg hc2] at h
    refine g_ic_ge_t 163 hM rfl rfl hg1 (zR_gI _ _ _) hc2 ?_
    cases h
    exact g_lv [] rfl trivial hK
theorem wl_175_101 {k : zK} {d : Nat} {x : am_H} {r : am_A × am_H} {n : Nat} {e : (Int × zS)} {t : ((zS) ⊕ (Int × zS))} (hd : 1 ≤ d) (h : zlp (fun (q : Int × zS) => b_175_101 q.1 q.2) n e = some t) (hK : K_175_101 k d x r t) : G_175_101 k d x r e := zlp_go (G := fun e => G_175_101 k d x r e) (K := K_175_101 k d x r) (fun e e1 h1 hg => wb_175_101 (q := .inl e1) hd h1 hg) (fun e t1 h1 hk => wb_175_101 (q := .inr t1) hd h1 hk) n e t h hK
/-- RelationFinderModel.layName()Z -/
def f_175 (s : zS) : Option (Int × zS) := zo (zlp (fun (q : Int × Int × Int) => b_175_6 s q.1 q.2.1 q.2.2) zF (0, (-1), 0)) (fun e1 => zg (zR e1) (if e1 = (-1) then (zo (zlp (fun (q : Int × zS) => b_175_101 q.1 q.2) zF (0, s)) (fun e5 => Sum.elim (fun e7 => some (0, e7)) (fun q8 => some q8) e5)) else (zb (f_172 2 e1 0 s) (fun r10 s11 => zg (0 ≤ (gI s11 177 40) ∧ (gI s11 177 40) < 64) (some (1, (sI (sI s11 195 (gI s11 177 40) 1) 177 40 ((gI s11 177 40) + 1))))))))
theorem w_175 {k : zK} {d : Nat} {x : am_H} {s : zS} {q : (Int × zS)} (hd : 1 ≤ d) (h : f_175 s = some q) : zgo k d 175 (0, [(0, .ref 177)], []) (hp s ++ x) (.inl (some (.int (Int32.ofInt q.1))), hp q.2 ++ x) := by
  unfold f_175 at h
  have hM := xM_175 k.1
  refine g_iconst 1 hM rfl rfl ?_
  refine g_istore_n 2 hM rfl rfl rfl ?_
  refine g_iconst 3 hM rfl rfl ?_
  refine g_istore_n 4 hM rfl rfl rfl ?_
  refine g_iconst 5 hM rfl rfl ?_
  refine g_istore_n 6 hM rfl rfl rfl ?_
  obtain ⟨e1, h2, h⟩ := zo_some h
  refine g_lv [(0, .ref 177), (1, .int (Int32.ofInt 0)), (2, .int (Int32.ofInt (-1))), (3, .int (Int32.ofInt 0))] rfl ⟨rfl, rfl, rfl, rfl, trivial⟩ ?_
  refine wl_175_6 (by omega) h2 ?_
  show zgo k d 175 (65, [(0, .ref 177), (2, .int (Int32.ofInt e1))], []) (hp s ++ x) (.inl (some (.int (Int32.ofInt q.1))), hp q.2 ++ x)
  refine g_iload_n 66 hM rfl rfl rfl ?_
  refine g_iconst 67 hM rfl rfl ?_
  obtain ⟨hg3, h⟩ := zg_some h
  by_cases hc4 : e1 = (-1)
  · rw [if_pos hc4] at h
    refine g_ic_eq_t 99 hM rfl rfl hg3 (zR_lit rfl) hc4 ?_
    refine g_iconst 100 hM rfl rfl ?_
    refine g_istore_n 101 hM rfl rfl rfl ?_
    obtain ⟨e5, h6, h⟩ := zo_some h
    refine g_lv [(0, .ref 177), (3, .int (Int32.ofInt 0))] rfl ⟨rfl, rfl, trivial⟩ ?_
    refine wl_175_101 (by omega) h6 ?_
    rcases e5 with e7 | q8
    · simp only [ze_l] at h
      show zgo k d 175 (163, [], []) (hp e7 ++ x) (.inl (some (.int (Int32.ofInt q.1))), hp q.2 ++ x)
      refine g_iconst 164 hM rfl rfl ?_
      cases h
      exact g_ret hM rfl rfl
    · cases h
      rfl
  · rw [if_neg hc4] at h
    refine g_ic_eq_f 70 99 hM rfl rfl rfl hg3 (zR_lit rfl) hc4 ?_
    refine g_aload_n 71 hM rfl rfl rfl ?_
    refine g_iconst 72 hM rfl rfl ?_
    refine g_iload_n 73 hM rfl rfl rfl ?_
    refine g_iconst 74 hM rfl rfl ?_
    obtain ⟨r10, s11, h9, h⟩ := zb_some h
    refine g_call 77 _ [] hM rfl rfl rfl rfl rfl (xM_172 _) rfl (z_rcv2 rfl) rfl rfl (by omega) (w_172 (by omega) h9) rfl ?_
    refine g_aload_n 78 hM rfl rfl rfl ?_
    refine g_getF 81 hM rfl rfl rfl rfl rfl ?_
    refine g_aload_n 82 hM rfl rfl rfl ?_
    refine g_getI 85 40 (gI s11 177 40) hM rfl rfl rfl rfl rfl rfl rfl ?_
    refine g_iconst 86 hM rfl rfl ?_
    obtain ⟨hg12, h⟩ := zg_some h
    refine g_iastore 87 hM rfl rfl rfl rfl hg12 ?_
    refine g_aload_n 88 hM rfl rfl rfl ?_
    refine g_dup 89 hM rfl rfl rfl ?_
    refine g_getI 92 40 (gI s11 177 40) hM rfl rfl rfl rfl rfl rfl rfl ?_
    refine g_iconst 93 hM rfl rfl ?_
    refine g_iadd 94 hM rfl rfl ?_
    refine g_putI 97 40 hM rfl rfl rfl rfl rfl rfl rfl ?_
    refine g_iconst 98 hM rfl rfl ?_
    cases h
    exact g_ret hM rfl rfl
def j_174_99 (s : zS) : Option (Int × zS) := zb (f_172 (gI s 177 27) 0 0 s) (fun r2 s3 => if (gI s3 177 27) = 23 then (zg (0 ≤ (gI s3 177 40) ∧ (gI s3 177 40) < 64) (some (2, (sI (sI s3 195 (gI s3 177 40) 2) 177 40 ((gI s3 177 40) + 1))))) else (zg (0 ≤ (gI s3 177 40) ∧ (gI s3 177 40) < 64) (some (2, (sI (sI s3 195 (gI s3 177 40) 1) 177 40 ((gI s3 177 40) + 1))))))
theorem wj_174_99 {k : zK} {d : Nat} {x : am_H} {s : zS} {q : (Int × zS)} (hd : 2 ≤ d) (h : j_174_99 s = some q) : zgo k d 174 (99, [(0, .ref 177)], []) (hp s ++ x) (.inl (some (.int (Int32.ofInt q.1))), hp q.2 ++ x) := by
  unfold j_174_99 at h
  have hM := xM_174 k.1
  refine g_aload_n 100 hM rfl rfl rfl ?_
  refine g_aload_n 101 hM rfl rfl rfl ?_
  refine g_getI 104 27 (gI s 177 27) hM rfl rfl rfl rfl rfl rfl rfl ?_
  refine g_iconst 105 hM rfl rfl ?_
  refine g_iconst 106 hM rfl rfl ?_
  obtain ⟨r2, s3, h1, h⟩ := zb_some h
  refine g_call 109 _ [] hM rfl rfl rfl rfl rfl (xM_172 _) rfl (z_rcv2 rfl) rfl rfl (by omega) (w_172 (by omega) h1) rfl ?_
  refine g_aload_n 110 hM rfl rfl rfl ?_
  refine g_getF 113 hM rfl rfl rfl rfl rfl ?_
  refine g_aload_n 114 hM rfl rfl rfl ?_
  refine g_getI 117 40 (gI s3 177 40) hM rfl rfl rfl rfl rfl rfl rfl ?_
  refine g_aload_n 118 hM rfl rfl rfl ?_
  refine g_getI 121 27 (gI s3 177 27) hM rfl rfl rfl rfl rfl rfl rfl ?_
  refine g_bipush 123 hM rfl rfl rfl ?_
  by_cases hc4 : (gI s3 177 27) = 23
  · rw [if_pos hc4] at h
    refine g_ic_ne_f 126 130 hM rfl rfl rfl (zR_gI _ _ _) (zR_lit rfl) hc4 ?_
    refine g_iconst 127 hM rfl rfl ?_
    refine g_goto 131 hM rfl rfl ?_
    obtain ⟨hg5, h⟩ := zg_some h
    refine g_iastore 132 hM rfl rfl rfl rfl hg5 ?_
    refine g_aload_n 133 hM rfl rfl rfl ?_
    refine g_dup 134 hM rfl rfl rfl ?_
    refine g_getI 137 40 (gI s3 177 40) hM rfl rfl rfl rfl rfl rfl rfl ?_
    refine g_iconst 138 hM rfl rfl ?_
    refine g_iadd 139 hM rfl rfl ?_
    refine g_putI 142 40 hM rfl rfl rfl rfl rfl rfl rfl ?_
    refine g_iconst 143 hM rfl rfl ?_
    cases h
    exact g_ret hM rfl rfl
  · rw [if_neg hc4] at h
    refine g_ic_ne_t 130 hM rfl rfl (zR_gI _ _ _) (zR_lit rfl) hc4 ?_
    refine g_iconst 131 hM rfl rfl ?_
    obtain ⟨hg6, h⟩ := zg_some h
    refine g_iastore 132 hM rfl rfl rfl rfl hg6 ?_
    refine g_aload_n 133 hM rfl rfl rfl ?_
    refine g_dup 134 hM rfl rfl rfl ?_
    refine g_getI 137 40 (gI s3 177 40) hM rfl rfl rfl rfl rfl rfl rfl ?_
    refine g_iconst 138 hM rfl rfl ?_
    refine g_iadd 139 hM rfl rfl ?_
    refine g_putI 142 40 hM rfl rfl rfl rfl rfl rfl rfl ?_
    refine g_iconst 143 hM rfl rfl ?_
    cases h
    exact g_ret hM rfl rfl
/-- RelationFinderModel.takeOperand()I -/
def f_174 (s : zS) : Option (Int × zS) := zo (f_166 (gI s 177 27)) (fun r2 => zg (zR r2) (if r2 = 16 then (zb (f_158 (gI s 177 27) 0 s) (fun r6 s7 => some (1, s7))) else (if (gI s 177 27) = 45 then (zb (f_158 (gI s 177 27) 0 s) (fun r10 s11 => some (1, s11))) else (if (gI s 177 27) = 49 then (zb (f_158 64 5 s) (fun r14 s15 => some (4, s15))) else (if (gI s 177 27) = 1 then (zb (f_175 s) (fun r18 s19 => zg (zR r18) (if r18 = 0 then (some (104, s19)) else (some (2, s19))))) else (if (gI s 177 27) = 21 then (j_174_99 s) else (if (gI s 177 27) = 22 then (j_174_99 s) else (if (gI s 177 27) = 23 then (j_174_99 s) else (some (103, s))))))))))
theorem w_174 {k : zK} {d : Nat} {x : am_H} {s : zS} {q : (Int × zS)} (hd : 2 ≤ d) (h : f_174 s = some q) : zgo k d 174 (0, [(0, .ref 177)], []) (hp s ++ x) (.inl (some (.int (Int32.ofInt q.1))), hp q.2 ++ x) := by
  unfold f_174 at h
  have hM := xM_174 k.1
  refine g_aload_n 1 hM rfl rfl rfl ?_
  refine g_getI 4 27 (gI s 177 27) hM rfl rfl rfl rfl rfl rfl rfl ?_
  obtain ⟨r2, h1, h⟩ := zo_some h
  refine g_call 7 _ [.int (Int32.ofInt r2)] hM rfl rfl rfl rfl rfl (xM_166 _) rfl rfl rfl rfl (by omega) (w_166 (by omega) h1) rfl ?_
  refine g_bipush 9 hM rfl rfl rfl ?_
  obtain ⟨hg3, h⟩ := zg_some h
  by_cases hc4 : r2 = 16
  · rw [if_pos hc4] at h
    refine g_ic_eq_t 21 hM rfl rfl hg3 (zR_lit rfl) hc4 ?_
    refine g_aload_n 22 hM rfl rfl rfl ?_
    refine g_aload_n 23 hM rfl rfl rfl ?_
    refine g_getI 26 27 (gI s 177 27) hM rfl rfl rfl rfl rfl rfl rfl ?_
    refine g_iconst 27 hM rfl rfl ?_
    obtain ⟨r6, s7, h5, h⟩ := zb_some h
    refine g_call 30 _ [] hM rfl rfl rfl rfl rfl (xM_158 _) rfl (z_rcv2 rfl) rfl rfl (by omega) (w_158 (by omega) h5) rfl ?_
    refine g_iconst 31 hM rfl rfl ?_
    cases h
    exact g_ret hM rfl rfl
  · rw [if_neg hc4] at h
    refine g_ic_eq_f 12 21 hM rfl rfl rfl hg3 (zR_lit rfl) hc4 ?_
    refine g_aload_n 13 hM rfl rfl rfl ?_
    refine g_getI 16 27 (gI s 177 27) hM rfl rfl rfl rfl rfl rfl rfl ?_
    refine g_bipush 18 hM rfl rfl rfl ?_
    by_cases hc8 : (gI s 177 27) = 45
    · rw [if_pos hc8] at h
      refine g_ic_ne_f 21 32 hM rfl rfl rfl (zR_gI _ _ _) (zR_lit rfl) hc8 ?_
      refine g_aload_n 22 hM rfl rfl rfl ?_
      refine g_aload_n 23 hM rfl rfl rfl ?_
      refine g_getI 26 27 (gI s 177 27) hM rfl rfl rfl rfl rfl rfl rfl ?_
      refine g_iconst 27 hM rfl rfl ?_
      obtain ⟨r10, s11, h9, h⟩ := zb_some h
      refine g_call 30 _ [] hM rfl rfl rfl rfl rfl (xM_158 _) rfl (z_rcv2 rfl) rfl rfl (by omega) (w_158 (by omega) h9) rfl ?_
      refine g_iconst 31 hM rfl rfl ?_
      cases h
      exact g_ret hM rfl rfl
    · rw [if_neg hc8] at h
      refine g_ic_ne_t 32 hM rfl rfl (zR_gI _ _ _) (zR_lit rfl) hc8 ?_
      refine g_aload_n 33 hM rfl rfl rfl ?_
      refine g_getI 36 27 (gI s 177 27) hM rfl rfl rfl rfl rfl rfl rfl ?_
      refine g_bipush 38 hM rfl rfl rfl ?_
      by_cases hc12 : (gI s 177 27) = 49
      · rw [if_pos hc12] at h
        refine g_ic_ne_f 41 50 hM rfl rfl rfl (zR_gI _ _ _) (zR_lit rfl) hc12 ?_
        refine g_aload_n 42 hM rfl rfl rfl ?_
        refine g_bipush 44 hM rfl rfl rfl ?_
        refine g_iconst 45 hM rfl rfl ?_
        obtain ⟨r14, s15, h13, h⟩ := zb_some h
        refine g_call 48 _ [] hM rfl rfl rfl rfl rfl (xM_158 _) rfl (z_rcv2 rfl) rfl rfl (by omega) (w_158 (by omega) h13) rfl ?_
        refine g_iconst 49 hM rfl rfl ?_
        cases h
        exact g_ret hM rfl rfl
      · rw [if_neg hc12] at h
        refine g_ic_ne_t 50 hM rfl rfl (zR_gI _ _ _) (zR_lit rfl) hc12 ?_
        refine g_aload_n 51 hM rfl rfl rfl ?_
        refine g_getI 54 27 (gI s 177 27) hM rfl rfl rfl rfl rfl rfl rfl ?_
        refine g_iconst 55 hM rfl rfl ?_
        by_cases hc16 : (gI s 177 27) = 1
        · rw [if_pos hc16] at h
          refine g_ic_ne_f 58 72 hM rfl rfl rfl (zR_gI _ _ _) (zR_lit rfl) hc16 ?_
          refine g_aload_n 59 hM rfl rfl rfl ?_
          obtain ⟨r18, s19, h17, h⟩ := zb_some h
          refine g_call 62 _ [.int (Int32.ofInt r18)] hM rfl rfl rfl rfl rfl (xM_175 _) rfl (z_rcv2 rfl) rfl rfl (by omega) (w_175 (by omega) h17) rfl ?_
          obtain ⟨hg20, h⟩ := zg_some h
          by_cases hc21 : r18 = 0
          · rw [if_pos hc21] at h
            refine g_if_eq_t 69 hM rfl rfl hg20 hc21 ?_
            refine g_bipush 71 hM rfl rfl rfl ?_
            cases h
            exact g_ret hM rfl rfl
          · rw [if_neg hc21] at h
            refine g_if_eq_f 65 69 hM rfl rfl rfl hg20 hc21 ?_
            refine g_iconst 66 hM rfl rfl ?_
            refine g_goto 71 hM rfl rfl ?_
            cases h
            exact g_ret hM rfl rfl
        · rw [if_neg hc16] at h
          refine g_ic_ne_t 72 hM rfl rfl (zR_gI _ _ _) (zR_lit rfl) hc16 ?_
          refine g_aload_n 73 hM rfl rfl rfl ?_
          refine g_getI 76 27 (gI s 177 27) hM rfl rfl rfl rfl rfl rfl rfl ?_
          refine g_bipush 78 hM rfl rfl rfl ?_
          by_cases hc22 : (gI s 177 27) = 21
          · rw [if_pos hc22] at h
            refine g_ic_eq_t 99 hM rfl rfl (zR_gI _ _ _) (zR_lit rfl) hc22 ?_
            refine g_lv [(0, .ref 177)] rfl ⟨rfl, trivial⟩ ?_
            exact wj_174_99 (by omega) h
          · rw [if_neg hc22] at h
            refine g_ic_eq_f 81 99 hM rfl rfl rfl (zR_gI _ _ _) (zR_lit rfl) hc22 ?_
            refine g_aload_n 82 hM rfl rfl rfl ?_
            refine g_getI 85 27 (gI s 177 27) hM rfl rfl rfl rfl rfl rfl rfl ?_
            refine g_bipush 87 hM rfl rfl rfl ?_
            by_cases hc23 : (gI s 177 27) = 22
            · rw [if_pos hc23] at h
              refine g_ic_eq_t 99 hM rfl rfl (zR_gI _ _ _) (zR_lit rfl) hc23 ?_
              refine g_lv [(0, .ref 177)] rfl ⟨rfl, trivial⟩ ?_
              exact wj_174_99 (by omega) h
            · rw [if_neg hc23] at h
              refine g_ic_eq_f 90 99 hM rfl rfl rfl (zR_gI _ _ _) (zR_lit rfl) hc23 ?_
              refine g_aload_n 91 hM rfl rfl rfl ?_
              refine g_getI 94 27 (gI s 177 27) hM rfl rfl rfl rfl rfl rfl rfl ?_
              refine g_bipush 96 hM rfl rfl rfl ?_
              by_cases hc24 : (gI s 177 27) = 23
              · rw [if_pos hc24] at h
                refine g_ic_ne_f 99 144 hM rfl rfl rfl (zR_gI _ _ _) (zR_lit rfl) hc24 ?_
                refine g_lv [(0, .ref 177)] rfl ⟨rfl, trivial⟩ ?_
                exact wj_174_99 (by omega) h
              · rw [if_neg hc24] at h
                refine g_ic_ne_t 144 hM rfl rfl (zR_gI _ _ _) (zR_lit rfl) hc24 ?_
                refine g_bipush 146 hM rfl rfl rfl ?_
                cases h
                exact g_ret hM rfl rfl
def j_171_118 (v1 : Int) (s : zS) : Option (Int × zS) := zg (zR v1) (if v1 = 0 then (if (gI s 177 27) = 41 then (zb (f_158 66 0 s) (fun r5 s6 => some (1, s6))) else (zb (f_174 s) (fun r8 s9 => some (r8, s9)))) else (zb (f_158 106 ((gI s 177 27) - 10) s) (fun r11 s12 => some (1, s12))))
theorem wj_171_118 {k : zK} {d : Nat} {x : am_H} {v1 : Int} {s : zS} {q : (Int × zS)} (hd : 4 ≤ d) (h : j_171_118 v1 s = some q) : zgo k d 171 (118, [(0, .ref 177), (1, .int (Int32.ofInt v1))], []) (hp s ++ x) (.inl (some (.int (Int32.ofInt q.1))), hp q.2 ++ x) := by
  unfold j_171_118 at h
  have hM := xM_171 k.1
  refine g_iload_n 119 hM rfl rfl rfl ?_
  obtain ⟨hg1, h⟩ := zg_some h
  by_cases hc2 : v1 = 0
  · rw [if_pos hc2] at h
    refine g_if_eq_t 137 hM rfl rfl hg1 hc2 ?_
    refine g_aload_n 138 hM rfl rfl rfl ?_
    refine g_getI 141 27 (gI s 177 27) hM rfl rfl rfl rfl rfl rfl rfl ?_
    refine g_bipush 143 hM rfl rfl rfl ?_
    by_cases hc3 : (gI s 177 27) = 41
    · rw [if_pos hc3] at h
      refine g_ic_ne_f 146 155 hM rfl rfl rfl (zR_gI _ _ _) (zR_lit rfl) hc3 ?_
      refine g_aload_n 147 hM rfl rfl rfl ?_
      refine g_bipush 149 hM rfl rfl rfl ?_
      refine g_iconst 150 hM rfl rfl ?_
      obtain ⟨r5, s6, h4, h⟩ := zb_some h
      refine g_call 153 _ [] hM rfl rfl rfl rfl rfl (xM_158 _) rfl (z_rcv2 rfl) rfl rfl (by omega) (w_158 (by omega) h4) rfl ?_
      refine g_iconst 154 hM rfl rfl ?_
      cases h
      exact g_ret hM rfl rfl
    · rw [if_neg hc3] at h
      refine g_ic_ne_t 155 hM rfl rfl (zR_gI _ _ _) (zR_lit rfl) hc3 ?_
      refine g_aload_n 156 hM rfl rfl rfl ?_
      obtain ⟨r8, s9, h7, h⟩ := zb_some h
      refine g_call 159 _ [.int (Int32.ofInt r8)] hM rfl rfl rfl rfl rfl (xM_174 _) rfl (z_rcv2 rfl) rfl rfl (by omega) (w_174 (by omega) h7) rfl ?_
      cases h
      exact g_ret hM rfl rfl
  · rw [if_neg hc2] at h
    refine g_if_eq_f 122 137 hM rfl rfl rfl hg1 hc2 ?_
    refine g_aload_n 123 hM rfl rfl rfl ?_
    refine g_bipush 125 hM rfl rfl rfl ?_
    refine g_aload_n 126 hM rfl rfl rfl ?_
    refine g_getI 129 27 (gI s 177 27) hM rfl rfl rfl rfl rfl rfl rfl ?_
    refine g_bipush 131 hM rfl rfl rfl ?_
    refine g_isub 132 hM rfl rfl ?_
    obtain ⟨r11, s12, h10, h⟩ := zb_some h
    refine g_call 135 _ [] hM rfl rfl rfl rfl rfl (xM_158 _) rfl (z_rcv2 rfl) rfl rfl (by omega) (w_158 (by omega) h10) rfl ?_
    refine g_iconst 136 hM rfl rfl ?_
    cases h
    exact g_ret hM rfl rfl
def j_173_32 (v1 : Int) (v2 : Int) (v3 : Int) (t0 : Int) (s : zS) : Option (Int × zS) := zg (zR t0) (if t0 = 0 then (zg (t0 = 0 ∨ t0 = 1) (some (t0, (sI (sI (sI s 177 26 v1) 177 27 v2) 177 28 v3)))) else (zb (f_159 s) (fun r5 s6 => if (gI s6 177 27) = 51 then (some (1, (sI (sI (sI s6 177 26 v1) 177 27 v2) 177 28 v3))) else (some (0, (sI (sI (sI s6 177 26 v1) 177 27 v2) 177 28 v3))))))
theorem wj_173_32 {k : zK} {d : Nat} {x : am_H} {v1 : Int} {v2 : Int} {v3 : Int} {t0 : Int} {s : zS} {q : (Int × zS)} (hd : 3 ≤ d) (h : j_173_32 v1 v2 v3 t0 s = some q) : zgo k d 173 (32, [(0, .ref 177), (1, .int (Int32.ofInt v1)), (2, .int (Int32.ofInt v2)), (3, .int (Int32.ofInt v3))], [.int (Int32.ofInt t0)]) (hp s ++ x) (.inl (some (.int (Int32.ofInt q.1))), hp q.2 ++ x) := by
  unfold j_173_32 at h
  have hM := xM_173 k.1
  refine g_istore 34 hM rfl rfl rfl ?_
  refine g_iload 36 hM rfl rfl rfl ?_
  obtain ⟨hg1, h⟩ := zg_some h
  by_cases hc2 : t0 = 0
  · rw [if_pos hc2] at h
    refine g_if_eq_t 59 hM rfl rfl hg1 hc2 ?_
    refine g_aload_n 60 hM rfl rfl rfl ?_
    refine g_iload_n 61 hM rfl rfl rfl ?_
    refine g_putI 64 26 hM rfl rfl rfl rfl rfl rfl rfl ?_
    refine g_aload_n 65 hM rfl rfl rfl ?_
    refine g_iload_n 66 hM rfl rfl rfl ?_
    refine g_putI 69 27 hM rfl rfl rfl rfl rfl rfl rfl ?_
    refine g_aload_n 70 hM rfl rfl rfl ?_
    refine g_iload_n 71 hM rfl rfl rfl ?_
    refine g_putI 74 28 hM rfl rfl rfl rfl rfl rfl rfl ?_
    refine g_iload 76 hM rfl rfl rfl ?_
    obtain ⟨hg3, h⟩ := zg_some h
    cases h
    exact g_ret hM rfl (z_retB hg3)
  · rw [if_neg hc2] at h
    refine g_if_eq_f 39 59 hM rfl rfl rfl hg1 hc2 ?_
    refine g_aload_n 40 hM rfl rfl rfl ?_
    obtain ⟨r5, s6, h4, h⟩ := zb_some h
    refine g_call 43 _ [] hM rfl rfl rfl rfl rfl (xM_159 _) rfl (z_rcv2 rfl) rfl rfl (by omega) (w_159 (by omega) h4) rfl ?_
    refine g_aload_n 44 hM rfl rfl rfl ?_
    refine g_getI 47 27 (gI s6 177 27) hM rfl rfl rfl rfl rfl rfl rfl ?_
    refine g_bipush 49 hM rfl rfl rfl ?_
    by_cases hc7 : (gI s6 177 27) = 51
    · rw [if_pos hc7] at h
      refine g_ic_ne_f 52 56 hM rfl rfl rfl (zR_gI _ _ _) (zR_lit rfl) hc7 ?_
      refine g_iconst 53 hM rfl rfl ?_
      refine g_goto 57 hM rfl rfl ?_
      refine g_istore 59 hM rfl rfl rfl ?_
      refine g_aload_n 60 hM rfl rfl rfl ?_
      refine g_iload_n 61 hM rfl rfl rfl ?_
      refine g_putI 64 26 hM rfl rfl rfl rfl rfl rfl rfl ?_
      refine g_aload_n 65 hM rfl rfl rfl ?_
      refine g_iload_n 66 hM rfl rfl rfl ?_
      refine g_putI 69 27 hM rfl rfl rfl rfl rfl rfl rfl ?_
      refine g_aload_n 70 hM rfl rfl rfl ?_
      refine g_iload_n 71 hM rfl rfl rfl ?_
      refine g_putI 74 28 hM rfl rfl rfl rfl rfl rfl rfl ?_
      refine g_iload 76 hM rfl rfl rfl ?_
      cases h
      exact g_ret hM rfl rfl
    · rw [if_neg hc7] at h
      refine g_ic_ne_t 56 hM rfl rfl (zR_gI _ _ _) (zR_lit rfl) hc7 ?_
      refine g_iconst 57 hM rfl rfl ?_
      refine g_istore 59 hM rfl rfl rfl ?_
      refine g_aload_n 60 hM rfl rfl rfl ?_
      refine g_iload_n 61 hM rfl rfl rfl ?_
      refine g_putI 64 26 hM rfl rfl rfl rfl rfl rfl rfl ?_
      refine g_aload_n 65 hM rfl rfl rfl ?_
      refine g_iload_n 66 hM rfl rfl rfl ?_
      refine g_putI 69 27 hM rfl rfl rfl rfl rfl rfl rfl ?_
      refine g_aload_n 70 hM rfl rfl rfl ?_
      refine g_iload_n 71 hM rfl rfl rfl ?_
      refine g_putI 74 28 hM rfl rfl rfl rfl rfl rfl rfl ?_
      refine g_iload 76 hM rfl rfl rfl ?_
      cases h
      exact g_ret hM rfl rfl
/-- RelationFinderModel.beginsLine()Z -/
def f_173 (s : zS) : Option (Int × zS) := zb (f_159 s) (fun r2 s3 => if (gI s3 177 27) = 1 then (j_173_32 (gI s 177 26) (gI s 177 27) (gI s 177 28) 1 s3) else (j_173_32 (gI s 177 26) (gI s 177 27) (gI s 177 28) 0 s3))
theorem w_173 {k : zK} {d : Nat} {x : am_H} {s : zS} {q : (Int × zS)} (hd : 3 ≤ d) (h : f_173 s = some q) : zgo k d 173 (0, [(0, .ref 177)], []) (hp s ++ x) (.inl (some (.int (Int32.ofInt q.1))), hp q.2 ++ x) := by
  unfold f_173 at h
  have hM := xM_173 k.1
  refine g_aload_n 1 hM rfl rfl rfl ?_
  refine g_getI 4 26 (gI s 177 26) hM rfl rfl rfl rfl rfl rfl rfl ?_
  refine g_istore_n 5 hM rfl rfl rfl ?_
  refine g_aload_n 6 hM rfl rfl rfl ?_
  refine g_getI 9 27 (gI s 177 27) hM rfl rfl rfl rfl rfl rfl rfl ?_
  refine g_istore_n 10 hM rfl rfl rfl ?_
  refine g_aload_n 11 hM rfl rfl rfl ?_
  refine g_getI 14 28 (gI s 177 28) hM rfl rfl rfl rfl rfl rfl rfl ?_
  refine g_istore_n 15 hM rfl rfl rfl ?_
  refine g_aload_n 16 hM rfl rfl rfl ?_
  obtain ⟨r2, s3, h1, h⟩ := zb_some h
  refine g_call 19 _ [] hM rfl rfl rfl rfl rfl (xM_159 _) rfl (z_rcv2 rfl) rfl rfl (by omega) (w_159 (by omega) h1) rfl ?_
  refine g_aload_n 20 hM rfl rfl rfl ?_
  refine g_getI 23 27 (gI s3 177 27) hM rfl rfl rfl rfl rfl rfl rfl ?_
  refine g_iconst 24 hM rfl rfl ?_
  by_cases hc4 : (gI s3 177 27) = 1
  · rw [if_pos hc4] at h
    refine g_ic_ne_f 27 31 hM rfl rfl rfl (zR_gI _ _ _) (zR_lit rfl) hc4 ?_
    refine g_iconst 28 hM rfl rfl ?_
    refine g_goto 32 hM rfl rfl ?_
    refine g_lv [(0, .ref 177), (1, .int (Int32.ofInt (gI s 177 26))), (2, .int (Int32.ofInt (gI s 177 27))), (3, .int (Int32.ofInt (gI s 177 28)))] rfl ⟨rfl, rfl, rfl, rfl, trivial⟩ ?_
    exact wj_173_32 (by omega) h
  · rw [if_neg hc4] at h
    refine g_ic_ne_t 31 hM rfl rfl (zR_gI _ _ _) (zR_lit rfl) hc4 ?_
    refine g_iconst 32 hM rfl rfl ?_
    refine g_lv [(0, .ref 177), (1, .int (Int32.ofInt (gI s 177 26))), (2, .int (Int32.ofInt (gI s 177 27))), (3, .int (Int32.ofInt (gI s 177 28)))] rfl ⟨rfl, rfl, rfl, rfl, trivial⟩ ?_
    exact wj_173_32 (by omega) h
def j_171_82 (t0 : Int) (s : zS) : Option (Int × zS) := if (gI s 177 27) = 10 then (j_171_103 s) else (zg (zR t0) (if t0 = 0 then (j_171_118 t0 s) else (zb (f_173 s) (fun r5 s6 => zg (zR r5) (if r5 = 0 then (j_171_118 t0 s6) else (j_171_103 s6))))))
theorem wj_171_82 {k : zK} {d : Nat} {x : am_H} {t0 : Int} {s : zS} {q : (Int × zS)} (hd : 4 ≤ d) (h : j_171_82 t0 s = some q) : zgo k d 171 (82, [(0, .ref 177)], [.int (Int32.ofInt t0)]) (hp s ++ x) (.inl (some (.int (Int32.ofInt q.1))), hp q.2 ++ x) := by
  unfold j_171_82 at h
  have hM := xM_171 k.1
  refine g_istore_n 83 hM rfl rfl rfl ?_
  refine g_aload_n 84 hM rfl rfl rfl ?_
  refine g_getI 87 27 (gI s 177 27) hM rfl rfl rfl rfl rfl rfl rfl ?_
  refine g_bipush 89 hM rfl rfl rfl ?_
  by_cases hc1 : (gI s 177 27) = 10
  · rw [if_pos hc1] at h
    refine g_ic_eq_t 103 hM rfl rfl (zR_gI _ _ _) (zR_lit rfl) hc1 ?_
    refine g_lv [(0, .ref 177)] rfl ⟨rfl, trivial⟩ ?_
    exact wj_171_103 (by omega) h
  · rw [if_neg hc1] at h
    refine g_ic_eq_f 92 103 hM rfl rfl rfl (zR_gI _ _ _) (zR_lit rfl) hc1 ?_
    refine g_iload_n 93 hM rfl rfl rfl ?_
    obtain ⟨hg2, h⟩ := zg_some h
    by_cases hc3 : t0 = 0
    · rw [if_pos hc3] at h
      refine g_if_eq_t 118 hM rfl rfl hg2 hc3 ?_
      refine g_lv [(0, .ref 177), (1, .int (Int32.ofInt t0))] rfl ⟨rfl, rfl, trivial⟩ ?_
      exact wj_171_118 (by omega) h
    · rw [if_neg hc3] at h
      refine g_if_eq_f 96 118 hM rfl rfl rfl hg2 hc3 ?_
      refine g_aload_n 97 hM rfl rfl rfl ?_
      obtain ⟨r5, s6, h4, h⟩ := zb_some h
      refine g_call 100 _ [.int (Int32.ofInt r5)] hM rfl rfl rfl rfl rfl (xM_173 _) rfl (z_rcv2 rfl) rfl rfl (by omega) (w_173 (by omega) h4) rfl ?_
      obtain ⟨hg7, h⟩ := zg_some h
      by_cases hc8 : r5 = 0
      · rw [if_pos hc8] at h
        refine g_if_eq_t 118 hM rfl rfl hg7 hc8 ?_
        refine g_lv [(0, .ref 177), (1, .int (Int32.ofInt t0))] rfl ⟨rfl, rfl, trivial⟩ ?_
        exact wj_171_118 (by omega) h
      · rw [if_neg hc8] at h
        refine g_if_eq_f 103 118 hM rfl rfl rfl hg7 hc8 ?_
        refine g_lv [(0, .ref 177)] rfl ⟨rfl, trivial⟩ ?_
        exact wj_171_103 (by omega) h
def j_171_81 (s : zS) : Option (Int × zS) := j_171_82 0 s
theorem wj_171_81 {k : zK} {d : Nat} {x : am_H} {s : zS} {q : (Int × zS)} (hd : 4 ≤ d) (h : j_171_81 s = some q) : zgo k d 171 (81, [(0, .ref 177)], []) (hp s ++ x) (.inl (some (.int (Int32.ofInt q.1))), hp q.2 ++ x) := by
  unfold j_171_81 at h
  have hM := xM_171 k.1
  refine g_iconst 82 hM rfl rfl ?_
  refine g_lv [(0, .ref 177)] rfl ⟨rfl, trivial⟩ ?_
  exact wj_171_82 (by omega) h
/-- RelationFinderModel.takeFormula()I -/
def f_171 (s : zS) : Option (Int × zS) := if (gI s 177 27) = 15 then (zb (f_158 (gI s 177 27) 0 s) (fun r3 s4 => some (0, s4))) else (if (gI s 177 27) = 47 then (zb (f_158 (gI s 177 27) 0 s) (fun r7 s8 => some (0, s8))) else (if (gI s 177 27) = 24 then (zb (f_172 (gI s 177 27) 0 0 s) (fun r11 s12 => some (3, s12))) else (if (gI s 177 27) = 25 then (zb (f_172 (gI s 177 27) 0 0 s) (fun r15 s16 => some (3, s16))) else (if (gI s 177 27) < 10 then (j_171_81 s) else (if 14 < (gI s 177 27) then (j_171_81 s) else (j_171_82 1 s))))))
theorem w_171 {k : zK} {d : Nat} {x : am_H} {s : zS} {q : (Int × zS)} (hd : 4 ≤ d) (h : f_171 s = some q) : zgo k d 171 (0, [(0, .ref 177)], []) (hp s ++ x) (.inl (some (.int (Int32.ofInt q.1))), hp q.2 ++ x) := by
  unfold f_171 at h
  have hM := xM_171 k.1
  refine g_aload_n 1 hM rfl rfl rfl ?_
  refine g_getI 4 27 (gI s 177 27) hM rfl rfl rfl rfl rfl rfl rfl ?_
  refine g_bipush 6 hM rfl rfl rfl ?_
  by_cases hc1 : (gI s 177 27) = 15
  · rw [if_pos hc1] at h
    refine g_ic_eq_t 18 hM rfl rfl (zR_gI _ _ _) (zR_lit rfl) hc1 ?_
    refine g_aload_n 19 hM rfl rfl rfl ?_
    refine g_aload_n 20 hM rfl rfl rfl ?_
    refine g_getI 23 27 (gI s 177 27) hM rfl rfl rfl rfl rfl rfl rfl ?_
    refine g_iconst 24 hM rfl rfl ?_
    obtain ⟨r3, s4, h2, h⟩ := zb_some h
    refine g_call 27 _ [] hM rfl rfl rfl rfl rfl (xM_158 _) rfl (z_rcv2 rfl) rfl rfl (by omega) (w_158 (by omega) h2) rfl ?_
    refine g_iconst 28 hM rfl rfl ?_
    cases h
    exact g_ret hM rfl rfl
  · rw [if_neg hc1] at h
    refine g_ic_eq_f 9 18 hM rfl rfl rfl (zR_gI _ _ _) (zR_lit rfl) hc1 ?_
    refine g_aload_n 10 hM rfl rfl rfl ?_
    refine g_getI 13 27 (gI s 177 27) hM rfl rfl rfl rfl rfl rfl rfl ?_
    refine g_bipush 15 hM rfl rfl rfl ?_
    by_cases hc5 : (gI s 177 27) = 47
    · rw [if_pos hc5] at h
      refine g_ic_ne_f 18 29 hM rfl rfl rfl (zR_gI _ _ _) (zR_lit rfl) hc5 ?_
      refine g_aload_n 19 hM rfl rfl rfl ?_
      refine g_aload_n 20 hM rfl rfl rfl ?_
      refine g_getI 23 27 (gI s 177 27) hM rfl rfl rfl rfl rfl rfl rfl ?_
      refine g_iconst 24 hM rfl rfl ?_
      obtain ⟨r7, s8, h6, h⟩ := zb_some h
      refine g_call 27 _ [] hM rfl rfl rfl rfl rfl (xM_158 _) rfl (z_rcv2 rfl) rfl rfl (by omega) (w_158 (by omega) h6) rfl ?_
      refine g_iconst 28 hM rfl rfl ?_
      cases h
      exact g_ret hM rfl rfl
    · rw [if_neg hc5] at h
      refine g_ic_ne_t 29 hM rfl rfl (zR_gI _ _ _) (zR_lit rfl) hc5 ?_
      refine g_aload_n 30 hM rfl rfl rfl ?_
      refine g_getI 33 27 (gI s 177 27) hM rfl rfl rfl rfl rfl rfl rfl ?_
      refine g_bipush 35 hM rfl rfl rfl ?_
      by_cases hc9 : (gI s 177 27) = 24
      · rw [if_pos hc9] at h
        refine g_ic_eq_t 47 hM rfl rfl (zR_gI _ _ _) (zR_lit rfl) hc9 ?_
        refine g_aload_n 48 hM rfl rfl rfl ?_
        refine g_aload_n 49 hM rfl rfl rfl ?_
        refine g_getI 52 27 (gI s 177 27) hM rfl rfl rfl rfl rfl rfl rfl ?_
        refine g_iconst 53 hM rfl rfl ?_
        refine g_iconst 54 hM rfl rfl ?_
        obtain ⟨r11, s12, h10, h⟩ := zb_some h
        refine g_call 57 _ [] hM rfl rfl rfl rfl rfl (xM_172 _) rfl (z_rcv2 rfl) rfl rfl (by omega) (w_172 (by omega) h10) rfl ?_
        refine g_iconst 58 hM rfl rfl ?_
        cases h
        exact g_ret hM rfl rfl
      · rw [if_neg hc9] at h
        refine g_ic_eq_f 38 47 hM rfl rfl rfl (zR_gI _ _ _) (zR_lit rfl) hc9 ?_
        refine g_aload_n 39 hM rfl rfl rfl ?_
        refine g_getI 42 27 (gI s 177 27) hM rfl rfl rfl rfl rfl rfl rfl ?_
        refine g_bipush 44 hM rfl rfl rfl ?_
        by_cases hc13 : (gI s 177 27) = 25
        · rw [if_pos hc13] at h
          refine g_ic_ne_f 47 59 hM rfl rfl rfl (zR_gI _ _ _) (zR_lit rfl) hc13 ?_
          refine g_aload_n 48 hM rfl rfl rfl ?_
          refine g_aload_n 49 hM rfl rfl rfl ?_
          refine g_getI 52 27 (gI s 177 27) hM rfl rfl rfl rfl rfl rfl rfl ?_
          refine g_iconst 53 hM rfl rfl ?_
          refine g_iconst 54 hM rfl rfl ?_
          obtain ⟨r15, s16, h14, h⟩ := zb_some h
          refine g_call 57 _ [] hM rfl rfl rfl rfl rfl (xM_172 _) rfl (z_rcv2 rfl) rfl rfl (by omega) (w_172 (by omega) h14) rfl ?_
          refine g_iconst 58 hM rfl rfl ?_
          cases h
          exact g_ret hM rfl rfl
        · rw [if_neg hc13] at h
          refine g_ic_ne_t 59 hM rfl rfl (zR_gI _ _ _) (zR_lit rfl) hc13 ?_
          refine g_aload_n 60 hM rfl rfl rfl ?_
          refine g_getI 63 27 (gI s 177 27) hM rfl rfl rfl rfl rfl rfl rfl ?_
          refine g_bipush 65 hM rfl rfl rfl ?_
          by_cases hc17 : (gI s 177 27) < 10
          · rw [if_pos hc17] at h
            refine g_ic_lt_t 81 hM rfl rfl (zR_gI _ _ _) (zR_lit rfl) hc17 ?_
            refine g_lv [(0, .ref 177)] rfl ⟨rfl, trivial⟩ ?_
            exact wj_171_81 (by omega) h
          · rw [if_neg hc17] at h
            refine g_ic_lt_f 68 81 hM rfl rfl rfl (zR_gI _ _ _) (zR_lit rfl) hc17 ?_
            refine g_aload_n 69 hM rfl rfl rfl ?_
            refine g_getI 72 27 (gI s 177 27) hM rfl rfl rfl rfl rfl rfl rfl ?_
            refine g_bipush 74 hM rfl rfl rfl ?_
            by_cases hc18 : 14 < (gI s 177 27)
            · rw [if_pos hc18] at h
              refine g_ic_gt_t 81 hM rfl rfl (zR_gI _ _ _) (zR_lit rfl) hc18 ?_
              refine g_lv [(0, .ref 177)] rfl ⟨rfl, trivial⟩ ?_
              exact wj_171_81 (by omega) h
            · rw [if_neg hc18] at h
              refine g_ic_gt_f 77 81 hM rfl rfl rfl (zR_gI _ _ _) (zR_lit rfl) hc18 ?_
              refine g_iconst 78 hM rfl rfl ?_
              refine g_goto 82 hM rfl rfl ?_
              refine g_lv [(0, .ref 177)] rfl ⟨rfl, trivial⟩ ?_
              exact wj_171_82 (by omega) h
