/-! THE PURE LAYER: methods as functions, and runs that do what they say (7). By program. -/
theorem wl_123_63 {k : zK} {d : Nat} {x : am_H} {r : am_A × am_H} {v1 : Int} {v2 : Int} {v3 : Int} {v4 : Int} {s : zS} {n : Nat} {e : (BitVec 64 × Int)} {t : (BitVec 64)} (hd : 1 ≤ d) (h : zlp (fun (q : BitVec 64 × Int) => b_123_63 v1 v2 v3 v4 s q.1 q.2) n e = some t) (hK : K_123_63 k d x r v1 v2 v3 v4 s t) : G_123_63 k d x r v1 v2 v3 v4 s e := zlp_go (G := fun e => G_123_63 k d x r v1 v2 v3 v4 s e) (K := K_123_63 k d x r v1 v2 v3 v4 s) (fun e e1 h1 hg => wb_123_63 (q := .inl e1) hd h1 hg) (fun e t1 h1 hk => wb_123_63 (q := .inr t1) hd h1 hk) n e t h hK
/-- RelationFinder$Machine.compare(I)V -/
def f_123 (v1 : Int) (s : zS) : Option (Unit × zS) := if (gI s 17 3) < 2 then (some ((), s)) else (zg (0 ≤ ((gI (sI s 17 3 ((gI s 17 3) - 1)) 17 3) - 1) ∧ ((gI (sI s 17 3 ((gI s 17 3) - 1)) 17 3) - 1) < 22) (zo (f_52 (gI s 19 ((gI (sI s 17 3 ((gI s 17 3) - 1)) 17 3) - 1)) (sI s 17 3 ((gI s 17 3) - 1))) (fun r4 => zo (zlp (fun (q : BitVec 64 × Int) => b_123_63 v1 (((gI (sI s 17 3 ((gI s 17 3) - 1)) 17 3) - 1) * 125) ((gI (sI s 17 3 ((gI s 17 3) - 1)) 17 3) * 125) r4 (sI s 17 3 ((gI s 17 3) - 1)) q.1 q.2) zF ((0#64), 0)) (fun e5 => zg (0 ≤ (((gI (sI s 17 3 ((gI s 17 3) - 1)) 17 3) - 1) * 125) ∧ (((gI (sI s 17 3 ((gI s 17 3) - 1)) 17 3) - 1) * 125) < 2750) (some ((), (sI (sJ (sI s 17 3 ((gI s 17 3) - 1)) 18 (((gI (sI s 17 3 ((gI s 17 3) - 1)) 17 3) - 1) * 125) (e5 ^^^ (18446744073709551615#64))) 19 ((gI (sI s 17 3 ((gI s 17 3) - 1)) 17 3) - 1) 0)))))))
theorem w_123 {k : zK} {d : Nat} {x : am_H} {v1 : Int} {s : zS} {q : (Unit × zS)} (hd : 1 ≤ d) (h : f_123 v1 s = some q) : zgo k d 123 (0, [(0, .ref 17), (1, .int (Int32.ofInt v1))], []) (hp s ++ x) (.inl (none), hp q.2 ++ x) := by
  unfold f_123 at h
  have hM := xM_123 k.1
  refine g_aload_n 1 hM rfl rfl rfl ?_
  refine g_getI 4 3 (gI s 17 3) hM rfl rfl rfl rfl rfl rfl rfl ?_
  refine g_iconst 5 hM rfl rfl ?_
  by_cases hc1 : (gI s 17 3) < 2
  · rw [if_pos hc1] at h
    refine g_ic_ge_f 8 9 hM rfl rfl rfl (zR_gI _ _ _) (zR_lit rfl) hc1 ?_
    cases h
    exact g_ret hM rfl rfl
  · rw [if_neg hc1] at h
    refine g_ic_ge_t 9 hM rfl rfl (zR_gI _ _ _) (zR_lit rfl) hc1 ?_
    refine g_aload_n 10 hM rfl rfl rfl ?_
    refine g_dup 11 hM rfl rfl rfl ?_
    refine g_getI 14 3 (gI s 17 3) hM rfl rfl rfl rfl rfl rfl rfl ?_
    refine g_iconst 15 hM rfl rfl ?_
    refine g_isub 16 hM rfl rfl ?_
    refine g_putI 19 3 hM rfl rfl rfl rfl rfl rfl rfl ?_
    refine g_aload_n 20 hM rfl rfl rfl ?_
    refine g_getI 23 3 (gI (sI s 17 3 ((gI s 17 3) - 1)) 17 3) hM rfl rfl rfl rfl rfl rfl rfl ?_
    refine g_iconst 24 hM rfl rfl ?_
    refine g_isub 25 hM rfl rfl ?_
    refine g_bipush 27 hM rfl rfl rfl ?_
    refine g_imul 28 hM rfl rfl ?_
    refine g_istore_n 29 hM rfl rfl rfl ?_
    refine g_aload_n 30 hM rfl rfl rfl ?_
    refine g_getI 33 3 (gI (sI s 17 3 ((gI s 17 3) - 1)) 17 3) hM rfl rfl rfl rfl rfl rfl rfl ?_
    refine g_bipush 35 hM rfl rfl rfl ?_
    refine g_imul 36 hM rfl rfl ?_
    refine g_istore_n 37 hM rfl rfl rfl ?_
    refine g_aload_n 38 hM rfl rfl rfl ?_
    refine g_getF 41 hM rfl rfl rfl rfl rfl ?_
    refine g_aload_n 42 hM rfl rfl rfl ?_
    refine g_getF 45 hM rfl rfl rfl rfl rfl ?_
    refine g_aload_n 46 hM rfl rfl rfl ?_
    refine g_getI 49 3 (gI (sI s 17 3 ((gI s 17 3) - 1)) 17 3) hM rfl rfl rfl rfl rfl rfl rfl ?_
    refine g_iconst 50 hM rfl rfl ?_
    refine g_isub 51 hM rfl rfl ?_
    obtain ⟨hg2, h⟩ := zg_some h
    refine g_iaload 52 (gI s 19 ((gI (sI s 17 3 ((gI s 17 3) - 1)) 17 3) - 1)) hM rfl rfl rfl rfl hg2 rfl ?_
    obtain ⟨r4, h3, h⟩ := zo_some h
    refine g_call 55 _ [.int (Int32.ofInt r4)] hM rfl rfl rfl rfl rfl (xM_52 _) rfl (z_rcv2 rfl) rfl rfl (by omega) (w_52 (by omega) h3) rfl ?_
    refine g_istore 57 hM rfl rfl rfl ?_
    refine g_lconst 58 (0#64) hM rfl rfl rfl ?_
    refine g_lstore 60 hM rfl rfl rfl ?_
    refine g_iconst 61 hM rfl rfl ?_
    refine g_istore 63 hM rfl rfl rfl ?_
    obtain ⟨e5, h6, h⟩ := zo_some h
    refine g_lv [(0, .ref 17), (1, .int (Int32.ofInt v1)), (2, .int (Int32.ofInt (((gI (sI s 17 3 ((gI s 17 3) - 1)) 17 3) - 1) * 125))), (3, .int (Int32.ofInt ((gI (sI s 17 3 ((gI s 17 3) - 1)) 17 3) * 125))), (4, .int (Int32.ofInt r4)), (5, .long (Int64.ofBitVec (0#64))), (7, .int (Int32.ofInt 0))] rfl ⟨rfl, rfl, rfl, rfl, rfl, rfl, rfl, trivial⟩ ?_
    refine wl_123_63 (by omega) h6 ?_
    show zgo k d 123 (138, [(0, .ref 17), (2, .int (Int32.ofInt (((gI (sI s 17 3 ((gI s 17 3) - 1)) 17 3) - 1) * 125))), (5, .long (Int64.ofBitVec e5))], []) (hp (sI s 17 3 ((gI s 17 3) - 1)) ++ x) (.inl (none), hp q.2 ++ x)
    refine g_aload_n 139 hM rfl rfl rfl ?_
    refine g_getF 142 hM rfl rfl rfl rfl rfl ?_
    refine g_iload_n 143 hM rfl rfl rfl ?_
    refine g_lload 145 hM rfl rfl rfl ?_
    refine g_ldc2 148 (18446744073709551615#64) hM rfl rfl rfl (by decide) ?_
    refine g_lxor 149 hM rfl rfl ?_
    obtain ⟨hg7, h⟩ := zg_some h
    refine g_lastore 150 hM rfl rfl rfl rfl hg7 ?_
    refine g_aload_n 151 hM rfl rfl rfl ?_
    refine g_getF 154 hM rfl rfl rfl rfl rfl ?_
    refine g_aload_n 155 hM rfl rfl rfl ?_
    refine g_getI 158 3 (gI (sI s 17 3 ((gI s 17 3) - 1)) 17 3) hM rfl rfl rfl rfl rfl rfl rfl ?_
    refine g_iconst 159 hM rfl rfl ?_
    refine g_isub 160 hM rfl rfl ?_
    refine g_iconst 161 hM rfl rfl ?_
    refine g_iastore 162 hM rfl rfl rfl rfl hg2 ?_
    cases h
    exact g_ret hM rfl rfl
def G_124_90 (k : zK) (d : Nat) (x : am_H) (r : am_A × am_H) (v1 : Int) (v2 : Int) (v3 : Int) (v4 : Int) (v5 : Int) (e : (Int × zS)) : Prop := zgo k d 124 (90, [(0, .ref 17), (1, .int (Int32.ofInt v1)), (2, .int (Int32.ofInt v2)), (3, .int (Int32.ofInt v3)), (4, .int (Int32.ofInt v4)), (5, .int (Int32.ofInt v5)), (6, .int (Int32.ofInt e.1))], []) (hp e.2 ++ x) r
def K_124_90 (k : zK) (d : Nat) (x : am_H) (r : am_A × am_H) (v1 : Int) (v2 : Int) (v3 : Int) (v4 : Int) (v5 : Int) (t : (zS)) : Prop := zgo k d 124 (221, [(0, .ref 17), (2, .int (Int32.ofInt v2)), (4, .int (Int32.ofInt v4)), (5, .int (Int32.ofInt v5))], []) (hp t ++ x) r
def G_124_100 (k : zK) (d : Nat) (x : am_H) (r : am_A × am_H) (v1 : Int) (v2 : Int) (v3 : Int) (v4 : Int) (v5 : Int) (v6 : Int) (e : (Int × zS)) : Prop := zgo k d 124 (100, [(0, .ref 17), (1, .int (Int32.ofInt v1)), (2, .int (Int32.ofInt v2)), (3, .int (Int32.ofInt v3)), (4, .int (Int32.ofInt v4)), (5, .int (Int32.ofInt v5)), (6, .int (Int32.ofInt v6)), (7, .int (Int32.ofInt e.1))], []) (hp e.2 ++ x) r
def K_124_100 (k : zK) (d : Nat) (x : am_H) (r : am_A × am_H) (v1 : Int) (v2 : Int) (v3 : Int) (v4 : Int) (v5 : Int) (v6 : Int) (t : (zS)) : Prop := zgo k d 124 (127, [(0, .ref 17), (1, .int (Int32.ofInt v1)), (2, .int (Int32.ofInt v2)), (3, .int (Int32.ofInt v3)), (4, .int (Int32.ofInt v4)), (5, .int (Int32.ofInt v5)), (6, .int (Int32.ofInt v6))], []) (hp t ++ x) r
def b_124_100 (v1 : Int) (v2 : Int) (v3 : Int) (v4 : Int) (v5 : Int) (v6 : Int) (v7 : Int) (s : zS) : Option ((Int × zS) ⊕ (zS)) := zg (zR v7) (zg (zR v5) (if v7 < v5 then (zg (0 ≤ ((v6 * v5) + v7) ∧ ((v6 * v5) + v7) < 125) (some (.inl ((v7 + 1), (sJ s 21 ((v6 * v5) + v7) (0#64)))))) else (some (.inr s))))
theorem wb_124_100 {k : zK} {d : Nat} {x : am_H} {r : am_A × am_H} {v1 : Int} {v2 : Int} {v3 : Int} {v4 : Int} {v5 : Int} {v6 : Int} {v7 : Int} {s : zS} {q : (Int × zS) ⊕ (zS)} (hd : 1 ≤ d) (h : b_124_100 v1 v2 v3 v4 v5 v6 v7 s = some q) (hK : Sum.elim (G_124_100 k d x r v1 v2 v3 v4 v5 v6) (K_124_100 k d x r v1 v2 v3 v4 v5 v6) q) : G_124_100 k d x r v1 v2 v3 v4 v5 v6 (v7, s) := by
  unfold b_124_100 at h
  have hM := xM_124 k.1
  show zgo k d 124 (100, [(0, .ref 17), (1, .int (Int32.ofInt v1)), (2, .int (Int32.ofInt v2)), (3, .int (Int32.ofInt v3)), (4, .int (Int32.ofInt v4)), (5, .int (Int32.ofInt v5)), (6, .int (Int32.ofInt v6)), (7, .int (Int32.ofInt v7))], []) (hp s ++ x) r
  refine g_iload 102 hM rfl rfl rfl ?_
  refine g_iload 104 hM rfl rfl rfl ?_
  obtain ⟨hg1, h⟩ := zg_some h
  obtain ⟨hg2, h⟩ := zg_some h
  by_cases hc3 : v7 < v5
  · rw [if_pos hc3] at h
    refine g_ic_ge_f 107 127 hM rfl rfl rfl hg1 hg2 hc3 ?_
    refine g_aload_n 108 hM rfl rfl rfl ?_
    refine g_getF 111 hM rfl rfl rfl rfl rfl ?_
    refine g_iload 113 hM rfl rfl rfl ?_
    refine g_iload 115 hM rfl rfl rfl ?_
    refine g_imul 116 hM rfl rfl ?_
    refine g_iload 118 hM rfl rfl rfl ?_
    refine g_iadd 119 hM rfl rfl ?_
    refine g_lconst 120 (0#64) hM rfl rfl rfl ?_
    obtain ⟨hg4, h⟩ := zg_some h
    refine g_lastore 121 hM rfl rfl rfl rfl hg4 ?_
    refine g_iinc 124 hM rfl rfl rfl rfl ?_
    refine g_goto 100 hM rfl rfl ?_
    cases h
    exact g_lv [(0, .ref 17), (1, .int (Int32.ofInt v1)), (2, .int (Int32.ofInt v2)), (3, .int (Int32.ofInt v3)), (4, .int (Int32.ofInt v4)), (5, .int (Int32.ofInt v5)), (6, .int (Int32.ofInt v6)), (7, .int (Int32.ofInt (v7 + 1)))] rfl ⟨rfl, rfl, rfl, rfl, rfl, rfl, rfl, rfl, trivial⟩ hK
  · rw [if_neg hc3] at h
    refine g_ic_ge_t 127 hM rfl rfl hg1 hg2 hc3 ?_
    cases h
    exact g_lv [(0, .ref 17), (1, .int (Int32.ofInt v1)), (2, .int (Int32.ofInt v2)), (3, .int (Int32.ofInt v3)), (4, .int (Int32.ofInt v4)), (5, .int (Int32.ofInt v5)), (6, .int (Int32.ofInt v6))] rfl ⟨rfl, rfl, rfl, rfl, rfl, rfl, rfl, trivial⟩ hK
theorem wl_124_100 {k : zK} {d : Nat} {x : am_H} {r : am_A × am_H} {v1 : Int} {v2 : Int} {v3 : Int} {v4 : Int} {v5 : Int} {v6 : Int} {n : Nat} {e : (Int × zS)} {t : (zS)} (hd : 1 ≤ d) (h : zlp (fun (q : Int × zS) => b_124_100 v1 v2 v3 v4 v5 v6 q.1 q.2) n e = some t) (hK : K_124_100 k d x r v1 v2 v3 v4 v5 v6 t) : G_124_100 k d x r v1 v2 v3 v4 v5 v6 e := zlp_go (G := fun e => G_124_100 k d x r v1 v2 v3 v4 v5 v6 e) (K := K_124_100 k d x r v1 v2 v3 v4 v5 v6) (fun e e1 h1 hg => wb_124_100 (q := .inl e1) hd h1 hg) (fun e t1 h1 hk => wb_124_100 (q := .inr t1) hd h1 hk) n e t h hK
def G_124_130 (k : zK) (d : Nat) (x : am_H) (r : am_A × am_H) (v1 : Int) (v2 : Int) (v3 : Int) (v4 : Int) (v5 : Int) (v6 : Int) (e : (Int × zS)) : Prop := zgo k d 124 (130, [(0, .ref 17), (1, .int (Int32.ofInt v1)), (2, .int (Int32.ofInt v2)), (3, .int (Int32.ofInt v3)), (4, .int (Int32.ofInt v4)), (5, .int (Int32.ofInt v5)), (6, .int (Int32.ofInt v6)), (7, .int (Int32.ofInt e.1))], []) (hp e.2 ++ x) r
def K_124_130 (k : zK) (d : Nat) (x : am_H) (r : am_A × am_H) (v1 : Int) (v2 : Int) (v3 : Int) (v4 : Int) (v5 : Int) (v6 : Int) (t : (zS)) : Prop := zgo k d 124 (215, [(0, .ref 17), (1, .int (Int32.ofInt v1)), (2, .int (Int32.ofInt v2)), (3, .int (Int32.ofInt v3)), (4, .int (Int32.ofInt v4)), (5, .int (Int32.ofInt v5)), (6, .int (Int32.ofInt v6))], []) (hp t ++ x) r
def G_124_155 (k : zK) (d : Nat) (x : am_H) (r : am_A × am_H) (v1 : Int) (v2 : Int) (v3 : Int) (v4 : Int) (v5 : Int) (v6 : Int) (v7 : Int) (w8 : BitVec 64) (e : (Int × zS)) : Prop := zgo k d 124 (155, [(0, .ref 17), (1, .int (Int32.ofInt v1)), (2, .int (Int32.ofInt v2)), (3, .int (Int32.ofInt v3)), (4, .int (Int32.ofInt v4)), (5, .int (Int32.ofInt v5)), (6, .int (Int32.ofInt v6)), (7, .int (Int32.ofInt v7)), (8, .long (Int64.ofBitVec w8)), (10, .int (Int32.ofInt e.1))], []) (hp e.2 ++ x) r
def K_124_155 (k : zK) (d : Nat) (x : am_H) (r : am_A × am_H) (v1 : Int) (v2 : Int) (v3 : Int) (v4 : Int) (v5 : Int) (v6 : Int) (v7 : Int) (w8 : BitVec 64) (t : (zS)) : Prop := zgo k d 124 (209, [(0, .ref 17), (1, .int (Int32.ofInt v1)), (2, .int (Int32.ofInt v2)), (3, .int (Int32.ofInt v3)), (4, .int (Int32.ofInt v4)), (5, .int (Int32.ofInt v5)), (6, .int (Int32.ofInt v6)), (7, .int (Int32.ofInt v7))], []) (hp t ++ x) r
def b_124_155 (v1 : Int) (v2 : Int) (v3 : Int) (v4 : Int) (v5 : Int) (v6 : Int) (v7 : Int) (w8 : BitVec 64) (v10 : Int) (s : zS) : Option ((Int × zS) ⊕ (zS)) := zg (zR v10) (zg (zR v5) (if v10 < v5 then (if w8 = (0#64) then (some (.inr s)) else (zg (0 ≤ ((v6 * v5) + v10) ∧ ((v6 * v5) + v10) < 125) (zg (0 ≤ ((v3 + (v7 * v5)) + v10) ∧ ((v3 + (v7 * v5)) + v10) < 2750) (some (.inl ((v10 + 1), (sJ s 21 ((v6 * v5) + v10) ((gJ s 21 ((v6 * v5) + v10)) ||| (w8 &&& (gJ s 18 ((v3 + (v7 * v5)) + v10))))))))))) else (some (.inr s))))
theorem wb_124_155 {k : zK} {d : Nat} {x : am_H} {r : am_A × am_H} {v1 : Int} {v2 : Int} {v3 : Int} {v4 : Int} {v5 : Int} {v6 : Int} {v7 : Int} {w8 : BitVec 64} {v10 : Int} {s : zS} {q : (Int × zS) ⊕ (zS)} (hd : 1 ≤ d) (h : b_124_155 v1 v2 v3 v4 v5 v6 v7 w8 v10 s = some q) (hK : Sum.elim (G_124_155 k d x r v1 v2 v3 v4 v5 v6 v7 w8) (K_124_155 k d x r v1 v2 v3 v4 v5 v6 v7 w8) q) : G_124_155 k d x r v1 v2 v3 v4 v5 v6 v7 w8 (v10, s) := by
  unfold b_124_155 at h
  have hM := xM_124 k.1
  show zgo k d 124 (155, [(0, .ref 17), (1, .int (Int32.ofInt v1)), (2, .int (Int32.ofInt v2)), (3, .int (Int32.ofInt v3)), (4, .int (Int32.ofInt v4)), (5, .int (Int32.ofInt v5)), (6, .int (Int32.ofInt v6)), (7, .int (Int32.ofInt v7)), (8, .long (Int64.ofBitVec w8)), (10, .int (Int32.ofInt v10))], []) (hp s ++ x) r
  refine g_iload 157 hM rfl rfl rfl ?_
  refine g_iload 159 hM rfl rfl rfl ?_
  obtain ⟨hg1, h⟩ := zg_some h
  obtain ⟨hg2, h⟩ := zg_some h
  by_cases hc3 : v10 < v5
  · rw [if_pos hc3] at h
    refine g_ic_ge_f 162 209 hM rfl rfl rfl hg1 hg2 hc3 ?_
    refine g_lload 164 hM rfl rfl rfl ?_
    refine g_lconst 165 (0#64) hM rfl rfl rfl ?_
    by_cases hc4 : w8 = (0#64)
    · rw [if_pos hc4] at h
      refine g_lc_eq_t 166 209 hM rfl rfl rfl rfl hc4 ?_
      cases h
      exact g_lv [(0, .ref 17), (1, .int (Int32.ofInt v1)), (2, .int (Int32.ofInt v2)), (3, .int (Int32.ofInt v3)), (4, .int (Int32.ofInt v4)), (5, .int (Int32.ofInt v5)), (6, .int (Int32.ofInt v6)), (7, .int (Int32.ofInt v7))] rfl ⟨rfl, rfl, rfl, rfl, rfl, rfl, rfl, rfl, trivial⟩ hK
    · rw [if_neg hc4] at h
      refine g_lc_eq_f 166 169 209 hM rfl rfl rfl rfl rfl hc4 ?_
      refine g_aload_n 170 hM rfl rfl rfl ?_
      refine g_getF 173 hM rfl rfl rfl rfl rfl ?_
      refine g_iload 175 hM rfl rfl rfl ?_
      refine g_iload 177 hM rfl rfl rfl ?_
      refine g_imul 178 hM rfl rfl ?_
      refine g_iload 180 hM rfl rfl rfl ?_
      refine g_iadd 181 hM rfl rfl ?_
      refine g_dup2 182 hM rfl rfl rfl rfl ?_
      obtain ⟨hg5, h⟩ := zg_some h
      refine g_laload 183 (gJ s 21 ((v6 * v5) + v10)) hM rfl rfl rfl rfl hg5 rfl ?_
      refine g_lload 185 hM rfl rfl rfl ?_
      refine g_aload_n 186 hM rfl rfl rfl ?_
      refine g_getF 189 hM rfl rfl rfl rfl rfl ?_
      refine g_iload_n 190 hM rfl rfl rfl ?_
      refine g_iload 192 hM rfl rfl rfl ?_
      refine g_iload 194 hM rfl rfl rfl ?_
      refine g_imul 195 hM rfl rfl ?_
      refine g_iadd 196 hM rfl rfl ?_
      refine g_iload 198 hM rfl rfl rfl ?_
      refine g_iadd 199 hM rfl rfl ?_
      obtain ⟨hg6, h⟩ := zg_some h
      refine g_laload 200 (gJ s 18 ((v3 + (v7 * v5)) + v10)) hM rfl rfl rfl rfl hg6 rfl ?_
      refine g_land 201 hM rfl rfl ?_
      refine g_lor 202 hM rfl rfl ?_
      refine g_lastore 203 hM rfl rfl rfl rfl hg5 ?_
      refine g_iinc 206 hM rfl rfl rfl rfl ?_
      refine g_goto 155 hM rfl rfl ?_
      cases h
      exact g_lv [(0, .ref 17), (1, .int (Int32.ofInt v1)), (2, .int (Int32.ofInt v2)), (3, .int (Int32.ofInt v3)), (4, .int (Int32.ofInt v4)), (5, .int (Int32.ofInt v5)), (6, .int (Int32.ofInt v6)), (7, .int (Int32.ofInt v7)), (8, .long (Int64.ofBitVec w8)), (10, .int (Int32.ofInt (v10 + 1)))] rfl ⟨rfl, rfl, rfl, rfl, rfl, rfl, rfl, rfl, rfl, rfl, trivial⟩ hK
  · rw [if_neg hc3] at h
    refine g_ic_ge_t 209 hM rfl rfl hg1 hg2 hc3 ?_
    cases h
    exact g_lv [(0, .ref 17), (1, .int (Int32.ofInt v1)), (2, .int (Int32.ofInt v2)), (3, .int (Int32.ofInt v3)), (4, .int (Int32.ofInt v4)), (5, .int (Int32.ofInt v5)), (6, .int (Int32.ofInt v6)), (7, .int (Int32.ofInt v7))] rfl ⟨rfl, rfl, rfl, rfl, rfl, rfl, rfl, rfl, trivial⟩ hK
theorem wl_124_155 {k : zK} {d : Nat} {x : am_H} {r : am_A × am_H} {v1 : Int} {v2 : Int} {v3 : Int} {v4 : Int} {v5 : Int} {v6 : Int} {v7 : Int} {w8 : BitVec 64} {n : Nat} {e : (Int × zS)} {t : (zS)} (hd : 1 ≤ d) (h : zlp (fun (q : Int × zS) => b_124_155 v1 v2 v3 v4 v5 v6 v7 w8 q.1 q.2) n e = some t) (hK : K_124_155 k d x r v1 v2 v3 v4 v5 v6 v7 w8 t) : G_124_155 k d x r v1 v2 v3 v4 v5 v6 v7 w8 e := zlp_go (G := fun e => G_124_155 k d x r v1 v2 v3 v4 v5 v6 v7 w8 e) (K := K_124_155 k d x r v1 v2 v3 v4 v5 v6 v7 w8) (fun e e1 h1 hg => wb_124_155 (q := .inl e1) hd h1 hg) (fun e t1 h1 hk => wb_124_155 (q := .inr t1) hd h1 hk) n e t h hK
def b_124_130 (v1 : Int) (v2 : Int) (v3 : Int) (v4 : Int) (v5 : Int) (v6 : Int) (v7 : Int) (s : zS) : Option ((Int × zS) ⊕ (zS)) := zg (zR v7) (zg (zR v1) (if v7 < v1 then (zg (0 ≤ ((v2 + (v6 * v1)) + v7) ∧ ((v2 + (v6 * v1)) + v7) < 2750) (zo (zlp (fun (q : Int × zS) => b_124_155 v1 v2 v3 v4 v5 v6 v7 (gJ s 18 ((v2 + (v6 * v1)) + v7)) q.1 q.2) zF (0, s)) (fun e5 => some (.inl ((v7 + 1), e5))))) else (some (.inr s))))
theorem wb_124_130 {k : zK} {d : Nat} {x : am_H} {r : am_A × am_H} {v1 : Int} {v2 : Int} {v3 : Int} {v4 : Int} {v5 : Int} {v6 : Int} {v7 : Int} {s : zS} {q : (Int × zS) ⊕ (zS)} (hd : 1 ≤ d) (h : b_124_130 v1 v2 v3 v4 v5 v6 v7 s = some q) (hK : Sum.elim (G_124_130 k d x r v1 v2 v3 v4 v5 v6) (K_124_130 k d x r v1 v2 v3 v4 v5 v6) q) : G_124_130 k d x r v1 v2 v3 v4 v5 v6 (v7, s) := by
  unfold b_124_130 at h
  have hM := xM_124 k.1
  show zgo k d 124 (130, [(0, .ref 17), (1, .int (Int32.ofInt v1)), (2, .int (Int32.ofInt v2)), (3, .int (Int32.ofInt v3)), (4, .int (Int32.ofInt v4)), (5, .int (Int32.ofInt v5)), (6, .int (Int32.ofInt v6)), (7, .int (Int32.ofInt v7))], []) (hp s ++ x) r
  refine g_iload 132 hM rfl rfl rfl ?_
  refine g_iload_n 133 hM rfl rfl rfl ?_
  obtain ⟨hg1, h⟩ := zg_some h
  obtain ⟨hg2, h⟩ := zg_some h
  by_cases hc3 : v7 < v1
  · rw [if_pos hc3] at h
    refine g_ic_ge_f 136 215 hM rfl rfl rfl hg1 hg2 hc3 ?_
    refine g_aload_n 137 hM rfl rfl rfl ?_
    refine g_getF 140 hM rfl rfl rfl rfl rfl ?_
    refine g_iload_n 141 hM rfl rfl rfl ?_
    refine g_iload 143 hM rfl rfl rfl ?_
    refine g_iload_n 144 hM rfl rfl rfl ?_
    refine g_imul 145 hM rfl rfl ?_
    refine g_iadd 146 hM rfl rfl ?_
    refine g_iload 148 hM rfl rfl rfl ?_
    refine g_iadd 149 hM rfl rfl ?_
    obtain ⟨hg4, h⟩ := zg_some h
    refine g_laload 150 (gJ s 18 ((v2 + (v6 * v1)) + v7)) hM rfl rfl rfl rfl hg4 rfl ?_
    refine g_lstore 152 hM rfl rfl rfl ?_
    refine g_iconst 153 hM rfl rfl ?_
    refine g_istore 155 hM rfl rfl rfl ?_
    obtain ⟨e5, h6, h⟩ := zo_some h
    refine g_lv [(0, .ref 17), (1, .int (Int32.ofInt v1)), (2, .int (Int32.ofInt v2)), (3, .int (Int32.ofInt v3)), (4, .int (Int32.ofInt v4)), (5, .int (Int32.ofInt v5)), (6, .int (Int32.ofInt v6)), (7, .int (Int32.ofInt v7)), (8, .long (Int64.ofBitVec (gJ s 18 ((v2 + (v6 * v1)) + v7)))), (10, .int (Int32.ofInt 0))] rfl ⟨rfl, rfl, rfl, rfl, rfl, rfl, rfl, rfl, rfl, rfl, trivial⟩ ?_
    refine wl_124_155 (by omega) h6 ?_
    show zgo k d 124 (209, [(0, .ref 17), (1, .int (Int32.ofInt v1)), (2, .int (Int32.ofInt v2)), (3, .int (Int32.ofInt v3)), (4, .int (Int32.ofInt v4)), (5, .int (Int32.ofInt v5)), (6, .int (Int32.ofInt v6)), (7, .int (Int32.ofInt v7))], []) (hp e5 ++ x) r
    refine g_iinc 212 hM rfl rfl rfl rfl ?_
    refine g_goto 130 hM rfl rfl ?_
    cases h
    exact g_lv [(0, .ref 17), (1, .int (Int32.ofInt v1)), (2, .int (Int32.ofInt v2)), (3, .int (Int32.ofInt v3)), (4, .int (Int32.ofInt v4)), (5, .int (Int32.ofInt v5)), (6, .int (Int32.ofInt v6)), (7, .int (Int32.ofInt (v7 + 1)))] rfl ⟨rfl, rfl, rfl, rfl, rfl, rfl, rfl, rfl, trivial⟩ hK
  · rw [if_neg hc3] at h
    refine g_ic_ge_t 215 hM rfl rfl hg1 hg2 hc3 ?_
    cases h
    exact g_lv [(0, .ref 17), (1, .int (Int32.ofInt v1)), (2, .int (Int32.ofInt v2)), (3, .int (Int32.ofInt v3)), (4, .int (Int32.ofInt v4)), (5, .int (Int32.ofInt v5)), (6, .int (Int32.ofInt v6))] rfl ⟨rfl, rfl, rfl, rfl, rfl, rfl, rfl, trivial⟩ hK
theorem wl_124_130 {k : zK} {d : Nat} {x : am_H} {r : am_A × am_H} {v1 : Int} {v2 : Int} {v3 : Int} {v4 : Int} {v5 : Int} {v6 : Int} {n : Nat} {e : (Int × zS)} {t : (zS)} (hd : 1 ≤ d) (h : zlp (fun (q : Int × zS) => b_124_130 v1 v2 v3 v4 v5 v6 q.1 q.2) n e = some t) (hK : K_124_130 k d x r v1 v2 v3 v4 v5 v6 t) : G_124_130 k d x r v1 v2 v3 v4 v5 v6 e := zlp_go (G := fun e => G_124_130 k d x r v1 v2 v3 v4 v5 v6 e) (K := K_124_130 k d x r v1 v2 v3 v4 v5 v6) (fun e e1 h1 hg => wb_124_130 (q := .inl e1) hd h1 hg) (fun e t1 h1 hk => wb_124_130 (q := .inr t1) hd h1 hk) n e t h hK
def b_124_90 (v1 : Int) (v2 : Int) (v3 : Int) (v4 : Int) (v5 : Int) (v6 : Int) (s : zS) : Option ((Int × zS) ⊕ (zS)) := zg (zR v6) (zg (zR v4) (if v6 < v4 then (zo (zlp (fun (q : Int × zS) => b_124_100 v1 v2 v3 v4 v5 v6 q.1 q.2) zF (0, s)) (fun e4 => zo (zlp (fun (q : Int × zS) => b_124_130 v1 v2 v3 v4 v5 v6 q.1 q.2) zF (0, e4)) (fun e6 => some (.inl ((v6 + 1), e6))))) else (some (.inr s))))
theorem wb_124_90 {k : zK} {d : Nat} {x : am_H} {r : am_A × am_H} {v1 : Int} {v2 : Int} {v3 : Int} {v4 : Int} {v5 : Int} {v6 : Int} {s : zS} {q : (Int × zS) ⊕ (zS)} (hd : 1 ≤ d) (h : b_124_90 v1 v2 v3 v4 v5 v6 s = some q) (hK : Sum.elim (G_124_90 k d x r v1 v2 v3 v4 v5) (K_124_90 k d x r v1 v2 v3 v4 v5) q) : G_124_90 k d x r v1 v2 v3 v4 v5 (v6, s) := by
  unfold b_124_90 at h
  have hM := xM_124 k.1
  show zgo k d 124 (90, [(0, .ref 17), (1, .int (Int32.ofInt v1)), (2, .int (Int32.ofInt v2)), (3, .int (Int32.ofInt v3)), (4, .int (Int32.ofInt v4)), (5, .int (Int32.ofInt v5)), (6, .int (Int32.ofInt v6))], []) (hp s ++ x) r
  refine g_iload 92 hM rfl rfl rfl ?_
  refine g_iload 94 hM rfl rfl rfl ?_
  obtain ⟨hg1, h⟩ := zg_some h
  obtain ⟨hg2, h⟩ := zg_some h
  by_cases hc3 : v6 < v4
  · rw [if_pos hc3] at h
    refine g_ic_ge_f 97 221 hM rfl rfl rfl hg1 hg2 hc3 ?_
    refine g_iconst 98 hM rfl rfl ?_
    refine g_istore 100 hM rfl rfl rfl ?_
    obtain ⟨e4, h5, h⟩ := zo_some h
    refine g_lv [(0, .ref 17), (1, .int (Int32.ofInt v1)), (2, .int (Int32.ofInt v2)), (3, .int (Int32.ofInt v3)), (4, .int (Int32.ofInt v4)), (5, .int (Int32.ofInt v5)), (6, .int (Int32.ofInt v6)), (7, .int (Int32.ofInt 0))] rfl ⟨rfl, rfl, rfl, rfl, rfl, rfl, rfl, rfl, trivial⟩ ?_
    refine wl_124_100 (by omega) h5 ?_
    show zgo k d 124 (127, [(0, .ref 17), (1, .int (Int32.ofInt v1)), (2, .int (Int32.ofInt v2)), (3, .int (Int32.ofInt v3)), (4, .int (Int32.ofInt v4)), (5, .int (Int32.ofInt v5)), (6, .int (Int32.ofInt v6))], []) (hp e4 ++ x) r
    refine g_iconst 128 hM rfl rfl ?_
    refine g_istore 130 hM rfl rfl rfl ?_
    obtain ⟨e6, h7, h⟩ := zo_some h
    refine g_lv [(0, .ref 17), (1, .int (Int32.ofInt v1)), (2, .int (Int32.ofInt v2)), (3, .int (Int32.ofInt v3)), (4, .int (Int32.ofInt v4)), (5, .int (Int32.ofInt v5)), (6, .int (Int32.ofInt v6)), (7, .int (Int32.ofInt 0))] rfl ⟨rfl, rfl, rfl, rfl, rfl, rfl, rfl, rfl, trivial⟩ ?_
    refine wl_124_130 (by omega) h7 ?_
    show zgo k d 124 (215, [(0, .ref 17), (1, .int (Int32.ofInt v1)), (2, .int (Int32.ofInt v2)), (3, .int (Int32.ofInt v3)), (4, .int (Int32.ofInt v4)), (5, .int (Int32.ofInt v5)), (6, .int (Int32.ofInt v6))], []) (hp e6 ++ x) r
    refine g_iinc 218 hM rfl rfl rfl rfl ?_
    refine g_goto 90 hM rfl rfl ?_
    cases h
    exact g_lv [(0, .ref 17), (1, .int (Int32.ofInt v1)), (2, .int (Int32.ofInt v2)), (3, .int (Int32.ofInt v3)), (4, .int (Int32.ofInt v4)), (5, .int (Int32.ofInt v5)), (6, .int (Int32.ofInt (v6 + 1)))] rfl ⟨rfl, rfl, rfl, rfl, rfl, rfl, rfl, trivial⟩ hK
  · rw [if_neg hc3] at h
    refine g_ic_ge_t 221 hM rfl rfl hg1 hg2 hc3 ?_
    cases h
    exact g_lv [(0, .ref 17), (2, .int (Int32.ofInt v2)), (4, .int (Int32.ofInt v4)), (5, .int (Int32.ofInt v5))] rfl ⟨rfl, rfl, rfl, rfl, trivial⟩ hK
theorem wl_124_90 {k : zK} {d : Nat} {x : am_H} {r : am_A × am_H} {v1 : Int} {v2 : Int} {v3 : Int} {v4 : Int} {v5 : Int} {n : Nat} {e : (Int × zS)} {t : (zS)} (hd : 1 ≤ d) (h : zlp (fun (q : Int × zS) => b_124_90 v1 v2 v3 v4 v5 q.1 q.2) n e = some t) (hK : K_124_90 k d x r v1 v2 v3 v4 v5 t) : G_124_90 k d x r v1 v2 v3 v4 v5 e := zlp_go (G := fun e => G_124_90 k d x r v1 v2 v3 v4 v5 e) (K := K_124_90 k d x r v1 v2 v3 v4 v5) (fun e e1 h1 hg => wb_124_90 (q := .inl e1) hd h1 hg) (fun e t1 h1 hk => wb_124_90 (q := .inr t1) hd h1 hk) n e t h hK
/-- RelationFinder$Machine.join()V -/
def f_124 (s : zS) : Option (Unit × zS) := if (gI s 17 3) < 2 then (some ((), s)) else (zg (0 ≤ ((gI (sI s 17 3 ((gI s 17 3) - 1)) 17 3) - 1) ∧ ((gI (sI s 17 3 ((gI s 17 3) - 1)) 17 3) - 1) < 22) (zo (f_52 ((gI s 19 ((gI (sI s 17 3 ((gI s 17 3) - 1)) 17 3) - 1)) - 1) (sI s 17 3 ((gI s 17 3) - 1))) (fun r4 => zg (0 ≤ (gI (sI s 17 3 ((gI s 17 3) - 1)) 17 3) ∧ (gI (sI s 17 3 ((gI s 17 3) - 1)) 17 3) < 22) (zo (f_52 ((gI s 19 (gI (sI s 17 3 ((gI s 17 3) - 1)) 17 3)) - 1) (sI s 17 3 ((gI s 17 3) - 1))) (fun r7 => zo (zlp (fun (q : Int × zS) => b_124_90 (gI s 1 0) (((gI (sI s 17 3 ((gI s 17 3) - 1)) 17 3) - 1) * 125) ((gI (sI s 17 3 ((gI s 17 3) - 1)) 17 3) * 125) r4 r7 q.1 q.2) zF (0, (sI s 17 3 ((gI s 17 3) - 1)))) (fun e8 => zg ((0 : Int) ≤ 0 ∧ 0 ≤ (((gI (sI s 17 3 ((gI s 17 3) - 1)) 17 3) - 1) * 125) ∧ 0 ≤ (r4 * r7) ∧ 0 + (r4 * r7) ≤ 125 ∧ (((gI (sI s 17 3 ((gI s 17 3) - 1)) 17 3) - 1) * 125) + (r4 * r7) ≤ 2750) (zg (0 ≤ ((gI e8 17 3) - 1) ∧ ((gI e8 17 3) - 1) < 22) (zg (0 ≤ (gI e8 17 3) ∧ (gI e8 17 3) < 22) (some ((), (sI (zcp e8 21 0 18 (((gI (sI s 17 3 ((gI s 17 3) - 1)) 17 3) - 1) * 125) (r4 * r7)) 19 ((gI e8 17 3) - 1) ((gI e8 19 ((gI e8 17 3) - 1)) + ((gI e8 19 (gI e8 17 3)) - 2)))))))))))))
theorem w_124 {k : zK} {d : Nat} {x : am_H} {s : zS} {q : (Unit × zS)} (hd : 1 ≤ d) (h : f_124 s = some q) : zgo k d 124 (0, [(0, .ref 17)], []) (hp s ++ x) (.inl (none), hp q.2 ++ x) := by
  unfold f_124 at h
  have hM := xM_124 k.1
  refine g_aload_n 1 hM rfl rfl rfl ?_
  refine g_getI 4 3 (gI s 17 3) hM rfl rfl rfl rfl rfl rfl rfl ?_
  refine g_iconst 5 hM rfl rfl ?_
  by_cases hc1 : (gI s 17 3) < 2
  · rw [if_pos hc1] at h
    refine g_ic_ge_f 8 9 hM rfl rfl rfl (zR_gI _ _ _) (zR_lit rfl) hc1 ?_
    cases h
    exact g_ret hM rfl rfl
  · rw [if_neg hc1] at h
    refine g_ic_ge_t 9 hM rfl rfl (zR_gI _ _ _) (zR_lit rfl) hc1 ?_
    refine g_aload_n 10 hM rfl rfl rfl ?_
    refine g_dup 11 hM rfl rfl rfl ?_
    refine g_getI 14 3 (gI s 17 3) hM rfl rfl rfl rfl rfl rfl rfl ?_
    refine g_iconst 15 hM rfl rfl ?_
    refine g_isub 16 hM rfl rfl ?_
    refine g_putI 19 3 hM rfl rfl rfl rfl rfl rfl rfl ?_
    refine g_aload_n 20 hM rfl rfl rfl ?_
    refine g_getF 23 hM rfl rfl rfl rfl rfl ?_
    refine g_getI 26 0 (gI s 1 0) hM rfl rfl rfl rfl rfl rfl rfl ?_
    refine g_istore_n 27 hM rfl rfl rfl ?_
    refine g_aload_n 28 hM rfl rfl rfl ?_
    refine g_getI 31 3 (gI (sI s 17 3 ((gI s 17 3) - 1)) 17 3) hM rfl rfl rfl rfl rfl rfl rfl ?_
    refine g_iconst 32 hM rfl rfl ?_
    refine g_isub 33 hM rfl rfl ?_
    refine g_bipush 35 hM rfl rfl rfl ?_
    refine g_imul 36 hM rfl rfl ?_
    refine g_istore_n 37 hM rfl rfl rfl ?_
    refine g_aload_n 38 hM rfl rfl rfl ?_
    refine g_getI 41 3 (gI (sI s 17 3 ((gI s 17 3) - 1)) 17 3) hM rfl rfl rfl rfl rfl rfl rfl ?_
    refine g_bipush 43 hM rfl rfl rfl ?_
    refine g_imul 44 hM rfl rfl ?_
    refine g_istore_n 45 hM rfl rfl rfl ?_
    refine g_aload_n 46 hM rfl rfl rfl ?_
    refine g_getF 49 hM rfl rfl rfl rfl rfl ?_
    refine g_aload_n 50 hM rfl rfl rfl ?_
    refine g_getF 53 hM rfl rfl rfl rfl rfl ?_
    refine g_aload_n 54 hM rfl rfl rfl ?_
    refine g_getI 57 3 (gI (sI s 17 3 ((gI s 17 3) - 1)) 17 3) hM rfl rfl rfl rfl rfl rfl rfl ?_
    refine g_iconst 58 hM rfl rfl ?_
    refine g_isub 59 hM rfl rfl ?_
    obtain ⟨hg2, h⟩ := zg_some h
    refine g_iaload 60 (gI s 19 ((gI (sI s 17 3 ((gI s 17 3) - 1)) 17 3) - 1)) hM rfl rfl rfl rfl hg2 rfl ?_
    refine g_iconst 61 hM rfl rfl ?_
    refine g_isub 62 hM rfl rfl ?_
    obtain ⟨r4, h3, h⟩ := zo_some h
    refine g_call 65 _ [.int (Int32.ofInt r4)] hM rfl rfl rfl rfl rfl (xM_52 _) rfl (z_rcv2 rfl) rfl rfl (by omega) (w_52 (by omega) h3) rfl ?_
    refine g_istore 67 hM rfl rfl rfl ?_
    refine g_aload_n 68 hM rfl rfl rfl ?_
    refine g_getF 71 hM rfl rfl rfl rfl rfl ?_
    refine g_aload_n 72 hM rfl rfl rfl ?_
    refine g_getF 75 hM rfl rfl rfl rfl rfl ?_
    refine g_aload_n 76 hM rfl rfl rfl ?_
    refine g_getI 79 3 (gI (sI s 17 3 ((gI s 17 3) - 1)) 17 3) hM rfl rfl rfl rfl rfl rfl rfl ?_
    obtain ⟨hg5, h⟩ := zg_some h
    refine g_iaload 80 (gI s 19 (gI (sI s 17 3 ((gI s 17 3) - 1)) 17 3)) hM rfl rfl rfl rfl hg5 rfl ?_
    refine g_iconst 81 hM rfl rfl ?_
    refine g_isub 82 hM rfl rfl ?_
    obtain ⟨r7, h6, h⟩ := zo_some h
    refine g_call 85 _ [.int (Int32.ofInt r7)] hM rfl rfl rfl rfl rfl (xM_52 _) rfl (z_rcv2 rfl) rfl rfl (by omega) (w_52 (by omega) h6) rfl ?_
    refine g_istore 87 hM rfl rfl rfl ?_
    refine g_iconst 88 hM rfl rfl ?_
    refine g_istore 90 hM rfl rfl rfl ?_
    obtain ⟨e8, h9, h⟩ := zo_some h
    refine g_lv [(0, .ref 17), (1, .int (Int32.ofInt (gI s 1 0))), (2, .int (Int32.ofInt (((gI (sI s 17 3 ((gI s 17 3) - 1)) 17 3) - 1) * 125))), (3, .int (Int32.ofInt ((gI (sI s 17 3 ((gI s 17 3) - 1)) 17 3) * 125))), (4, .int (Int32.ofInt r4)), (5, .int (Int32.ofInt r7)), (6, .int (Int32.ofInt 0))] rfl ⟨rfl, rfl, rfl, rfl, rfl, rfl, rfl, trivial⟩ ?_
    refine wl_124_90 (by omega) h9 ?_
    show zgo k d 124 (221, [(0, .ref 17), (2, .int (Int32.ofInt (((gI (sI s 17 3 ((gI s 17 3) - 1)) 17 3) - 1) * 125))), (4, .int (Int32.ofInt r4)), (5, .int (Int32.ofInt r7))], []) (hp e8 ++ x) (.inl (none), hp q.2 ++ x)
    refine g_aload_n 222 hM rfl rfl rfl ?_
    refine g_getF 225 hM rfl rfl rfl rfl rfl ?_
    refine g_iconst 226 hM rfl rfl ?_
    refine g_aload_n 227 hM rfl rfl rfl ?_
    refine g_getF 230 hM rfl rfl rfl rfl rfl ?_
    refine g_iload_n 231 hM rfl rfl rfl ?_
    refine g_iload 233 hM rfl rfl rfl ?_
    refine g_iload 235 hM rfl rfl rfl ?_
    refine g_imul 236 hM rfl rfl ?_
    obtain ⟨hg10, h⟩ := zg_some h
    refine g_acopy 239 hM rfl (fun _ => rfl) rfl rfl rfl rfl rfl rfl rfl hg10 rfl (by omega) ?_
    refine g_aload_n 240 hM rfl rfl rfl ?_
    refine g_getF 243 hM rfl rfl rfl rfl rfl ?_
    refine g_aload_n 244 hM rfl rfl rfl ?_
    refine g_getI 247 3 (gI e8 17 3) hM rfl rfl rfl rfl rfl rfl rfl ?_
    refine g_iconst 248 hM rfl rfl ?_
    refine g_isub 249 hM rfl rfl ?_
    refine g_dup2 250 hM rfl rfl rfl rfl ?_
    obtain ⟨hg11, h⟩ := zg_some h
    refine g_iaload 251 (gI e8 19 ((gI e8 17 3) - 1)) hM rfl rfl rfl rfl hg11 rfl ?_
    refine g_aload_n 252 hM rfl rfl rfl ?_
    refine g_getF 255 hM rfl rfl rfl rfl rfl ?_
    refine g_aload_n 256 hM rfl rfl rfl ?_
    refine g_getI 259 3 (gI e8 17 3) hM rfl rfl rfl rfl rfl rfl rfl ?_
    obtain ⟨hg12, h⟩ := zg_some h
    refine g_iaload 260 (gI e8 19 (gI e8 17 3)) hM rfl rfl rfl rfl hg12 rfl ?_
    refine g_iconst 261 hM rfl rfl ?_
    refine g_isub 262 hM rfl rfl ?_
    refine g_iadd 263 hM rfl rfl ?_
    refine g_iastore 264 hM rfl rfl rfl rfl hg11 ?_
    cases h
    exact g_ret hM rfl rfl
def G_125_77 (k : zK) (d : Nat) (x : am_H) (r : am_A × am_H) (v1 : Int) (v2 : Int) (v3 : Int) (v4 : Int) (e : (Int × zS)) : Prop := zgo k d 125 (77, [(0, .ref 17), (1, .int (Int32.ofInt v1)), (2, .int (Int32.ofInt v2)), (3, .int (Int32.ofInt v3)), (4, .int (Int32.ofInt v4)), (5, .int (Int32.ofInt e.1))], []) (hp e.2 ++ x) r
def K_125_77 (k : zK) (d : Nat) (x : am_H) (r : am_A × am_H) (v1 : Int) (v2 : Int) (v3 : Int) (v4 : Int) (t : (zS)) : Prop := zgo k d 125 (137, [(0, .ref 17), (1, .int (Int32.ofInt v1)), (3, .int (Int32.ofInt v3)), (4, .int (Int32.ofInt v4))], []) (hp t ++ x) r
def G_125_86 (k : zK) (d : Nat) (x : am_H) (r : am_A × am_H) (v1 : Int) (v2 : Int) (v3 : Int) (v4 : Int) (v5 : Int) (e : (Int × zS)) : Prop := zgo k d 125 (86, [(0, .ref 17), (1, .int (Int32.ofInt v1)), (2, .int (Int32.ofInt v2)), (3, .int (Int32.ofInt v3)), (4, .int (Int32.ofInt v4)), (5, .int (Int32.ofInt v5)), (6, .int (Int32.ofInt e.1))], []) (hp e.2 ++ x) r
def K_125_86 (k : zK) (d : Nat) (x : am_H) (r : am_A × am_H) (v1 : Int) (v2 : Int) (v3 : Int) (v4 : Int) (v5 : Int) (t : (zS)) : Prop := zgo k d 125 (131, [(0, .ref 17), (1, .int (Int32.ofInt v1)), (2, .int (Int32.ofInt v2)), (3, .int (Int32.ofInt v3)), (4, .int (Int32.ofInt v4)), (5, .int (Int32.ofInt v5))], []) (hp t ++ x) r
def b_125_86 (v1 : Int) (v2 : Int) (v3 : Int) (v4 : Int) (v5 : Int) (v6 : Int) (s : zS) : Option ((Int × zS) ⊕ (zS)) := zg (zR v6) (zg (zR v4) (if v6 < v4 then (zg (0 ≤ (v1 + v5) ∧ (v1 + v5) < 2750) (zg (0 ≤ (v2 + v6) ∧ (v2 + v6) < 2750) (zg (0 ≤ ((v5 * v4) + v6) ∧ ((v5 * v4) + v6) < 125) (some (.inl ((v6 + 1), (sJ s 21 ((v5 * v4) + v6) ((gJ s 18 (v1 + v5)) &&& (gJ s 18 (v2 + v6)))))))))) else (some (.inr s))))
theorem wb_125_86 {k : zK} {d : Nat} {x : am_H} {r : am_A × am_H} {v1 : Int} {v2 : Int} {v3 : Int} {v4 : Int} {v5 : Int} {v6 : Int} {s : zS} {q : (Int × zS) ⊕ (zS)} (hd : 1 ≤ d) (h : b_125_86 v1 v2 v3 v4 v5 v6 s = some q) (hK : Sum.elim (G_125_86 k d x r v1 v2 v3 v4 v5) (K_125_86 k d x r v1 v2 v3 v4 v5) q) : G_125_86 k d x r v1 v2 v3 v4 v5 (v6, s) := by
  unfold b_125_86 at h
  have hM := xM_125 k.1
  show zgo k d 125 (86, [(0, .ref 17), (1, .int (Int32.ofInt v1)), (2, .int (Int32.ofInt v2)), (3, .int (Int32.ofInt v3)), (4, .int (Int32.ofInt v4)), (5, .int (Int32.ofInt v5)), (6, .int (Int32.ofInt v6))], []) (hp s ++ x) r
  refine g_iload 88 hM rfl rfl rfl ?_
  refine g_iload 90 hM rfl rfl rfl ?_
  obtain ⟨hg1, h⟩ := zg_some h
  obtain ⟨hg2, h⟩ := zg_some h
  by_cases hc3 : v6 < v4
  · rw [if_pos hc3] at h
    refine g_ic_ge_f 93 131 hM rfl rfl rfl hg1 hg2 hc3 ?_
    refine g_aload_n 94 hM rfl rfl rfl ?_
    refine g_getF 97 hM rfl rfl rfl rfl rfl ?_
    refine g_iload 99 hM rfl rfl rfl ?_
    refine g_iload 101 hM rfl rfl rfl ?_
    refine g_imul 102 hM rfl rfl ?_
    refine g_iload 104 hM rfl rfl rfl ?_
    refine g_iadd 105 hM rfl rfl ?_
    refine g_aload_n 106 hM rfl rfl rfl ?_
    refine g_getF 109 hM rfl rfl rfl rfl rfl ?_
    refine g_iload_n 110 hM rfl rfl rfl ?_
    refine g_iload 112 hM rfl rfl rfl ?_
    refine g_iadd 113 hM rfl rfl ?_
    obtain ⟨hg4, h⟩ := zg_some h
    refine g_laload 114 (gJ s 18 (v1 + v5)) hM rfl rfl rfl rfl hg4 rfl ?_
    refine g_aload_n 115 hM rfl rfl rfl ?_
    refine g_getF 118 hM rfl rfl rfl rfl rfl ?_
    refine g_iload_n 119 hM rfl rfl rfl ?_
    refine g_iload 121 hM rfl rfl rfl ?_
    refine g_iadd 122 hM rfl rfl ?_
    obtain ⟨hg5, h⟩ := zg_some h
    refine g_laload 123 (gJ s 18 (v2 + v6)) hM rfl rfl rfl rfl hg5 rfl ?_
    refine g_land 124 hM rfl rfl ?_
    obtain ⟨hg6, h⟩ := zg_some h
    refine g_lastore 125 hM rfl rfl rfl rfl hg6 ?_
    refine g_iinc 128 hM rfl rfl rfl rfl ?_
    refine g_goto 86 hM rfl rfl ?_
    cases h
    exact g_lv [(0, .ref 17), (1, .int (Int32.ofInt v1)), (2, .int (Int32.ofInt v2)), (3, .int (Int32.ofInt v3)), (4, .int (Int32.ofInt v4)), (5, .int (Int32.ofInt v5)), (6, .int (Int32.ofInt (v6 + 1)))] rfl ⟨rfl, rfl, rfl, rfl, rfl, rfl, rfl, trivial⟩ hK
  · rw [if_neg hc3] at h
    refine g_ic_ge_t 131 hM rfl rfl hg1 hg2 hc3 ?_
    cases h
    exact g_lv [(0, .ref 17), (1, .int (Int32.ofInt v1)), (2, .int (Int32.ofInt v2)), (3, .int (Int32.ofInt v3)), (4, .int (Int32.ofInt v4)), (5, .int (Int32.ofInt v5))] rfl ⟨rfl, rfl, rfl, rfl, rfl, rfl, trivial⟩ hK
theorem wl_125_86 {k : zK} {d : Nat} {x : am_H} {r : am_A × am_H} {v1 : Int} {v2 : Int} {v3 : Int} {v4 : Int} {v5 : Int} {n : Nat} {e : (Int × zS)} {t : (zS)} (hd : 1 ≤ d) (h : zlp (fun (q : Int × zS) => b_125_86 v1 v2 v3 v4 v5 q.1 q.2) n e = some t) (hK : K_125_86 k d x r v1 v2 v3 v4 v5 t) : G_125_86 k d x r v1 v2 v3 v4 v5 e := zlp_go (G := fun e => G_125_86 k d x r v1 v2 v3 v4 v5 e) (K := K_125_86 k d x r v1 v2 v3 v4 v5) (fun e e1 h1 hg => wb_125_86 (q := .inl e1) hd h1 hg) (fun e t1 h1 hk => wb_125_86 (q := .inr t1) hd h1 hk) n e t h hK
def b_125_77 (v1 : Int) (v2 : Int) (v3 : Int) (v4 : Int) (v5 : Int) (s : zS) : Option ((Int × zS) ⊕ (zS)) := zg (zR v5) (zg (zR v3) (if v5 < v3 then (zo (zlp (fun (q : Int × zS) => b_125_86 v1 v2 v3 v4 v5 q.1 q.2) zF (0, s)) (fun e4 => some (.inl ((v5 + 1), e4)))) else (some (.inr s))))
theorem wb_125_77 {k : zK} {d : Nat} {x : am_H} {r : am_A × am_H} {v1 : Int} {v2 : Int} {v3 : Int} {v4 : Int} {v5 : Int} {s : zS} {q : (Int × zS) ⊕ (zS)} (hd : 1 ≤ d) (h : b_125_77 v1 v2 v3 v4 v5 s = some q) (hK : Sum.elim (G_125_77 k d x r v1 v2 v3 v4) (K_125_77 k d x r v1 v2 v3 v4) q) : G_125_77 k d x r v1 v2 v3 v4 (v5, s) := by
  unfold b_125_77 at h
  have hM := xM_125 k.1
  show zgo k d 125 (77, [(0, .ref 17), (1, .int (Int32.ofInt v1)), (2, .int (Int32.ofInt v2)), (3, .int (Int32.ofInt v3)), (4, .int (Int32.ofInt v4)), (5, .int (Int32.ofInt v5))], []) (hp s ++ x) r
  refine g_iload 79 hM rfl rfl rfl ?_
  refine g_iload_n 80 hM rfl rfl rfl ?_
  obtain ⟨hg1, h⟩ := zg_some h
  obtain ⟨hg2, h⟩ := zg_some h
  by_cases hc3 : v5 < v3
  · rw [if_pos hc3] at h
    refine g_ic_ge_f 83 137 hM rfl rfl rfl hg1 hg2 hc3 ?_
    refine g_iconst 84 hM rfl rfl ?_
    refine g_istore 86 hM rfl rfl rfl ?_
    obtain ⟨e4, h5, h⟩ := zo_some h
    refine g_lv [(0, .ref 17), (1, .int (Int32.ofInt v1)), (2, .int (Int32.ofInt v2)), (3, .int (Int32.ofInt v3)), (4, .int (Int32.ofInt v4)), (5, .int (Int32.ofInt v5)), (6, .int (Int32.ofInt 0))] rfl ⟨rfl, rfl, rfl, rfl, rfl, rfl, rfl, trivial⟩ ?_
    refine wl_125_86 (by omega) h5 ?_
    show zgo k d 125 (131, [(0, .ref 17), (1, .int (Int32.ofInt v1)), (2, .int (Int32.ofInt v2)), (3, .int (Int32.ofInt v3)), (4, .int (Int32.ofInt v4)), (5, .int (Int32.ofInt v5))], []) (hp e4 ++ x) r
    refine g_iinc 134 hM rfl rfl rfl rfl ?_
    refine g_goto 77 hM rfl rfl ?_
    cases h
    exact g_lv [(0, .ref 17), (1, .int (Int32.ofInt v1)), (2, .int (Int32.ofInt v2)), (3, .int (Int32.ofInt v3)), (4, .int (Int32.ofInt v4)), (5, .int (Int32.ofInt (v5 + 1)))] rfl ⟨rfl, rfl, rfl, rfl, rfl, rfl, trivial⟩ hK
  · rw [if_neg hc3] at h
    refine g_ic_ge_t 137 hM rfl rfl hg1 hg2 hc3 ?_
    cases h
    exact g_lv [(0, .ref 17), (1, .int (Int32.ofInt v1)), (3, .int (Int32.ofInt v3)), (4, .int (Int32.ofInt v4))] rfl ⟨rfl, rfl, rfl, rfl, trivial⟩ hK
theorem wl_125_77 {k : zK} {d : Nat} {x : am_H} {r : am_A × am_H} {v1 : Int} {v2 : Int} {v3 : Int} {v4 : Int} {n : Nat} {e : (Int × zS)} {t : (zS)} (hd : 1 ≤ d) (h : zlp (fun (q : Int × zS) => b_125_77 v1 v2 v3 v4 q.1 q.2) n e = some t) (hK : K_125_77 k d x r v1 v2 v3 v4 t) : G_125_77 k d x r v1 v2 v3 v4 e := zlp_go (G := fun e => G_125_77 k d x r v1 v2 v3 v4 e) (K := K_125_77 k d x r v1 v2 v3 v4) (fun e e1 h1 hg => wb_125_77 (q := .inl e1) hd h1 hg) (fun e t1 h1 hk => wb_125_77 (q := .inr t1) hd h1 hk) n e t h hK
/-- RelationFinder$Machine.multiply()V -/
def f_125 (s : zS) : Option (Unit × zS) := if (gI s 17 3) < 2 then (some ((), s)) else (zg (0 ≤ ((gI (sI s 17 3 ((gI s 17 3) - 1)) 17 3) - 1) ∧ ((gI (sI s 17 3 ((gI s 17 3) - 1)) 17 3) - 1) < 22) (zo (f_52 (gI s 19 ((gI (sI s 17 3 ((gI s 17 3) - 1)) 17 3) - 1)) (sI s 17 3 ((gI s 17 3) - 1))) (fun r4 => zg (0 ≤ (gI (sI s 17 3 ((gI s 17 3) - 1)) 17 3) ∧ (gI (sI s 17 3 ((gI s 17 3) - 1)) 17 3) < 22) (zo (f_52 (gI s 19 (gI (sI s 17 3 ((gI s 17 3) - 1)) 17 3)) (sI s 17 3 ((gI s 17 3) - 1))) (fun r7 => zo (zlp (fun (q : Int × zS) => b_125_77 (((gI (sI s 17 3 ((gI s 17 3) - 1)) 17 3) - 1) * 125) ((gI (sI s 17 3 ((gI s 17 3) - 1)) 17 3) * 125) r4 r7 q.1 q.2) zF (0, (sI s 17 3 ((gI s 17 3) - 1)))) (fun e8 => zg ((0 : Int) ≤ 0 ∧ 0 ≤ (((gI (sI s 17 3 ((gI s 17 3) - 1)) 17 3) - 1) * 125) ∧ 0 ≤ (r4 * r7) ∧ 0 + (r4 * r7) ≤ 125 ∧ (((gI (sI s 17 3 ((gI s 17 3) - 1)) 17 3) - 1) * 125) + (r4 * r7) ≤ 2750) (zg (0 ≤ ((gI e8 17 3) - 1) ∧ ((gI e8 17 3) - 1) < 22) (zg (0 ≤ (gI e8 17 3) ∧ (gI e8 17 3) < 22) (some ((), (sI (zcp e8 21 0 18 (((gI (sI s 17 3 ((gI s 17 3) - 1)) 17 3) - 1) * 125) (r4 * r7)) 19 ((gI e8 17 3) - 1) ((gI e8 19 ((gI e8 17 3) - 1)) + (gI e8 19 (gI e8 17 3))))))))))))))
theorem w_125 {k : zK} {d : Nat} {x : am_H} {s : zS} {q : (Unit × zS)} (hd : 1 ≤ d) (h : f_125 s = some q) : zgo k d 125 (0, [(0, .ref 17)], []) (hp s ++ x) (.inl (none), hp q.2 ++ x) := by
  unfold f_125 at h
  have hM := xM_125 k.1
  refine g_aload_n 1 hM rfl rfl rfl ?_
  refine g_getI 4 3 (gI s 17 3) hM rfl rfl rfl rfl rfl rfl rfl ?_
  refine g_iconst 5 hM rfl rfl ?_
  by_cases hc1 : (gI s 17 3) < 2
  · rw [if_pos hc1] at h
    refine g_ic_ge_f 8 9 hM rfl rfl rfl (zR_gI _ _ _) (zR_lit rfl) hc1 ?_
    cases h
    exact g_ret hM rfl rfl
  · rw [if_neg hc1] at h
    refine g_ic_ge_t 9 hM rfl rfl (zR_gI _ _ _) (zR_lit rfl) hc1 ?_
    refine g_aload_n 10 hM rfl rfl rfl ?_
    refine g_dup 11 hM rfl rfl rfl ?_
    refine g_getI 14 3 (gI s 17 3) hM rfl rfl rfl rfl rfl rfl rfl ?_
    refine g_iconst 15 hM rfl rfl ?_
    refine g_isub 16 hM rfl rfl ?_
    refine g_putI 19 3 hM rfl rfl rfl rfl rfl rfl rfl ?_
    refine g_aload_n 20 hM rfl rfl rfl ?_
    refine g_getI 23 3 (gI (sI s 17 3 ((gI s 17 3) - 1)) 17 3) hM rfl rfl rfl rfl rfl rfl rfl ?_
    refine g_iconst 24 hM rfl rfl ?_
    refine g_isub 25 hM rfl rfl ?_
    refine g_bipush 27 hM rfl rfl rfl ?_
    refine g_imul 28 hM rfl rfl ?_
    refine g_istore_n 29 hM rfl rfl rfl ?_
    refine g_aload_n 30 hM rfl rfl rfl ?_
    refine g_getI 33 3 (gI (sI s 17 3 ((gI s 17 3) - 1)) 17 3) hM rfl rfl rfl rfl rfl rfl rfl ?_
    refine g_bipush 35 hM rfl rfl rfl ?_
    refine g_imul 36 hM rfl rfl ?_
    refine g_istore_n 37 hM rfl rfl rfl ?_
    refine g_aload_n 38 hM rfl rfl rfl ?_
    refine g_getF 41 hM rfl rfl rfl rfl rfl ?_
    refine g_aload_n 42 hM rfl rfl rfl ?_
    refine g_getF 45 hM rfl rfl rfl rfl rfl ?_
    refine g_aload_n 46 hM rfl rfl rfl ?_
    refine g_getI 49 3 (gI (sI s 17 3 ((gI s 17 3) - 1)) 17 3) hM rfl rfl rfl rfl rfl rfl rfl ?_
    refine g_iconst 50 hM rfl rfl ?_
    refine g_isub 51 hM rfl rfl ?_
    obtain ⟨hg2, h⟩ := zg_some h
    refine g_iaload 52 (gI s 19 ((gI (sI s 17 3 ((gI s 17 3) - 1)) 17 3) - 1)) hM rfl rfl rfl rfl hg2 rfl ?_
    obtain ⟨r4, h3, h⟩ := zo_some h
    refine g_call 55 _ [.int (Int32.ofInt r4)] hM rfl rfl rfl rfl rfl (xM_52 _) rfl (z_rcv2 rfl) rfl rfl (by omega) (w_52 (by omega) h3) rfl ?_
    refine g_istore_n 56 hM rfl rfl rfl ?_
    refine g_aload_n 57 hM rfl rfl rfl ?_
    refine g_getF 60 hM rfl rfl rfl rfl rfl ?_
    refine g_aload_n 61 hM rfl rfl rfl ?_
    refine g_getF 64 hM rfl rfl rfl rfl rfl ?_
    refine g_aload_n 65 hM rfl rfl rfl ?_
    refine g_getI 68 3 (gI (sI s 17 3 ((gI s 17 3) - 1)) 17 3) hM rfl rfl rfl rfl rfl rfl rfl ?_
    obtain ⟨hg5, h⟩ := zg_some h
    refine g_iaload 69 (gI s 19 (gI (sI s 17 3 ((gI s 17 3) - 1)) 17 3)) hM rfl rfl rfl rfl hg5 rfl ?_
    obtain ⟨r7, h6, h⟩ := zo_some h
    refine g_call 72 _ [.int (Int32.ofInt r7)] hM rfl rfl rfl rfl rfl (xM_52 _) rfl (z_rcv2 rfl) rfl rfl (by omega) (w_52 (by omega) h6) rfl ?_
    refine g_istore 74 hM rfl rfl rfl ?_
    refine g_iconst 75 hM rfl rfl ?_
    refine g_istore 77 hM rfl rfl rfl ?_
    obtain ⟨e8, h9, h⟩ := zo_some h
    refine g_lv [(0, .ref 17), (1, .int (Int32.ofInt (((gI (sI s 17 3 ((gI s 17 3) - 1)) 17 3) - 1) * 125))), (2, .int (Int32.ofInt ((gI (sI s 17 3 ((gI s 17 3) - 1)) 17 3) * 125))), (3, .int (Int32.ofInt r4)), (4, .int (Int32.ofInt r7)), (5, .int (Int32.ofInt 0))] rfl ⟨rfl, rfl, rfl, rfl, rfl, rfl, trivial⟩ ?_
    refine wl_125_77 (by omega) h9 ?_
    show zgo k d 125 (137, [(0, .ref 17), (1, .int (Int32.ofInt (((gI (sI s 17 3 ((gI s 17 3) - 1)) 17 3) - 1) * 125))), (3, .int (Int32.ofInt r4)), (4, .int (Int32.ofInt r7))], []) (hp e8 ++ x) (.inl (none), hp q.2 ++ x)
    refine g_aload_n 138 hM rfl rfl rfl ?_
    refine g_getF 141 hM rfl rfl rfl rfl rfl ?_
    refine g_iconst 142 hM rfl rfl ?_
    refine g_aload_n 143 hM rfl rfl rfl ?_
    refine g_getF 146 hM rfl rfl rfl rfl rfl ?_
    refine g_iload_n 147 hM rfl rfl rfl ?_
    refine g_iload_n 148 hM rfl rfl rfl ?_
    refine g_iload 150 hM rfl rfl rfl ?_
    refine g_imul 151 hM rfl rfl ?_
    obtain ⟨hg10, h⟩ := zg_some h
    refine g_acopy 154 hM rfl (fun _ => rfl) rfl rfl rfl rfl rfl rfl rfl hg10 rfl (by omega) ?_
    refine g_aload_n 155 hM rfl rfl rfl ?_
    refine g_getF 158 hM rfl rfl rfl rfl rfl ?_
    refine g_aload_n 159 hM rfl rfl rfl ?_
    refine g_getI 162 3 (gI e8 17 3) hM rfl rfl rfl rfl rfl rfl rfl ?_
    refine g_iconst 163 hM rfl rfl ?_
    refine g_isub 164 hM rfl rfl ?_
    refine g_dup2 165 hM rfl rfl rfl rfl ?_
    obtain ⟨hg11, h⟩ := zg_some h
    refine g_iaload 166 (gI e8 19 ((gI e8 17 3) - 1)) hM rfl rfl rfl rfl hg11 rfl ?_
    refine g_aload_n 167 hM rfl rfl rfl ?_
    refine g_getF 170 hM rfl rfl rfl rfl rfl ?_
    refine g_aload_n 171 hM rfl rfl rfl ?_
    refine g_getI 174 3 (gI e8 17 3) hM rfl rfl rfl rfl rfl rfl rfl ?_
    obtain ⟨hg12, h⟩ := zg_some h
    refine g_iaload 175 (gI e8 19 (gI e8 17 3)) hM rfl rfl rfl rfl hg12 rfl ?_
    refine g_iadd 176 hM rfl rfl ?_
    refine g_iastore 177 hM rfl rfl rfl rfl hg11 ?_
    cases h
    exact g_ret hM rfl rfl
def G_126_68 (k : zK) (d : Nat) (x : am_H) (r : am_A × am_H) (v1 : Int) (v2 : Int) (v3 : Int) (v4 : Int) (e : (Int × zS)) : Prop := zgo k d 126 (68, [(0, .ref 17), (1, .int (Int32.ofInt v1)), (2, .int (Int32.ofInt v2)), (3, .int (Int32.ofInt v3)), (4, .int (Int32.ofInt v4)), (5, .int (Int32.ofInt e.1))], []) (hp e.2 ++ x) r
def K_126_68 (k : zK) (d : Nat) (x : am_H) (r : am_A × am_H) (v1 : Int) (v2 : Int) (v3 : Int) (v4 : Int) (t : (zS)) : Prop := zgo k d 126 (134, [(0, .ref 17), (1, .int (Int32.ofInt v1)), (3, .int (Int32.ofInt v3)), (4, .int (Int32.ofInt v4))], []) (hp t ++ x) r
def G_126_77 (k : zK) (d : Nat) (x : am_H) (r : am_A × am_H) (v1 : Int) (v2 : Int) (v3 : Int) (v4 : Int) (v5 : Int) (e : (Int × zS)) : Prop := zgo k d 126 (77, [(0, .ref 17), (1, .int (Int32.ofInt v1)), (2, .int (Int32.ofInt v2)), (3, .int (Int32.ofInt v3)), (4, .int (Int32.ofInt v4)), (5, .int (Int32.ofInt v5)), (6, .int (Int32.ofInt e.1))], []) (hp e.2 ++ x) r
def K_126_77 (k : zK) (d : Nat) (x : am_H) (r : am_A × am_H) (v1 : Int) (v2 : Int) (v3 : Int) (v4 : Int) (v5 : Int) (t : (zS)) : Prop := zgo k d 126 (128, [(0, .ref 17), (1, .int (Int32.ofInt v1)), (2, .int (Int32.ofInt v2)), (3, .int (Int32.ofInt v3)), (4, .int (Int32.ofInt v4)), (5, .int (Int32.ofInt v5))], []) (hp t ++ x) r
def b_126_77 (v1 : Int) (v2 : Int) (v3 : Int) (v4 : Int) (v5 : Int) (v6 : Int) (s : zS) : Option ((Int × zS) ⊕ (zS)) := zg (zR v6) (zg (zR v4) (if v6 < v4 then (zg (0 ≤ (v1 + v5) ∧ (v1 + v5) < 2750) (zg (0 ≤ ((v2 + (v5 * v4)) + v6) ∧ ((v2 + (v5 * v4)) + v6) < 2750) (zg (0 ≤ ((v5 * v4) + v6) ∧ ((v5 * v4) + v6) < 125) (some (.inl ((v6 + 1), (sJ s 21 ((v5 * v4) + v6) ((gJ s 18 (v1 + v5)) &&& (gJ s 18 ((v2 + (v5 * v4)) + v6)))))))))) else (some (.inr s))))
theorem wb_126_77 {k : zK} {d : Nat} {x : am_H} {r : am_A × am_H} {v1 : Int} {v2 : Int} {v3 : Int} {v4 : Int} {v5 : Int} {v6 : Int} {s : zS} {q : (Int × zS) ⊕ (zS)} (hd : 1 ≤ d) (h : b_126_77 v1 v2 v3 v4 v5 v6 s = some q) (hK : Sum.elim (G_126_77 k d x r v1 v2 v3 v4 v5) (K_126_77 k d x r v1 v2 v3 v4 v5) q) : G_126_77 k d x r v1 v2 v3 v4 v5 (v6, s) := by
  unfold b_126_77 at h
  have hM := xM_126 k.1
  show zgo k d 126 (77, [(0, .ref 17), (1, .int (Int32.ofInt v1)), (2, .int (Int32.ofInt v2)), (3, .int (Int32.ofInt v3)), (4, .int (Int32.ofInt v4)), (5, .int (Int32.ofInt v5)), (6, .int (Int32.ofInt v6))], []) (hp s ++ x) r
  refine g_iload 79 hM rfl rfl rfl ?_
  refine g_iload 81 hM rfl rfl rfl ?_
  obtain ⟨hg1, h⟩ := zg_some h
  obtain ⟨hg2, h⟩ := zg_some h
  by_cases hc3 : v6 < v4
  · rw [if_pos hc3] at h
    refine g_ic_ge_f 84 128 hM rfl rfl rfl hg1 hg2 hc3 ?_
    refine g_aload_n 85 hM rfl rfl rfl ?_
    refine g_getF 88 hM rfl rfl rfl rfl rfl ?_
    refine g_iload 90 hM rfl rfl rfl ?_
    refine g_iload 92 hM rfl rfl rfl ?_
    refine g_imul 93 hM rfl rfl ?_
    refine g_iload 95 hM rfl rfl rfl ?_
    refine g_iadd 96 hM rfl rfl ?_
    refine g_aload_n 97 hM rfl rfl rfl ?_
    refine g_getF 100 hM rfl rfl rfl rfl rfl ?_
    refine g_iload_n 101 hM rfl rfl rfl ?_
    refine g_iload 103 hM rfl rfl rfl ?_
    refine g_iadd 104 hM rfl rfl ?_
    obtain ⟨hg4, h⟩ := zg_some h
    refine g_laload 105 (gJ s 18 (v1 + v5)) hM rfl rfl rfl rfl hg4 rfl ?_
    refine g_aload_n 106 hM rfl rfl rfl ?_
    refine g_getF 109 hM rfl rfl rfl rfl rfl ?_
    refine g_iload_n 110 hM rfl rfl rfl ?_
    refine g_iload 112 hM rfl rfl rfl ?_
    refine g_iload 114 hM rfl rfl rfl ?_
    refine g_imul 115 hM rfl rfl ?_
    refine g_iadd 116 hM rfl rfl ?_
    refine g_iload 118 hM rfl rfl rfl ?_
    refine g_iadd 119 hM rfl rfl ?_
    obtain ⟨hg5, h⟩ := zg_some h
    refine g_laload 120 (gJ s 18 ((v2 + (v5 * v4)) + v6)) hM rfl rfl rfl rfl hg5 rfl ?_
    refine g_land 121 hM rfl rfl ?_
    obtain ⟨hg6, h⟩ := zg_some h
    refine g_lastore 122 hM rfl rfl rfl rfl hg6 ?_
    refine g_iinc 125 hM rfl rfl rfl rfl ?_
    refine g_goto 77 hM rfl rfl ?_
    cases h
    exact g_lv [(0, .ref 17), (1, .int (Int32.ofInt v1)), (2, .int (Int32.ofInt v2)), (3, .int (Int32.ofInt v3)), (4, .int (Int32.ofInt v4)), (5, .int (Int32.ofInt v5)), (6, .int (Int32.ofInt (v6 + 1)))] rfl ⟨rfl, rfl, rfl, rfl, rfl, rfl, rfl, trivial⟩ hK
  · rw [if_neg hc3] at h
    refine g_ic_ge_t 128 hM rfl rfl hg1 hg2 hc3 ?_
    cases h
    exact g_lv [(0, .ref 17), (1, .int (Int32.ofInt v1)), (2, .int (Int32.ofInt v2)), (3, .int (Int32.ofInt v3)), (4, .int (Int32.ofInt v4)), (5, .int (Int32.ofInt v5))] rfl ⟨rfl, rfl, rfl, rfl, rfl, rfl, trivial⟩ hK
theorem wl_126_77 {k : zK} {d : Nat} {x : am_H} {r : am_A × am_H} {v1 : Int} {v2 : Int} {v3 : Int} {v4 : Int} {v5 : Int} {n : Nat} {e : (Int × zS)} {t : (zS)} (hd : 1 ≤ d) (h : zlp (fun (q : Int × zS) => b_126_77 v1 v2 v3 v4 v5 q.1 q.2) n e = some t) (hK : K_126_77 k d x r v1 v2 v3 v4 v5 t) : G_126_77 k d x r v1 v2 v3 v4 v5 e := zlp_go (G := fun e => G_126_77 k d x r v1 v2 v3 v4 v5 e) (K := K_126_77 k d x r v1 v2 v3 v4 v5) (fun e e1 h1 hg => wb_126_77 (q := .inl e1) hd h1 hg) (fun e t1 h1 hk => wb_126_77 (q := .inr t1) hd h1 hk) n e t h hK
def b_126_68 (v1 : Int) (v2 : Int) (v3 : Int) (v4 : Int) (v5 : Int) (s : zS) : Option ((Int × zS) ⊕ (zS)) := zg (zR v5) (zg (zR v3) (if v5 < v3 then (zo (zlp (fun (q : Int × zS) => b_126_77 v1 v2 v3 v4 v5 q.1 q.2) zF (0, s)) (fun e4 => some (.inl ((v5 + 1), e4)))) else (some (.inr s))))
theorem wb_126_68 {k : zK} {d : Nat} {x : am_H} {r : am_A × am_H} {v1 : Int} {v2 : Int} {v3 : Int} {v4 : Int} {v5 : Int} {s : zS} {q : (Int × zS) ⊕ (zS)} (hd : 1 ≤ d) (h : b_126_68 v1 v2 v3 v4 v5 s = some q) (hK : Sum.elim (G_126_68 k d x r v1 v2 v3 v4) (K_126_68 k d x r v1 v2 v3 v4) q) : G_126_68 k d x r v1 v2 v3 v4 (v5, s) := by
  unfold b_126_68 at h
  have hM := xM_126 k.1
  show zgo k d 126 (68, [(0, .ref 17), (1, .int (Int32.ofInt v1)), (2, .int (Int32.ofInt v2)), (3, .int (Int32.ofInt v3)), (4, .int (Int32.ofInt v4)), (5, .int (Int32.ofInt v5))], []) (hp s ++ x) r
  refine g_iload 70 hM rfl rfl rfl ?_
  refine g_iload_n 71 hM rfl rfl rfl ?_
  obtain ⟨hg1, h⟩ := zg_some h
  obtain ⟨hg2, h⟩ := zg_some h
  by_cases hc3 : v5 < v3
  · rw [if_pos hc3] at h
    refine g_ic_ge_f 74 134 hM rfl rfl rfl hg1 hg2 hc3 ?_
    refine g_iconst 75 hM rfl rfl ?_
    refine g_istore 77 hM rfl rfl rfl ?_
    obtain ⟨e4, h5, h⟩ := zo_some h
    refine g_lv [(0, .ref 17), (1, .int (Int32.ofInt v1)), (2, .int (Int32.ofInt v2)), (3, .int (Int32.ofInt v3)), (4, .int (Int32.ofInt v4)), (5, .int (Int32.ofInt v5)), (6, .int (Int32.ofInt 0))] rfl ⟨rfl, rfl, rfl, rfl, rfl, rfl, rfl, trivial⟩ ?_
    refine wl_126_77 (by omega) h5 ?_
    show zgo k d 126 (128, [(0, .ref 17), (1, .int (Int32.ofInt v1)), (2, .int (Int32.ofInt v2)), (3, .int (Int32.ofInt v3)), (4, .int (Int32.ofInt v4)), (5, .int (Int32.ofInt v5))], []) (hp e4 ++ x) r
    refine g_iinc 131 hM rfl rfl rfl rfl ?_
    refine g_goto 68 hM rfl rfl ?_
    cases h
    exact g_lv [(0, .ref 17), (1, .int (Int32.ofInt v1)), (2, .int (Int32.ofInt v2)), (3, .int (Int32.ofInt v3)), (4, .int (Int32.ofInt v4)), (5, .int (Int32.ofInt (v5 + 1)))] rfl ⟨rfl, rfl, rfl, rfl, rfl, rfl, trivial⟩ hK
  · rw [if_neg hc3] at h
    refine g_ic_ge_t 134 hM rfl rfl hg1 hg2 hc3 ?_
    cases h
    exact g_lv [(0, .ref 17), (1, .int (Int32.ofInt v1)), (3, .int (Int32.ofInt v3)), (4, .int (Int32.ofInt v4))] rfl ⟨rfl, rfl, rfl, rfl, trivial⟩ hK
theorem wl_126_68 {k : zK} {d : Nat} {x : am_H} {r : am_A × am_H} {v1 : Int} {v2 : Int} {v3 : Int} {v4 : Int} {n : Nat} {e : (Int × zS)} {t : (zS)} (hd : 1 ≤ d) (h : zlp (fun (q : Int × zS) => b_126_68 v1 v2 v3 v4 q.1 q.2) n e = some t) (hK : K_126_68 k d x r v1 v2 v3 v4 t) : G_126_68 k d x r v1 v2 v3 v4 e := zlp_go (G := fun e => G_126_68 k d x r v1 v2 v3 v4 e) (K := K_126_68 k d x r v1 v2 v3 v4) (fun e e1 h1 hg => wb_126_68 (q := .inl e1) hd h1 hg) (fun e t1 h1 hk => wb_126_68 (q := .inr t1) hd h1 hk) n e t h hK
/-- RelationFinder$Machine.keepFirsts()V -/
def f_126 (s : zS) : Option (Unit × zS) := if (gI s 17 3) < 2 then (some ((), s)) else (zg (0 ≤ (gI (sI s 17 3 ((gI s 17 3) - 1)) 17 3) ∧ (gI (sI s 17 3 ((gI s 17 3) - 1)) 17 3) < 22) (zo (f_52 ((gI s 19 (gI (sI s 17 3 ((gI s 17 3) - 1)) 17 3)) - 1) (sI s 17 3 ((gI s 17 3) - 1))) (fun r4 => zo (zlp (fun (q : Int × zS) => b_126_68 (((gI (sI s 17 3 ((gI s 17 3) - 1)) 17 3) - 1) * 125) ((gI (sI s 17 3 ((gI s 17 3) - 1)) 17 3) * 125) (gI s 1 0) r4 q.1 q.2) zF (0, (sI s 17 3 ((gI s 17 3) - 1)))) (fun e5 => zg ((0 : Int) ≤ 0 ∧ 0 ≤ (((gI (sI s 17 3 ((gI s 17 3) - 1)) 17 3) - 1) * 125) ∧ 0 ≤ ((gI s 1 0) * r4) ∧ 0 + ((gI s 1 0) * r4) ≤ 125 ∧ (((gI (sI s 17 3 ((gI s 17 3) - 1)) 17 3) - 1) * 125) + ((gI s 1 0) * r4) ≤ 2750) (zg (0 ≤ (gI e5 17 3) ∧ (gI e5 17 3) < 22) (zg (0 ≤ ((gI e5 17 3) - 1) ∧ ((gI e5 17 3) - 1) < 22) (some ((), (sI (zcp e5 21 0 18 (((gI (sI s 17 3 ((gI s 17 3) - 1)) 17 3) - 1) * 125) ((gI s 1 0) * r4)) 19 ((gI e5 17 3) - 1) (gI e5 19 (gI e5 17 3)))))))))))
theorem w_126 {k : zK} {d : Nat} {x : am_H} {s : zS} {q : (Unit × zS)} (hd : 1 ≤ d) (h : f_126 s = some q) : zgo k d 126 (0, [(0, .ref 17)], []) (hp s ++ x) (.inl (none), hp q.2 ++ x) := by
  unfold f_126 at h
  have hM := xM_126 k.1
  refine g_aload_n 1 hM rfl rfl rfl ?_
  refine g_getI 4 3 (gI s 17 3) hM rfl rfl rfl rfl rfl rfl rfl ?_
  refine g_iconst 5 hM rfl rfl ?_
  by_cases hc1 : (gI s 17 3) < 2
  · rw [if_pos hc1] at h
    refine g_ic_ge_f 8 9 hM rfl rfl rfl (zR_gI _ _ _) (zR_lit rfl) hc1 ?_
    cases h
    exact g_ret hM rfl rfl
  · rw [if_neg hc1] at h
    refine g_ic_ge_t 9 hM rfl rfl (zR_gI _ _ _) (zR_lit rfl) hc1 ?_
    refine g_aload_n 10 hM rfl rfl rfl ?_
    refine g_dup 11 hM rfl rfl rfl ?_
    refine g_getI 14 3 (gI s 17 3) hM rfl rfl rfl rfl rfl rfl rfl ?_
    refine g_iconst 15 hM rfl rfl ?_
    refine g_isub 16 hM rfl rfl ?_
    refine g_putI 19 3 hM rfl rfl rfl rfl rfl rfl rfl ?_
    refine g_aload_n 20 hM rfl rfl rfl ?_
    refine g_getI 23 3 (gI (sI s 17 3 ((gI s 17 3) - 1)) 17 3) hM rfl rfl rfl rfl rfl rfl rfl ?_
    refine g_iconst 24 hM rfl rfl ?_
    refine g_isub 25 hM rfl rfl ?_
    refine g_bipush 27 hM rfl rfl rfl ?_
    refine g_imul 28 hM rfl rfl ?_
    refine g_istore_n 29 hM rfl rfl rfl ?_
    refine g_aload_n 30 hM rfl rfl rfl ?_
    refine g_getI 33 3 (gI (sI s 17 3 ((gI s 17 3) - 1)) 17 3) hM rfl rfl rfl rfl rfl rfl rfl ?_
    refine g_bipush 35 hM rfl rfl rfl ?_
    refine g_imul 36 hM rfl rfl ?_
    refine g_istore_n 37 hM rfl rfl rfl ?_
    refine g_aload_n 38 hM rfl rfl rfl ?_
    refine g_getF 41 hM rfl rfl rfl rfl rfl ?_
    refine g_getI 44 0 (gI s 1 0) hM rfl rfl rfl rfl rfl rfl rfl ?_
    refine g_istore_n 45 hM rfl rfl rfl ?_
    refine g_aload_n 46 hM rfl rfl rfl ?_
    refine g_getF 49 hM rfl rfl rfl rfl rfl ?_
    refine g_aload_n 50 hM rfl rfl rfl ?_
    refine g_getF 53 hM rfl rfl rfl rfl rfl ?_
    refine g_aload_n 54 hM rfl rfl rfl ?_
    refine g_getI 57 3 (gI (sI s 17 3 ((gI s 17 3) - 1)) 17 3) hM rfl rfl rfl rfl rfl rfl rfl ?_
    obtain ⟨hg2, h⟩ := zg_some h
    refine g_iaload 58 (gI s 19 (gI (sI s 17 3 ((gI s 17 3) - 1)) 17 3)) hM rfl rfl rfl rfl hg2 rfl ?_
    refine g_iconst 59 hM rfl rfl ?_
    refine g_isub 60 hM rfl rfl ?_
    obtain ⟨r4, h3, h⟩ := zo_some h
    refine g_call 63 _ [.int (Int32.ofInt r4)] hM rfl rfl rfl rfl rfl (xM_52 _) rfl (z_rcv2 rfl) rfl rfl (by omega) (w_52 (by omega) h3) rfl ?_
    refine g_istore 65 hM rfl rfl rfl ?_
    refine g_iconst 66 hM rfl rfl ?_
    refine g_istore 68 hM rfl rfl rfl ?_
    obtain ⟨e5, h6, h⟩ := zo_some h
    refine g_lv [(0, .ref 17), (1, .int (Int32.ofInt (((gI (sI s 17 3 ((gI s 17 3) - 1)) 17 3) - 1) * 125))), (2, .int (Int32.ofInt ((gI (sI s 17 3 ((gI s 17 3) - 1)) 17 3) * 125))), (3, .int (Int32.ofInt (gI s 1 0))), (4, .int (Int32.ofInt r4)), (5, .int (Int32.ofInt 0))] rfl ⟨rfl, rfl, rfl, rfl, rfl, rfl, trivial⟩ ?_
    refine wl_126_68 (by omega) h6 ?_
    show zgo k d 126 (134, [(0, .ref 17), (1, .int (Int32.ofInt (((gI (sI s 17 3 ((gI s 17 3) - 1)) 17 3) - 1) * 125))), (3, .int (Int32.ofInt (gI s 1 0))), (4, .int (Int32.ofInt r4))], []) (hp e5 ++ x) (.inl (none), hp q.2 ++ x)
    refine g_aload_n 135 hM rfl rfl rfl ?_
    refine g_getF 138 hM rfl rfl rfl rfl rfl ?_
    refine g_iconst 139 hM rfl rfl ?_
    refine g_aload_n 140 hM rfl rfl rfl ?_
    refine g_getF 143 hM rfl rfl rfl rfl rfl ?_
    refine g_iload_n 144 hM rfl rfl rfl ?_
    refine g_iload_n 145 hM rfl rfl rfl ?_
    refine g_iload 147 hM rfl rfl rfl ?_
    refine g_imul 148 hM rfl rfl ?_
    obtain ⟨hg7, h⟩ := zg_some h
    refine g_acopy 151 hM rfl (fun _ => rfl) rfl rfl rfl rfl rfl rfl rfl hg7 rfl (by omega) ?_
    refine g_aload_n 152 hM rfl rfl rfl ?_
    refine g_getF 155 hM rfl rfl rfl rfl rfl ?_
    refine g_aload_n 156 hM rfl rfl rfl ?_
    refine g_getI 159 3 (gI e5 17 3) hM rfl rfl rfl rfl rfl rfl rfl ?_
    refine g_iconst 160 hM rfl rfl ?_
    refine g_isub 161 hM rfl rfl ?_
    refine g_aload_n 162 hM rfl rfl rfl ?_
    refine g_getF 165 hM rfl rfl rfl rfl rfl ?_
    refine g_aload_n 166 hM rfl rfl rfl ?_
    refine g_getI 169 3 (gI e5 17 3) hM rfl rfl rfl rfl rfl rfl rfl ?_
    obtain ⟨hg8, h⟩ := zg_some h
    refine g_iaload 170 (gI e5 19 (gI e5 17 3)) hM rfl rfl rfl rfl hg8 rfl ?_
    obtain ⟨hg9, h⟩ := zg_some h
    refine g_iastore 171 hM rfl rfl rfl rfl hg9 ?_
    cases h
    exact g_ret hM rfl rfl
def G_128_11 (k : zK) (d : Nat) (x : am_H) (r : am_A × am_H) (v1 : Int) (v2 : Int) (v3 : Int) (e : (Int × zS)) : Prop := zgo k d 128 (11, [(0, .ref 17), (1, .int (Int32.ofInt v1)), (2, .int (Int32.ofInt v2)), (3, .int (Int32.ofInt v3)), (4, .int (Int32.ofInt e.1))], []) (hp e.2 ++ x) r
def K_128_11 (k : zK) (d : Nat) (x : am_H) (r : am_A × am_H) (v1 : Int) (v2 : Int) (v3 : Int) (t : (zS)) : Prop := zgo k d 128 (98, [], []) (hp t ++ x) r
def G_128_23 (k : zK) (d : Nat) (x : am_H) (r : am_A × am_H) (v1 : Int) (v2 : Int) (v3 : Int) (v4 : Int) (s : zS) (e : (BitVec 64 × Int)) : Prop := zgo k d 128 (23, [(0, .ref 17), (1, .int (Int32.ofInt v1)), (2, .int (Int32.ofInt v2)), (3, .int (Int32.ofInt v3)), (4, .int (Int32.ofInt v4)), (5, .long (Int64.ofBitVec e.1)), (7, .int (Int32.ofInt e.2))], []) (hp s ++ x) r
def K_128_23 (k : zK) (d : Nat) (x : am_H) (r : am_A × am_H) (v1 : Int) (v2 : Int) (v3 : Int) (v4 : Int) (s : zS) (t : (BitVec 64)) : Prop := zgo k d 128 (54, [(0, .ref 17), (1, .int (Int32.ofInt v1)), (2, .int (Int32.ofInt v2)), (3, .int (Int32.ofInt v3)), (4, .int (Int32.ofInt v4)), (5, .long (Int64.ofBitVec t))], []) (hp s ++ x) r
def b_128_23 (v1 : Int) (v2 : Int) (v3 : Int) (v4 : Int) (s : zS) (w5 : BitVec 64) (v7 : Int) : Option ((BitVec 64 × Int) ⊕ (BitVec 64)) := zg (zR v7) (zg (zR v3) (if v7 < v3 then (zg (0 ≤ ((v2 + (v4 * v3)) + v7) ∧ ((v2 + (v4 * v3)) + v7) < 2750) (some (.inl ((w5 ||| (gJ s 18 ((v2 + (v4 * v3)) + v7))), (v7 + 1))))) else (some (.inr w5))))
theorem wb_128_23 {k : zK} {d : Nat} {x : am_H} {r : am_A × am_H} {v1 : Int} {v2 : Int} {v3 : Int} {v4 : Int} {w5 : BitVec 64} {v7 : Int} {s : zS} {q : (BitVec 64 × Int) ⊕ (BitVec 64)} (hd : 0 ≤ d) (h : b_128_23 v1 v2 v3 v4 s w5 v7 = some q) (hK : Sum.elim (G_128_23 k d x r v1 v2 v3 v4 s) (K_128_23 k d x r v1 v2 v3 v4 s) q) : G_128_23 k d x r v1 v2 v3 v4 s (w5, v7) := by
  unfold b_128_23 at h
  have hM := xM_128 k.1
  show zgo k d 128 (23, [(0, .ref 17), (1, .int (Int32.ofInt v1)), (2, .int (Int32.ofInt v2)), (3, .int (Int32.ofInt v3)), (4, .int (Int32.ofInt v4)), (5, .long (Int64.ofBitVec w5)), (7, .int (Int32.ofInt v7))], []) (hp s ++ x) r
  refine g_iload 25 hM rfl rfl rfl ?_
  refine g_iload_n 26 hM rfl rfl rfl ?_
  obtain ⟨hg1, h⟩ := zg_some h
  obtain ⟨hg2, h⟩ := zg_some h
  by_cases hc3 : v7 < v3
  · rw [if_pos hc3] at h
    refine g_ic_ge_f 29 54 hM rfl rfl rfl hg1 hg2 hc3 ?_
    refine g_lload 31 hM rfl rfl rfl ?_
    refine g_aload_n 32 hM rfl rfl rfl ?_
    refine g_getF 35 hM rfl rfl rfl rfl rfl ?_
    refine g_iload_n 36 hM rfl rfl rfl ?_
    refine g_iload 38 hM rfl rfl rfl ?_
    refine g_iload_n 39 hM rfl rfl rfl ?_
    refine g_imul 40 hM rfl rfl ?_
    refine g_iadd 41 hM rfl rfl ?_
    refine g_iload 43 hM rfl rfl rfl ?_
    refine g_iadd 44 hM rfl rfl ?_
    obtain ⟨hg4, h⟩ := zg_some h
    refine g_laload 45 (gJ s 18 ((v2 + (v4 * v3)) + v7)) hM rfl rfl rfl rfl hg4 rfl ?_
    refine g_lor 46 hM rfl rfl ?_
    refine g_lstore 48 hM rfl rfl rfl ?_
    refine g_iinc 51 hM rfl rfl rfl rfl ?_
    refine g_goto 23 hM rfl rfl ?_
    cases h
    exact g_lv [(0, .ref 17), (1, .int (Int32.ofInt v1)), (2, .int (Int32.ofInt v2)), (3, .int (Int32.ofInt v3)), (4, .int (Int32.ofInt v4)), (5, .long (Int64.ofBitVec (w5 ||| (gJ s 18 ((v2 + (v4 * v3)) + v7))))), (7, .int (Int32.ofInt (v7 + 1)))] rfl ⟨rfl, rfl, rfl, rfl, rfl, rfl, rfl, trivial⟩ hK
  · rw [if_neg hc3] at h
    refine g_ic_ge_t 54 hM rfl rfl hg1 hg2 hc3 ?_
    cases h
    exact g_lv [(0, .ref 17), (1, .int (Int32.ofInt v1)), (2, .int (Int32.ofInt v2)), (3, .int (Int32.ofInt v3)), (4, .int (Int32.ofInt v4)), (5, .long (Int64.ofBitVec w5))] rfl ⟨rfl, rfl, rfl, rfl, rfl, rfl, trivial⟩ hK
theorem wl_128_23 {k : zK} {d : Nat} {x : am_H} {r : am_A × am_H} {v1 : Int} {v2 : Int} {v3 : Int} {v4 : Int} {s : zS} {n : Nat} {e : (BitVec 64 × Int)} {t : (BitVec 64)} (hd : 0 ≤ d) (h : zlp (fun (q : BitVec 64 × Int) => b_128_23 v1 v2 v3 v4 s q.1 q.2) n e = some t) (hK : K_128_23 k d x r v1 v2 v3 v4 s t) : G_128_23 k d x r v1 v2 v3 v4 s e := zlp_go (G := fun e => G_128_23 k d x r v1 v2 v3 v4 s e) (K := K_128_23 k d x r v1 v2 v3 v4 s) (fun e e1 h1 hg => wb_128_23 (q := .inl e1) hd h1 hg) (fun e t1 h1 hk => wb_128_23 (q := .inr t1) hd h1 hk) n e t h hK
def G_128_57 (k : zK) (d : Nat) (x : am_H) (r : am_A × am_H) (v1 : Int) (v2 : Int) (v3 : Int) (v4 : Int) (w5 : BitVec 64) (e : (Int × zS)) : Prop := zgo k d 128 (57, [(0, .ref 17), (1, .int (Int32.ofInt v1)), (2, .int (Int32.ofInt v2)), (3, .int (Int32.ofInt v3)), (4, .int (Int32.ofInt v4)), (5, .long (Int64.ofBitVec w5)), (7, .int (Int32.ofInt e.1))], []) (hp e.2 ++ x) r
def K_128_57 (k : zK) (d : Nat) (x : am_H) (r : am_A × am_H) (v1 : Int) (v2 : Int) (v3 : Int) (v4 : Int) (w5 : BitVec 64) (t : (zS)) : Prop := zgo k d 128 (92, [(0, .ref 17), (1, .int (Int32.ofInt v1)), (2, .int (Int32.ofInt v2)), (3, .int (Int32.ofInt v3)), (4, .int (Int32.ofInt v4))], []) (hp t ++ x) r
def b_128_57 (v1 : Int) (v2 : Int) (v3 : Int) (v4 : Int) (w5 : BitVec 64) (v7 : Int) (s : zS) : Option ((Int × zS) ⊕ (zS)) := zg (zR v7) (zg (zR v3) (if v7 < v3 then (zg (0 ≤ ((v1 + (v4 * v3)) + v7) ∧ ((v1 + (v4 * v3)) + v7) < 2750) (some (.inl ((v7 + 1), (sJ s 18 ((v1 + (v4 * v3)) + v7) ((gJ s 18 ((v1 + (v4 * v3)) + v7)) &&& (w5 ^^^ (18446744073709551615#64)))))))) else (some (.inr s))))
theorem wb_128_57 {k : zK} {d : Nat} {x : am_H} {r : am_A × am_H} {v1 : Int} {v2 : Int} {v3 : Int} {v4 : Int} {w5 : BitVec 64} {v7 : Int} {s : zS} {q : (Int × zS) ⊕ (zS)} (hd : 0 ≤ d) (h : b_128_57 v1 v2 v3 v4 w5 v7 s = some q) (hK : Sum.elim (G_128_57 k d x r v1 v2 v3 v4 w5) (K_128_57 k d x r v1 v2 v3 v4 w5) q) : G_128_57 k d x r v1 v2 v3 v4 w5 (v7, s) := by
  unfold b_128_57 at h
  have hM := xM_128 k.1
  show zgo k d 128 (57, [(0, .ref 17), (1, .int (Int32.ofInt v1)), (2, .int (Int32.ofInt v2)), (3, .int (Int32.ofInt v3)), (4, .int (Int32.ofInt v4)), (5, .long (Int64.ofBitVec w5)), (7, .int (Int32.ofInt v7))], []) (hp s ++ x) r
  refine g_iload 59 hM rfl rfl rfl ?_
  refine g_iload_n 60 hM rfl rfl rfl ?_
  obtain ⟨hg1, h⟩ := zg_some h
  obtain ⟨hg2, h⟩ := zg_some h
  by_cases hc3 : v7 < v3
  · rw [if_pos hc3] at h
    refine g_ic_ge_f 63 92 hM rfl rfl rfl hg1 hg2 hc3 ?_
    refine g_aload_n 64 hM rfl rfl rfl ?_
    refine g_getF 67 hM rfl rfl rfl rfl rfl ?_
    refine g_iload_n 68 hM rfl rfl rfl ?_
    refine g_iload 70 hM rfl rfl rfl ?_
    refine g_iload_n 71 hM rfl rfl rfl ?_
    refine g_imul 72 hM rfl rfl ?_
    refine g_iadd 73 hM rfl rfl ?_
    refine g_iload 75 hM rfl rfl rfl ?_
    refine g_iadd 76 hM rfl rfl ?_
    refine g_dup2 77 hM rfl rfl rfl rfl ?_
    obtain ⟨hg4, h⟩ := zg_some h
    refine g_laload 78 (gJ s 18 ((v1 + (v4 * v3)) + v7)) hM rfl rfl rfl rfl hg4 rfl ?_
    refine g_lload 80 hM rfl rfl rfl ?_
    refine g_ldc2 83 (18446744073709551615#64) hM rfl rfl rfl (by decide) ?_
    refine g_lxor 84 hM rfl rfl ?_
    refine g_land 85 hM rfl rfl ?_
    refine g_lastore 86 hM rfl rfl rfl rfl hg4 ?_
    refine g_iinc 89 hM rfl rfl rfl rfl ?_
    refine g_goto 57 hM rfl rfl ?_
    cases h
    exact g_lv [(0, .ref 17), (1, .int (Int32.ofInt v1)), (2, .int (Int32.ofInt v2)), (3, .int (Int32.ofInt v3)), (4, .int (Int32.ofInt v4)), (5, .long (Int64.ofBitVec w5)), (7, .int (Int32.ofInt (v7 + 1)))] rfl ⟨rfl, rfl, rfl, rfl, rfl, rfl, rfl, trivial⟩ hK
  · rw [if_neg hc3] at h
    refine g_ic_ge_t 92 hM rfl rfl hg1 hg2 hc3 ?_
    cases h
    exact g_lv [(0, .ref 17), (1, .int (Int32.ofInt v1)), (2, .int (Int32.ofInt v2)), (3, .int (Int32.ofInt v3)), (4, .int (Int32.ofInt v4))] rfl ⟨rfl, rfl, rfl, rfl, rfl, trivial⟩ hK
theorem wl_128_57 {k : zK} {d : Nat} {x : am_H} {r : am_A × am_H} {v1 : Int} {v2 : Int} {v3 : Int} {v4 : Int} {w5 : BitVec 64} {n : Nat} {e : (Int × zS)} {t : (zS)} (hd : 0 ≤ d) (h : zlp (fun (q : Int × zS) => b_128_57 v1 v2 v3 v4 w5 q.1 q.2) n e = some t) (hK : K_128_57 k d x r v1 v2 v3 v4 w5 t) : G_128_57 k d x r v1 v2 v3 v4 w5 e := zlp_go (G := fun e => G_128_57 k d x r v1 v2 v3 v4 w5 e) (K := K_128_57 k d x r v1 v2 v3 v4 w5) (fun e e1 h1 hg => wb_128_57 (q := .inl e1) hd h1 hg) (fun e t1 h1 hk => wb_128_57 (q := .inr t1) hd h1 hk) n e t h hK
def b_128_11 (v1 : Int) (v2 : Int) (v3 : Int) (v4 : Int) (s : zS) : Option ((Int × zS) ⊕ (zS)) := zg (zR v4) (zg (zR v3) (if v4 < v3 then (zo (zlp (fun (q : BitVec 64 × Int) => b_128_23 v1 v2 v3 v4 s q.1 q.2) zF ((0#64), 0)) (fun e4 => zo (zlp (fun (q : Int × zS) => b_128_57 v1 v2 v3 v4 e4 q.1 q.2) zF (0, s)) (fun e6 => some (.inl ((v4 + 1), e6))))) else (some (.inr s))))
theorem wb_128_11 {k : zK} {d : Nat} {x : am_H} {r : am_A × am_H} {v1 : Int} {v2 : Int} {v3 : Int} {v4 : Int} {s : zS} {q : (Int × zS) ⊕ (zS)} (hd : 0 ≤ d) (h : b_128_11 v1 v2 v3 v4 s = some q) (hK : Sum.elim (G_128_11 k d x r v1 v2 v3) (K_128_11 k d x r v1 v2 v3) q) : G_128_11 k d x r v1 v2 v3 (v4, s) := by
  unfold b_128_11 at h
  have hM := xM_128 k.1
  show zgo k d 128 (11, [(0, .ref 17), (1, .int (Int32.ofInt v1)), (2, .int (Int32.ofInt v2)), (3, .int (Int32.ofInt v3)), (4, .int (Int32.ofInt v4))], []) (hp s ++ x) r
  refine g_iload 13 hM rfl rfl rfl ?_
  refine g_iload_n 14 hM rfl rfl rfl ?_
  obtain ⟨hg1, h⟩ := zg_some h
  obtain ⟨hg2, h⟩ := zg_some h
  by_cases hc3 : v4 < v3
  · rw [if_pos hc3] at h
    refine g_ic_ge_f 17 98 hM rfl rfl rfl hg1 hg2 hc3 ?_
    refine g_lconst 18 (0#64) hM rfl rfl rfl ?_
    refine g_lstore 20 hM rfl rfl rfl ?_
    refine g_iconst 21 hM rfl rfl ?_
    refine g_istore 23 hM rfl rfl rfl ?_
    obtain ⟨e4, h5, h⟩ := zo_some h
    refine g_lv [(0, .ref 17), (1, .int (Int32.ofInt v1)), (2, .int (Int32.ofInt v2)), (3, .int (Int32.ofInt v3)), (4, .int (Int32.ofInt v4)), (5, .long (Int64.ofBitVec (0#64))), (7, .int (Int32.ofInt 0))] rfl ⟨rfl, rfl, rfl, rfl, rfl, rfl, rfl, trivial⟩ ?_
    refine wl_128_23 (by omega) h5 ?_
    show zgo k d 128 (54, [(0, .ref 17), (1, .int (Int32.ofInt v1)), (2, .int (Int32.ofInt v2)), (3, .int (Int32.ofInt v3)), (4, .int (Int32.ofInt v4)), (5, .long (Int64.ofBitVec e4))], []) (hp s ++ x) r
    refine g_iconst 55 hM rfl rfl ?_
    refine g_istore 57 hM rfl rfl rfl ?_
    obtain ⟨e6, h7, h⟩ := zo_some h
    refine g_lv [(0, .ref 17), (1, .int (Int32.ofInt v1)), (2, .int (Int32.ofInt v2)), (3, .int (Int32.ofInt v3)), (4, .int (Int32.ofInt v4)), (5, .long (Int64.ofBitVec e4)), (7, .int (Int32.ofInt 0))] rfl ⟨rfl, rfl, rfl, rfl, rfl, rfl, rfl, trivial⟩ ?_
    refine wl_128_57 (by omega) h7 ?_
    show zgo k d 128 (92, [(0, .ref 17), (1, .int (Int32.ofInt v1)), (2, .int (Int32.ofInt v2)), (3, .int (Int32.ofInt v3)), (4, .int (Int32.ofInt v4))], []) (hp e6 ++ x) r
    refine g_iinc 95 hM rfl rfl rfl rfl ?_
    refine g_goto 11 hM rfl rfl ?_
    cases h
    exact g_lv [(0, .ref 17), (1, .int (Int32.ofInt v1)), (2, .int (Int32.ofInt v2)), (3, .int (Int32.ofInt v3)), (4, .int (Int32.ofInt (v4 + 1)))] rfl ⟨rfl, rfl, rfl, rfl, rfl, trivial⟩ hK
  · rw [if_neg hc3] at h
    refine g_ic_ge_t 98 hM rfl rfl hg1 hg2 hc3 ?_
    cases h
    exact g_lv [] rfl trivial hK
theorem wl_128_11 {k : zK} {d : Nat} {x : am_H} {r : am_A × am_H} {v1 : Int} {v2 : Int} {v3 : Int} {n : Nat} {e : (Int × zS)} {t : (zS)} (hd : 0 ≤ d) (h : zlp (fun (q : Int × zS) => b_128_11 v1 v2 v3 q.1 q.2) n e = some t) (hK : K_128_11 k d x r v1 v2 v3 t) : G_128_11 k d x r v1 v2 v3 e := zlp_go (G := fun e => G_128_11 k d x r v1 v2 v3 e) (K := K_128_11 k d x r v1 v2 v3) (fun e e1 h1 hg => wb_128_11 (q := .inl e1) hd h1 hg) (fun e t1 h1 hk => wb_128_11 (q := .inr t1) hd h1 hk) n e t h hK
/-- RelationFinder$Machine.dropBegun(II)V -/
def f_128 (v1 : Int) (v2 : Int) (s : zS) : Option (Unit × zS) := zo (zlp (fun (q : Int × zS) => b_128_11 v1 v2 (gI s 1 0) q.1 q.2) zF (0, s)) (fun e1 => some ((), e1))
theorem w_128 {k : zK} {d : Nat} {x : am_H} {v1 : Int} {v2 : Int} {s : zS} {q : (Unit × zS)} (hd : 0 ≤ d) (h : f_128 v1 v2 s = some q) : zgo k d 128 (0, [(0, .ref 17), (1, .int (Int32.ofInt v1)), (2, .int (Int32.ofInt v2))], []) (hp s ++ x) (.inl (none), hp q.2 ++ x) := by
  unfold f_128 at h
  have hM := xM_128 k.1
  refine g_aload_n 1 hM rfl rfl rfl ?_
  refine g_getF 4 hM rfl rfl rfl rfl rfl ?_
  refine g_getI 7 0 (gI s 1 0) hM rfl rfl rfl rfl rfl rfl rfl ?_
  refine g_istore_n 8 hM rfl rfl rfl ?_
  refine g_iconst 9 hM rfl rfl ?_
  refine g_istore 11 hM rfl rfl rfl ?_
  obtain ⟨e1, h2, h⟩ := zo_some h
  refine g_lv [(0, .ref 17), (1, .int (Int32.ofInt v1)), (2, .int (Int32.ofInt v2)), (3, .int (Int32.ofInt (gI s 1 0))), (4, .int (Int32.ofInt 0))] rfl ⟨rfl, rfl, rfl, rfl, rfl, trivial⟩ ?_
  refine wl_128_11 (by omega) h2 ?_
  show zgo k d 128 (98, [], []) (hp e1 ++ x) (.inl (none), hp q.2 ++ x)
  cases h
  exact g_ret hM rfl rfl
def G_127_95 (k : zK) (d : Nat) (x : am_H) (r : am_A × am_H) (v1 : Int) (v2 : Int) (v3 : Int) (v4 : Int) (v5 : Int) (e : (Int × Int × zS)) : Prop := zgo k d 127 (95, [(0, .ref 17), (1, .int (Int32.ofInt v1)), (2, .int (Int32.ofInt v2)), (3, .int (Int32.ofInt v3)), (4, .int (Int32.ofInt v4)), (5, .int (Int32.ofInt v5)), (6, .int (Int32.ofInt e.1)), (7, .int (Int32.ofInt e.2.1))], []) (hp e.2.2 ++ x) r
def K_127_95 (k : zK) (d : Nat) (x : am_H) (r : am_A × am_H) (v1 : Int) (v2 : Int) (v3 : Int) (v4 : Int) (v5 : Int) (t : (zS)) : Prop := zgo k d 127 (158, [], []) (hp t ++ x) r
def t_113_1 (a : Int) : Nat := zswt 10 26 [84, 112, 96, 104, 112, 112, 112, 112, 112, 112, 112, 112, 112, 84, 112, 88, 84] 112 a
/-- RelationFinder$Machine.joined(IJJ)J -/
def f_113 (v0 : Int) (w1 : BitVec 64) (w3 : BitVec 64) : Option (BitVec 64) := zg (zR v0) (if t_113_1 v0 = 84 then (some (w1 &&& w3)) else (if t_113_1 v0 = 88 then (some (w1 &&& (w3 ^^^ (18446744073709551615#64)))) else (if t_113_1 v0 = 96 then (some ((w1 ^^^ (18446744073709551615#64)) ||| w3)) else (if t_113_1 v0 = 104 then (some ((w1 ^^^ w3) ^^^ (18446744073709551615#64))) else (if t_113_1 v0 = 112 then (some (w1 ||| w3)) else (none))))))
theorem w_113 {k : zK} {d : Nat} {x : am_H} {v0 : Int} {w1 : BitVec 64} {w3 : BitVec 64} {s : zS} {q : (BitVec 64)} (hd : 0 ≤ d) (h : f_113 v0 w1 w3 = some q) : zgo k d 113 (0, [(0, .int (Int32.ofInt v0)), (1, .long (Int64.ofBitVec w1)), (3, .long (Int64.ofBitVec w3))], []) (hp s ++ x) (.inl (some (.long (Int64.ofBitVec q))), hp s ++ x) := by
  unfold f_113 at h
  have hM := xM_113 k.1
  refine g_iload_n 1 hM rfl rfl rfl ?_
  obtain ⟨hg1, h⟩ := zg_some h
  by_cases hc2 : t_113_1 v0 = 84
  · rw [if_pos hc2] at h
    refine g_tsw 84 hM rfl hg1 hc2 rfl rfl rfl ?_
    refine g_lload_n 85 hM rfl rfl rfl ?_
    refine g_lload_n 86 hM rfl rfl rfl ?_
    refine g_land 87 hM rfl rfl ?_
    cases h
    exact g_ret hM rfl rfl
  · rw [if_neg hc2] at h
    by_cases hc3 : t_113_1 v0 = 88
    · rw [if_pos hc3] at h
      refine g_tsw 88 hM rfl hg1 hc3 rfl rfl rfl ?_
      refine g_lload_n 89 hM rfl rfl rfl ?_
      refine g_lload_n 90 hM rfl rfl rfl ?_
      refine g_ldc2 93 (18446744073709551615#64) hM rfl rfl rfl (by decide) ?_
      refine g_lxor 94 hM rfl rfl ?_
      refine g_land 95 hM rfl rfl ?_
      cases h
      exact g_ret hM rfl rfl
    · rw [if_neg hc3] at h
      by_cases hc4 : t_113_1 v0 = 96
      · rw [if_pos hc4] at h
        refine g_tsw 96 hM rfl hg1 hc4 rfl rfl rfl ?_
        refine g_lload_n 97 hM rfl rfl rfl ?_
        refine g_ldc2 100 (18446744073709551615#64) hM rfl rfl rfl (by decide) ?_
        refine g_lxor 101 hM rfl rfl ?_
        refine g_lload_n 102 hM rfl rfl rfl ?_
        refine g_lor 103 hM rfl rfl ?_
        cases h
        exact g_ret hM rfl rfl
      · rw [if_neg hc4] at h
        by_cases hc5 : t_113_1 v0 = 104
        · rw [if_pos hc5] at h
          refine g_tsw 104 hM rfl hg1 hc5 rfl rfl rfl ?_
          refine g_lload_n 105 hM rfl rfl rfl ?_
          refine g_lload_n 106 hM rfl rfl rfl ?_
          refine g_lxor 107 hM rfl rfl ?_
          refine g_ldc2 110 (18446744073709551615#64) hM rfl rfl rfl (by decide) ?_
          refine g_lxor 111 hM rfl rfl ?_
          cases h
          exact g_ret hM rfl rfl
        · rw [if_neg hc5] at h
          by_cases hc6 : t_113_1 v0 = 112
          · rw [if_pos hc6] at h
            refine g_tsw 112 hM rfl hg1 hc6 rfl rfl rfl ?_
            refine g_lload_n 113 hM rfl rfl rfl ?_
            refine g_lload_n 114 hM rfl rfl rfl ?_
            refine g_lor 115 hM rfl rfl ?_
            cases h
            exact g_ret hM rfl rfl
          · rw [if_neg hc6] at h
            cases h
def b_127_95 (v1 : Int) (v2 : Int) (v3 : Int) (v4 : Int) (v5 : Int) (v6 : Int) (v7 : Int) (s : zS) : Option ((Int × Int × zS) ⊕ (zS)) := zg (zR v6) (zg (zR v4) (if v6 < v4 then (zg (0 ≤ (v2 + v6) ∧ (v2 + v6) < 2750) (zg (0 ≤ (v3 + v7) ∧ (v3 + v7) < 2750) (zo (f_113 v1 (gJ s 18 (v2 + v6)) (gJ s 18 (v3 + v7))) (fun r7 => zg (zR (v7 + 1)) (zg (zR v5) (if (v7 + 1) < v5 then (some (.inl ((v6 + 1), (v7 + 1), (sJ s 18 (v2 + v6) r7)))) else (some (.inl ((v6 + 1), 0, (sJ s 18 (v2 + v6) r7)))))))))) else (some (.inr s))))
theorem wb_127_95 {k : zK} {d : Nat} {x : am_H} {r : am_A × am_H} {v1 : Int} {v2 : Int} {v3 : Int} {v4 : Int} {v5 : Int} {v6 : Int} {v7 : Int} {s : zS} {q : (Int × Int × zS) ⊕ (zS)} (hd : 1 ≤ d) (h : b_127_95 v1 v2 v3 v4 v5 v6 v7 s = some q) (hK : Sum.elim (G_127_95 k d x r v1 v2 v3 v4 v5) (K_127_95 k d x r v1 v2 v3 v4 v5) q) : G_127_95 k d x r v1 v2 v3 v4 v5 (v6, v7, s) := by
  unfold b_127_95 at h
  have hM := xM_127 k.1
  show zgo k d 127 (95, [(0, .ref 17), (1, .int (Int32.ofInt v1)), (2, .int (Int32.ofInt v2)), (3, .int (Int32.ofInt v3)), (4, .int (Int32.ofInt v4)), (5, .int (Int32.ofInt v5)), (6, .int (Int32.ofInt v6)), (7, .int (Int32.ofInt v7))], []) (hp s ++ x) r
  refine g_iload 97 hM rfl rfl rfl ?_
  refine g_iload 99 hM rfl rfl rfl ?_
  obtain ⟨hg1, h⟩ := zg_some h
  obtain ⟨hg2, h⟩ := zg_some h
  by_cases hc3 : v6 < v4
  · rw [if_pos hc3] at h
    refine g_ic_ge_f 102 158 hM rfl rfl rfl hg1 hg2 hc3 ?_
    refine g_aload_n 103 hM rfl rfl rfl ?_
    refine g_getF 106 hM rfl rfl rfl rfl rfl ?_
    refine g_iload_n 107 hM rfl rfl rfl ?_
    refine g_iload 109 hM rfl rfl rfl ?_
    refine g_iadd 110 hM rfl rfl ?_
    refine g_iload_n 111 hM rfl rfl rfl ?_
    refine g_aload_n 112 hM rfl rfl rfl ?_
    refine g_getF 115 hM rfl rfl rfl rfl rfl ?_
    refine g_iload_n 116 hM rfl rfl rfl ?_
    refine g_iload 118 hM rfl rfl rfl ?_
    refine g_iadd 119 hM rfl rfl ?_
    obtain ⟨hg4, h⟩ := zg_some h
    refine g_laload 120 (gJ s 18 (v2 + v6)) hM rfl rfl rfl rfl hg4 rfl ?_
    refine g_aload_n 121 hM rfl rfl rfl ?_
    refine g_getF 124 hM rfl rfl rfl rfl rfl ?_
    refine g_iload_n 125 hM rfl rfl rfl ?_
    refine g_iload 127 hM rfl rfl rfl ?_
    refine g_iadd 128 hM rfl rfl ?_
    obtain ⟨hg5, h⟩ := zg_some h
    refine g_laload 129 (gJ s 18 (v3 + v7)) hM rfl rfl rfl rfl hg5 rfl ?_
    obtain ⟨r7, h6, h⟩ := zo_some h
    refine g_call 132 _ [.long (Int64.ofBitVec r7), .int (Int32.ofInt (v2 + v6)), .ref 18] hM rfl rfl rfl rfl rfl (xM_113 _) rfl rfl rfl rfl (by omega) (w_113 (by omega) h6) rfl ?_
    refine g_lastore 133 hM rfl rfl rfl rfl hg4 ?_
    refine g_iinc 136 hM rfl rfl rfl rfl ?_
    refine g_iload 138 hM rfl rfl rfl ?_
    refine g_iconst 139 hM rfl rfl ?_
    refine g_iadd 140 hM rfl rfl ?_
    refine g_iload 142 hM rfl rfl rfl ?_
    obtain ⟨hg8, h⟩ := zg_some h
    obtain ⟨hg9, h⟩ := zg_some h
    by_cases hc10 : (v7 + 1) < v5
    · rw [if_pos hc10] at h
      refine g_ic_ge_f 145 152 hM rfl rfl rfl hg8 hg9 hc10 ?_
      refine g_iload 147 hM rfl rfl rfl ?_
      refine g_iconst 148 hM rfl rfl ?_
      refine g_iadd 149 hM rfl rfl ?_
      refine g_goto 153 hM rfl rfl ?_
      refine g_istore 155 hM rfl rfl rfl ?_
      refine g_goto 95 hM rfl rfl ?_
      cases h
      exact g_lv [(0, .ref 17), (1, .int (Int32.ofInt v1)), (2, .int (Int32.ofInt v2)), (3, .int (Int32.ofInt v3)), (4, .int (Int32.ofInt v4)), (5, .int (Int32.ofInt v5)), (6, .int (Int32.ofInt (v6 + 1))), (7, .int (Int32.ofInt (v7 + 1)))] rfl ⟨rfl, rfl, rfl, rfl, rfl, rfl, rfl, rfl, trivial⟩ hK
    · rw [if_neg hc10] at h
      refine g_ic_ge_t 152 hM rfl rfl hg8 hg9 hc10 ?_
      refine g_iconst 153 hM rfl rfl ?_
      refine g_istore 155 hM rfl rfl rfl ?_
      refine g_goto 95 hM rfl rfl ?_
      cases h
      exact g_lv [(0, .ref 17), (1, .int (Int32.ofInt v1)), (2, .int (Int32.ofInt v2)), (3, .int (Int32.ofInt v3)), (4, .int (Int32.ofInt v4)), (5, .int (Int32.ofInt v5)), (6, .int (Int32.ofInt (v6 + 1))), (7, .int (Int32.ofInt 0))] rfl ⟨rfl, rfl, rfl, rfl, rfl, rfl, rfl, rfl, trivial⟩ hK
  · rw [if_neg hc3] at h
    refine g_ic_ge_t 158 hM rfl rfl hg1 hg2 hc3 ?_
    cases h
    exact g_lv [] rfl trivial hK
theorem wl_127_95 {k : zK} {d : Nat} {x : am_H} {r : am_A × am_H} {v1 : Int} {v2 : Int} {v3 : Int} {v4 : Int} {v5 : Int} {n : Nat} {e : (Int × Int × zS)} {t : (zS)} (hd : 1 ≤ d) (h : zlp (fun (q : Int × Int × zS) => b_127_95 v1 v2 v3 v4 v5 q.1 q.2.1 q.2.2) n e = some t) (hK : K_127_95 k d x r v1 v2 v3 v4 v5 t) : G_127_95 k d x r v1 v2 v3 v4 v5 e := zlp_go (G := fun e => G_127_95 k d x r v1 v2 v3 v4 v5 e) (K := K_127_95 k d x r v1 v2 v3 v4 v5) (fun e e1 h1 hg => wb_127_95 (q := .inl e1) hd h1 hg) (fun e t1 h1 hk => wb_127_95 (q := .inr t1) hd h1 hk) n e t h hK
def j_127_87 (v1 : Int) (v2 : Int) (v3 : Int) (v4 : Int) (t0 : Int) (s : zS) : Option (Unit × zS) := zo (zlp (fun (q : Int × Int × zS) => b_127_95 v1 v2 v3 v4 t0 q.1 q.2.1 q.2.2) zF (0, 0, s)) (fun e1 => some ((), e1))
theorem wj_127_87 {k : zK} {d : Nat} {x : am_H} {v1 : Int} {v2 : Int} {v3 : Int} {v4 : Int} {t0 : Int} {s : zS} {q : (Unit × zS)} (hd : 1 ≤ d) (h : j_127_87 v1 v2 v3 v4 t0 s = some q) : zgo k d 127 (87, [(0, .ref 17), (1, .int (Int32.ofInt v1)), (2, .int (Int32.ofInt v2)), (3, .int (Int32.ofInt v3)), (4, .int (Int32.ofInt v4))], [.int (Int32.ofInt t0)]) (hp s ++ x) (.inl (none), hp q.2 ++ x) := by
  unfold j_127_87 at h
  have hM := xM_127 k.1
  refine g_istore 89 hM rfl rfl rfl ?_
  refine g_iconst 90 hM rfl rfl ?_
  refine g_istore 92 hM rfl rfl rfl ?_
  refine g_iconst 93 hM rfl rfl ?_
  refine g_istore 95 hM rfl rfl rfl ?_
  obtain ⟨e1, h2, h⟩ := zo_some h
  refine g_lv [(0, .ref 17), (1, .int (Int32.ofInt v1)), (2, .int (Int32.ofInt v2)), (3, .int (Int32.ofInt v3)), (4, .int (Int32.ofInt v4)), (5, .int (Int32.ofInt t0)), (6, .int (Int32.ofInt 0)), (7, .int (Int32.ofInt 0))] rfl ⟨rfl, rfl, rfl, rfl, rfl, rfl, rfl, rfl, trivial⟩ ?_
  refine wl_127_95 (by omega) h2 ?_
  show zgo k d 127 (158, [], []) (hp e1 ++ x) (.inl (none), hp q.2 ++ x)
  cases h
  exact g_ret hM rfl rfl
def j_127_49 (v1 : Int) (v2 : Int) (v3 : Int) (s : zS) : Option (Unit × zS) := zg (0 ≤ ((gI s 17 3) - 1) ∧ ((gI s 17 3) - 1) < 22) (zo (f_52 (gI s 19 ((gI s 17 3) - 1)) s) (fun r3 => zg (zR v1) (if v1 = 23 then (j_127_87 v1 v2 v3 r3 (gI s 1 0) s) else (j_127_87 v1 v2 v3 r3 r3 s))))
theorem wj_127_49 {k : zK} {d : Nat} {x : am_H} {v1 : Int} {v2 : Int} {v3 : Int} {s : zS} {q : (Unit × zS)} (hd : 1 ≤ d) (h : j_127_49 v1 v2 v3 s = some q) : zgo k d 127 (49, [(0, .ref 17), (1, .int (Int32.ofInt v1)), (2, .int (Int32.ofInt v2)), (3, .int (Int32.ofInt v3))], []) (hp s ++ x) (.inl (none), hp q.2 ++ x) := by
  unfold j_127_49 at h
  have hM := xM_127 k.1
  refine g_aload_n 50 hM rfl rfl rfl ?_
  refine g_getF 53 hM rfl rfl rfl rfl rfl ?_
  refine g_aload_n 54 hM rfl rfl rfl ?_
  refine g_getF 57 hM rfl rfl rfl rfl rfl ?_
  refine g_aload_n 58 hM rfl rfl rfl ?_
  refine g_getI 61 3 (gI s 17 3) hM rfl rfl rfl rfl rfl rfl rfl ?_
  refine g_iconst 62 hM rfl rfl ?_
  refine g_isub 63 hM rfl rfl ?_
  obtain ⟨hg1, h⟩ := zg_some h
  refine g_iaload 64 (gI s 19 ((gI s 17 3) - 1)) hM rfl rfl rfl rfl hg1 rfl ?_
  obtain ⟨r3, h2, h⟩ := zo_some h
  refine g_call 67 _ [.int (Int32.ofInt r3)] hM rfl rfl rfl rfl rfl (xM_52 _) rfl (z_rcv2 rfl) rfl rfl (by omega) (w_52 (by omega) h2) rfl ?_
  refine g_istore 69 hM rfl rfl rfl ?_
  refine g_iload_n 70 hM rfl rfl rfl ?_
  refine g_bipush 72 hM rfl rfl rfl ?_
  obtain ⟨hg4, h⟩ := zg_some h
  by_cases hc5 : v1 = 23
  · rw [if_pos hc5] at h
    refine g_ic_ne_f 75 85 hM rfl rfl rfl hg4 (zR_lit rfl) hc5 ?_
    refine g_aload_n 76 hM rfl rfl rfl ?_
    refine g_getF 79 hM rfl rfl rfl rfl rfl ?_
    refine g_getI 82 0 (gI s 1 0) hM rfl rfl rfl rfl rfl rfl rfl ?_
    refine g_goto 87 hM rfl rfl ?_
    refine g_lv [(0, .ref 17), (1, .int (Int32.ofInt v1)), (2, .int (Int32.ofInt v2)), (3, .int (Int32.ofInt v3)), (4, .int (Int32.ofInt r3))] rfl ⟨rfl, rfl, rfl, rfl, rfl, trivial⟩ ?_
    exact wj_127_87 (by omega) h
  · rw [if_neg hc5] at h
    refine g_ic_ne_t 85 hM rfl rfl hg4 (zR_lit rfl) hc5 ?_
    refine g_iload 87 hM rfl rfl rfl ?_
    refine g_lv [(0, .ref 17), (1, .int (Int32.ofInt v1)), (2, .int (Int32.ofInt v2)), (3, .int (Int32.ofInt v3)), (4, .int (Int32.ofInt r3))] rfl ⟨rfl, rfl, rfl, rfl, rfl, trivial⟩ ?_
    exact wj_127_87 (by omega) h
/-- RelationFinder$Machine.applyWordwise(I)V -/
def f_127 (v1 : Int) (s : zS) : Option (Unit × zS) := if (gI s 17 3) < 2 then (some ((), s)) else (zg (zR v1) (if v1 = 21 then (zb (f_128 (((gI (sI s 17 3 ((gI s 17 3) - 1)) 17 3) - 1) * 125) ((gI (sI s 17 3 ((gI s 17 3) - 1)) 17 3) * 125) (sI s 17 3 ((gI s 17 3) - 1))) (fun r5 s6 => j_127_49 v1 (((gI (sI s 17 3 ((gI s 17 3) - 1)) 17 3) - 1) * 125) ((gI (sI s 17 3 ((gI s 17 3) - 1)) 17 3) * 125) s6)) else (j_127_49 v1 (((gI (sI s 17 3 ((gI s 17 3) - 1)) 17 3) - 1) * 125) ((gI (sI s 17 3 ((gI s 17 3) - 1)) 17 3) * 125) (sI s 17 3 ((gI s 17 3) - 1)))))
theorem w_127 {k : zK} {d : Nat} {x : am_H} {v1 : Int} {s : zS} {q : (Unit × zS)} (hd : 1 ≤ d) (h : f_127 v1 s = some q) : zgo k d 127 (0, [(0, .ref 17), (1, .int (Int32.ofInt v1))], []) (hp s ++ x) (.inl (none), hp q.2 ++ x) := by
  unfold f_127 at h
  have hM := xM_127 k.1
  refine g_aload_n 1 hM rfl rfl rfl ?_
  refine g_getI 4 3 (gI s 17 3) hM rfl rfl rfl rfl rfl rfl rfl ?_
  refine g_iconst 5 hM rfl rfl ?_
  by_cases hc1 : (gI s 17 3) < 2
  · rw [if_pos hc1] at h
    refine g_ic_ge_f 8 9 hM rfl rfl rfl (zR_gI _ _ _) (zR_lit rfl) hc1 ?_
    cases h
    exact g_ret hM rfl rfl
  · rw [if_neg hc1] at h
    refine g_ic_ge_t 9 hM rfl rfl (zR_gI _ _ _) (zR_lit rfl) hc1 ?_
    refine g_aload_n 10 hM rfl rfl rfl ?_
    refine g_dup 11 hM rfl rfl rfl ?_
    refine g_getI 14 3 (gI s 17 3) hM rfl rfl rfl rfl rfl rfl rfl ?_
    refine g_iconst 15 hM rfl rfl ?_
    refine g_isub 16 hM rfl rfl ?_
    refine g_putI 19 3 hM rfl rfl rfl rfl rfl rfl rfl ?_
    refine g_aload_n 20 hM rfl rfl rfl ?_
    refine g_getI 23 3 (gI (sI s 17 3 ((gI s 17 3) - 1)) 17 3) hM rfl rfl rfl rfl rfl rfl rfl ?_
    refine g_iconst 24 hM rfl rfl ?_
    refine g_isub 25 hM rfl rfl ?_
    refine g_bipush 27 hM rfl rfl rfl ?_
    refine g_imul 28 hM rfl rfl ?_
    refine g_istore_n 29 hM rfl rfl rfl ?_
    refine g_aload_n 30 hM rfl rfl rfl ?_
    refine g_getI 33 3 (gI (sI s 17 3 ((gI s 17 3) - 1)) 17 3) hM rfl rfl rfl rfl rfl rfl rfl ?_
    refine g_bipush 35 hM rfl rfl rfl ?_
    refine g_imul 36 hM rfl rfl ?_
    refine g_istore_n 37 hM rfl rfl rfl ?_
    refine g_iload_n 38 hM rfl rfl rfl ?_
    refine g_bipush 40 hM rfl rfl rfl ?_
    obtain ⟨hg2, h⟩ := zg_some h
    by_cases hc3 : v1 = 21
    · rw [if_pos hc3] at h
      refine g_ic_ne_f 43 49 hM rfl rfl rfl hg2 (zR_lit rfl) hc3 ?_
      refine g_aload_n 44 hM rfl rfl rfl ?_
      refine g_iload_n 45 hM rfl rfl rfl ?_
      refine g_iload_n 46 hM rfl rfl rfl ?_
      obtain ⟨r5, s6, h4, h⟩ := zb_some h
      refine g_call 49 _ [] hM rfl rfl rfl rfl rfl (xM_128 _) rfl (z_rcv2 rfl) rfl rfl (by omega) (w_128 (by omega) h4) rfl ?_
      refine g_lv [(0, .ref 17), (1, .int (Int32.ofInt v1)), (2, .int (Int32.ofInt (((gI (sI s 17 3 ((gI s 17 3) - 1)) 17 3) - 1) * 125))), (3, .int (Int32.ofInt ((gI (sI s 17 3 ((gI s 17 3) - 1)) 17 3) * 125)))] rfl ⟨rfl, rfl, rfl, rfl, trivial⟩ ?_
      exact wj_127_49 (by omega) h
    · rw [if_neg hc3] at h
      refine g_ic_ne_t 49 hM rfl rfl hg2 (zR_lit rfl) hc3 ?_
      refine g_lv [(0, .ref 17), (1, .int (Int32.ofInt v1)), (2, .int (Int32.ofInt (((gI (sI s 17 3 ((gI s 17 3) - 1)) 17 3) - 1) * 125))), (3, .int (Int32.ofInt ((gI (sI s 17 3 ((gI s 17 3) - 1)) 17 3) * 125)))] rfl ⟨rfl, rfl, rfl, rfl, trivial⟩ ?_
      exact wj_127_49 (by omega) h
/-- RelationFinder$Machine.apply(LRelationFinder$Code;I)V -/
def f_114 (c1 : Nat) (v2 : Int) (s : zS) : Option (Unit × zS) := zg (zC c1 = true) (zg (0 ≤ v2 ∧ v2 < 200) (if t_114_8 (gI s (c1 + 1) v2) = 184 then (if (gI s (c1 + 1) v2) = 43 then (zg (0 ≤ (gI s (c1 + 2) v2) ∧ (gI s (c1 + 2) v2) < 20) (zb (f_115 (gI s (c1 + 1) v2) (gI s 20 (gI s (c1 + 2) v2)) s) (fun r7 s8 => some ((), s8)))) else (zb (f_115 (gI s (c1 + 1) v2) (gI s 20 0) s) (fun r10 s11 => some ((), s11)))) else (if t_114_8 (gI s (c1 + 1) v2) = 213 then (zb (f_117 (gI s (c1 + 2) v2) s) (fun r14 s15 => some ((), s15))) else (if t_114_8 (gI s (c1 + 1) v2) = 226 then (zb (f_118 (gI s (c1 + 3) v2) (gI s (c1 + 2) v2) s) (fun r18 s19 => some ((), s19))) else (if t_114_8 (gI s (c1 + 1) v2) = 245 then (zb (f_119 (gI s (c1 + 1) v2) s) (fun r22 s23 => some ((), s23))) else (if t_114_8 (gI s (c1 + 1) v2) = 253 then (zb (f_120 (gI s (c1 + 1) v2) s) (fun r26 s27 => some ((), s27))) else (if t_114_8 (gI s (c1 + 1) v2) = 261 then (zb (f_123 (gI s (c1 + 1) v2) s) (fun r30 s31 => some ((), s31))) else (if t_114_8 (gI s (c1 + 1) v2) = 269 then (zb (f_124 s) (fun r34 s35 => some ((), s35))) else (if t_114_8 (gI s (c1 + 1) v2) = 276 then (zb (f_125 s) (fun r38 s39 => some ((), s39))) else (if t_114_8 (gI s (c1 + 1) v2) = 283 then (zb (f_126 s) (fun r42 s43 => some ((), s43))) else (if t_114_8 (gI s (c1 + 1) v2) = 290 then (zb (f_127 (gI s (c1 + 1) v2) s) (fun r46 s47 => some ((), s47))) else (none))))))))))))
theorem w_114 {k : zK} {d : Nat} {x : am_H} {c1 : Nat} {v2 : Int} {s : zS} {q : (Unit × zS)} (hd : 2 ≤ d) (h : f_114 c1 v2 s = some q) : zgo k d 114 (0, [(0, .ref 17), (1, .ref c1), (2, .int (Int32.ofInt v2))], []) (hp s ++ x) (.inl (none), hp q.2 ++ x) := by
  unfold f_114 at h
  have hM := xM_114 k.1
  refine g_aload_n 1 hM rfl rfl rfl ?_
  obtain ⟨hg1, h⟩ := zg_some h
  refine g_getR 4 hM rfl rfl rfl (zC_obj hg1) rfl ?_
  refine g_iload_n 5 hM rfl rfl rfl ?_
  obtain ⟨hg2, h⟩ := zg_some h
  refine g_iaload 6 (gI s (c1 + 1) v2) hM rfl rfl (zC_a1 hg1) rfl hg2 rfl ?_
  refine g_istore_n 7 hM rfl rfl rfl ?_
  refine g_iload_n 8 hM rfl rfl rfl ?_
  by_cases hc3 : t_114_8 (gI s (c1 + 1) v2) = 184
  · rw [if_pos hc3] at h
    refine g_tsw 184 hM rfl (zR_gI _ _ _) hc3 rfl rfl rfl ?_
    refine g_aload_n 185 hM rfl rfl rfl ?_
    refine g_iload_n 186 hM rfl rfl rfl ?_
    refine g_aload_n 187 hM rfl rfl rfl ?_
    refine g_getF 190 hM rfl rfl rfl rfl rfl ?_
    refine g_iload_n 191 hM rfl rfl rfl ?_
    refine g_bipush 193 hM rfl rfl rfl ?_
    by_cases hc4 : (gI s (c1 + 1) v2) = 43
    · rw [if_pos hc4] at h
      refine g_ic_ne_f 196 205 hM rfl rfl rfl (zR_gI _ _ _) (zR_lit rfl) hc4 ?_
      refine g_aload_n 197 hM rfl rfl rfl ?_
      refine g_getR 200 hM rfl rfl rfl (zC_obj hg1) rfl ?_
      refine g_iload_n 201 hM rfl rfl rfl ?_
      refine g_iaload 202 (gI s (c1 + 2) v2) hM rfl rfl (zC_a2 hg1) rfl hg2 rfl ?_
      refine g_goto 206 hM rfl rfl ?_
      obtain ⟨hg5, h⟩ := zg_some h
      refine g_iaload 207 (gI s 20 (gI s (c1 + 2) v2)) hM rfl rfl rfl rfl hg5 rfl ?_
      obtain ⟨r7, s8, h6, h⟩ := zb_some h
      refine g_call 210 _ [] hM rfl rfl rfl rfl rfl (xM_115 _) rfl (z_rcv2 rfl) rfl rfl (by omega) (w_115 (by omega) h6) rfl ?_
      refine g_goto 295 hM rfl rfl ?_
      cases h
      exact g_ret hM rfl rfl
    · rw [if_neg hc4] at h
      refine g_ic_ne_t 205 hM rfl rfl (zR_gI _ _ _) (zR_lit rfl) hc4 ?_
      refine g_iconst 206 hM rfl rfl ?_
      refine g_iaload 207 (gI s 20 0) hM rfl rfl rfl rfl ⟨by decide, by decide⟩ rfl ?_
      obtain ⟨r10, s11, h9, h⟩ := zb_some h
      refine g_call 210 _ [] hM rfl rfl rfl rfl rfl (xM_115 _) rfl (z_rcv2 rfl) rfl rfl (by omega) (w_115 (by omega) h9) rfl ?_
      refine g_goto 295 hM rfl rfl ?_
      cases h
      exact g_ret hM rfl rfl
  · rw [if_neg hc3] at h
    by_cases hc12 : t_114_8 (gI s (c1 + 1) v2) = 213
    · rw [if_pos hc12] at h
      refine g_tsw 213 hM rfl (zR_gI _ _ _) hc12 rfl rfl rfl ?_
      refine g_aload_n 214 hM rfl rfl rfl ?_
      refine g_aload_n 215 hM rfl rfl rfl ?_
      refine g_getR 218 hM rfl rfl rfl (zC_obj hg1) rfl ?_
      refine g_iload_n 219 hM rfl rfl rfl ?_
      refine g_iaload 220 (gI s (c1 + 2) v2) hM rfl rfl (zC_a2 hg1) rfl hg2 rfl ?_
      obtain ⟨r14, s15, h13, h⟩ := zb_some h
      refine g_call 223 _ [] hM rfl rfl rfl rfl rfl (xM_117 _) rfl (z_rcv2 rfl) rfl rfl (by omega) (w_117 (by omega) h13) rfl ?_
      refine g_goto 295 hM rfl rfl ?_
      cases h
      exact g_ret hM rfl rfl
    · rw [if_neg hc12] at h
      by_cases hc16 : t_114_8 (gI s (c1 + 1) v2) = 226
      · rw [if_pos hc16] at h
        refine g_tsw 226 hM rfl (zR_gI _ _ _) hc16 rfl rfl rfl ?_
        refine g_aload_n 227 hM rfl rfl rfl ?_
        refine g_aload_n 228 hM rfl rfl rfl ?_
        refine g_getR 231 hM rfl rfl rfl (zC_obj hg1) rfl ?_
        refine g_iload_n 232 hM rfl rfl rfl ?_
        refine g_iaload 233 (gI s (c1 + 3) v2) hM rfl rfl (zC_a3 hg1) rfl hg2 rfl ?_
        refine g_aload_n 234 hM rfl rfl rfl ?_
        refine g_getR 237 hM rfl rfl rfl (zC_obj hg1) rfl ?_
        refine g_iload_n 238 hM rfl rfl rfl ?_
        refine g_iaload 239 (gI s (c1 + 2) v2) hM rfl rfl (zC_a2 hg1) rfl hg2 rfl ?_
        obtain ⟨r18, s19, h17, h⟩ := zb_some h
        refine g_call 242 _ [] hM rfl rfl rfl rfl rfl (xM_118 _) rfl (z_rcv2 rfl) rfl rfl (by omega) (w_118 (by omega) h17) rfl ?_
        refine g_goto 295 hM rfl rfl ?_
        cases h
        exact g_ret hM rfl rfl
      · rw [if_neg hc16] at h
        by_cases hc20 : t_114_8 (gI s (c1 + 1) v2) = 245
        · rw [if_pos hc20] at h
          refine g_tsw 245 hM rfl (zR_gI _ _ _) hc20 rfl rfl rfl ?_
          refine g_aload_n 246 hM rfl rfl rfl ?_
          refine g_iload_n 247 hM rfl rfl rfl ?_
          obtain ⟨r22, s23, h21, h⟩ := zb_some h
          refine g_call 250 _ [] hM rfl rfl rfl rfl rfl (xM_119 _) rfl (z_rcv2 rfl) rfl rfl (by omega) (w_119 (by omega) h21) rfl ?_
          refine g_goto 295 hM rfl rfl ?_
          cases h
          exact g_ret hM rfl rfl
        · rw [if_neg hc20] at h
          by_cases hc24 : t_114_8 (gI s (c1 + 1) v2) = 253
          · rw [if_pos hc24] at h
            refine g_tsw 253 hM rfl (zR_gI _ _ _) hc24 rfl rfl rfl ?_
            refine g_aload_n 254 hM rfl rfl rfl ?_
            refine g_iload_n 255 hM rfl rfl rfl ?_
            obtain ⟨r26, s27, h25, h⟩ := zb_some h
            refine g_call 258 _ [] hM rfl rfl rfl rfl rfl (xM_120 _) rfl (z_rcv2 rfl) rfl rfl (by omega) (w_120 (by omega) h25) rfl ?_
            refine g_goto 295 hM rfl rfl ?_
            cases h
            exact g_ret hM rfl rfl
          · rw [if_neg hc24] at h
            by_cases hc28 : t_114_8 (gI s (c1 + 1) v2) = 261
            · rw [if_pos hc28] at h
              refine g_tsw 261 hM rfl (zR_gI _ _ _) hc28 rfl rfl rfl ?_
              refine g_aload_n 262 hM rfl rfl rfl ?_
              refine g_iload_n 263 hM rfl rfl rfl ?_
              obtain ⟨r30, s31, h29, h⟩ := zb_some h
              refine g_call 266 _ [] hM rfl rfl rfl rfl rfl (xM_123 _) rfl (z_rcv2 rfl) rfl rfl (by omega) (w_123 (by omega) h29) rfl ?_
              refine g_goto 295 hM rfl rfl ?_
              cases h
              exact g_ret hM rfl rfl
            · rw [if_neg hc28] at h
              by_cases hc32 : t_114_8 (gI s (c1 + 1) v2) = 269
              · rw [if_pos hc32] at h
                refine g_tsw 269 hM rfl (zR_gI _ _ _) hc32 rfl rfl rfl ?_
                refine g_aload_n 270 hM rfl rfl rfl ?_
                obtain ⟨r34, s35, h33, h⟩ := zb_some h
                refine g_call 273 _ [] hM rfl rfl rfl rfl rfl (xM_124 _) rfl (z_rcv2 rfl) rfl rfl (by omega) (w_124 (by omega) h33) rfl ?_
                refine g_goto 295 hM rfl rfl ?_
                cases h
                exact g_ret hM rfl rfl
              · rw [if_neg hc32] at h
                by_cases hc36 : t_114_8 (gI s (c1 + 1) v2) = 276
                · rw [if_pos hc36] at h
                  refine g_tsw 276 hM rfl (zR_gI _ _ _) hc36 rfl rfl rfl ?_
                  refine g_aload_n 277 hM rfl rfl rfl ?_
                  obtain ⟨r38, s39, h37, h⟩ := zb_some h
                  refine g_call 280 _ [] hM rfl rfl rfl rfl rfl (xM_125 _) rfl (z_rcv2 rfl) rfl rfl (by omega) (w_125 (by omega) h37) rfl ?_
                  refine g_goto 295 hM rfl rfl ?_
                  cases h
                  exact g_ret hM rfl rfl
                · rw [if_neg hc36] at h
                  by_cases hc40 : t_114_8 (gI s (c1 + 1) v2) = 283
                  · rw [if_pos hc40] at h
                    refine g_tsw 283 hM rfl (zR_gI _ _ _) hc40 rfl rfl rfl ?_
                    refine g_aload_n 284 hM rfl rfl rfl ?_
                    obtain ⟨r42, s43, h41, h⟩ := zb_some h
                    refine g_call 287 _ [] hM rfl rfl rfl rfl rfl (xM_126 _) rfl (z_rcv2 rfl) rfl rfl (by omega) (w_126 (by omega) h41) rfl ?_
                    refine g_goto 295 hM rfl rfl ?_
                    cases h
                    exact g_ret hM rfl rfl
                  · rw [if_neg hc40] at h
                    by_cases hc44 : t_114_8 (gI s (c1 + 1) v2) = 290
                    · rw [if_pos hc44] at h
                      refine g_tsw 290 hM rfl (zR_gI _ _ _) hc44 rfl rfl rfl ?_
                      refine g_aload_n 291 hM rfl rfl rfl ?_
                      refine g_iload_n 292 hM rfl rfl rfl ?_
                      obtain ⟨r46, s47, h45, h⟩ := zb_some h
                      refine g_call 295 _ [] hM rfl rfl rfl rfl rfl (xM_127 _) rfl (z_rcv2 rfl) rfl rfl (by omega) (w_127 (by omega) h45) rfl ?_
                      cases h
                      exact g_ret hM rfl rfl
                    · rw [if_neg hc44] at h
                      cases h
def j_112_84 (rec : Nat → Int → Int → BitVec 64 → Int → zS → Option (Unit × zS)) (c1 : Nat) (v2 : Int) (v6 : Int) (w7 : BitVec 64) (u0 : BitVec 64) (s : zS) : Option (Unit × zS) := zg (zC c1 = true) (zg (0 ≤ v2 ∧ v2 < 200) (zo (f_113 (gI s (c1 + 1) v2) w7 u0) (fun r4 => zg (0 ≤ v6 ∧ v6 < 2750) (some ((), (sJ s 18 v6 r4))))))
theorem wj_112_84 {k : zK} {d : Nat} {x : am_H} {rec : Nat → Int → Int → BitVec 64 → Int → zS → Option (Unit × zS)} {Dr : Nat} {c1 : Nat} {v2 : Int} {v6 : Int} {w7 : BitVec 64} {u0 : BitVec 64} {s : zS} {q : (Unit × zS)} (hd : Dr + 2 ≤ d) (hrec : zRec k rec Dr) (h : j_112_84 rec c1 v2 v6 w7 u0 s = some q) : zgo k d 112 (84, [(0, .ref 17), (1, .ref c1), (2, .int (Int32.ofInt v2)), (6, .int (Int32.ofInt v6)), (7, .long (Int64.ofBitVec w7))], [.long (Int64.ofBitVec u0)]) (hp s ++ x) (.inl (none), hp q.2 ++ x) := by
  unfold j_112_84 at h
  have hM := xM_112 k.1
  refine g_lstore 86 hM rfl rfl rfl ?_
  refine g_aload_n 87 hM rfl rfl rfl ?_
  refine g_getF 90 hM rfl rfl rfl rfl rfl ?_
  refine g_iload 92 hM rfl rfl rfl ?_
  refine g_aload_n 93 hM rfl rfl rfl ?_
  obtain ⟨hg1, h⟩ := zg_some h
  refine g_getR 96 hM rfl rfl rfl (zC_obj hg1) rfl ?_
  refine g_iload_n 97 hM rfl rfl rfl ?_
  obtain ⟨hg2, h⟩ := zg_some h
  refine g_iaload 98 (gI s (c1 + 1) v2) hM rfl rfl (zC_a1 hg1) rfl hg2 rfl ?_
  refine g_lload 100 hM rfl rfl rfl ?_
  refine g_lload 102 hM rfl rfl rfl ?_
  obtain ⟨r4, h3, h⟩ := zo_some h
  refine g_call 105 _ [.long (Int64.ofBitVec r4), .int (Int32.ofInt v6), .ref 18] hM rfl rfl rfl rfl rfl (xM_113 _) rfl rfl rfl rfl (by omega) (w_113 (by omega) h3) rfl ?_
  obtain ⟨hg5, h⟩ := zg_some h
  refine g_lastore 106 hM rfl rfl rfl rfl hg5 ?_
  cases h
  exact g_ret hM rfl rfl
def j_112_52 (rec : Nat → Int → Int → BitVec 64 → Int → zS → Option (Unit × zS)) (c1 : Nat) (v2 : Int) (v5 : Int) (v6 : Int) (w7 : BitVec 64) (u0 : BitVec 64) (u1 : BitVec 64) (s : zS) : Option (Unit × zS) := if (u0 &&& u1) = (0#64) then (j_112_84 rec c1 v2 v6 w7 (0#64) s) else (zg (zC c1 = true) (zg (0 ≤ v2 ∧ v2 < 200) (zb (f_108 rec c1 (v2 + 1) (gI s (c1 + 5) v2) (u0 &&& u1) v5 s) (fun r5 s6 => j_112_84 rec c1 v2 v6 w7 r5 s6))))
theorem wj_112_52 {k : zK} {d : Nat} {x : am_H} {rec : Nat → Int → Int → BitVec 64 → Int → zS → Option (Unit × zS)} {Dr : Nat} {c1 : Nat} {v2 : Int} {v5 : Int} {v6 : Int} {w7 : BitVec 64} {u0 : BitVec 64} {u1 : BitVec 64} {s : zS} {q : (Unit × zS)} (hd : Dr + 2 ≤ d) (hrec : zRec k rec Dr) (h : j_112_52 rec c1 v2 v5 v6 w7 u0 u1 s = some q) : zgo k d 112 (52, [(0, .ref 17), (1, .ref c1), (2, .int (Int32.ofInt v2)), (5, .int (Int32.ofInt v5)), (6, .int (Int32.ofInt v6)), (7, .long (Int64.ofBitVec w7))], [.long (Int64.ofBitVec u1), .long (Int64.ofBitVec u0)]) (hp s ++ x) (.inl (none), hp q.2 ++ x) := by
  unfold j_112_52 at h
  have hM := xM_112 k.1
  refine g_land 53 hM rfl rfl ?_
  refine g_lstore 55 hM rfl rfl rfl ?_
  refine g_lload 57 hM rfl rfl rfl ?_
  refine g_lconst 58 (0#64) hM rfl rfl rfl ?_
  by_cases hc1 : (u0 &&& u1) = (0#64)
  · rw [if_pos hc1] at h
    refine g_lc_ne_f 59 62 66 hM rfl rfl rfl rfl rfl hc1 ?_
    refine g_lconst 63 (0#64) hM rfl rfl rfl ?_
    refine g_goto 84 hM rfl rfl ?_
    refine g_lv [(0, .ref 17), (1, .ref c1), (2, .int (Int32.ofInt v2)), (6, .int (Int32.ofInt v6)), (7, .long (Int64.ofBitVec w7))] rfl ⟨rfl, rfl, rfl, rfl, rfl, trivial⟩ ?_
    exact wj_112_84 (by omega) hrec h
  · rw [if_neg hc1] at h
    refine g_lc_ne_t 59 66 hM rfl rfl rfl rfl hc1 ?_
    refine g_aload_n 67 hM rfl rfl rfl ?_
    refine g_aload_n 68 hM rfl rfl rfl ?_
    refine g_iload_n 69 hM rfl rfl rfl ?_
    refine g_iconst 70 hM rfl rfl ?_
    refine g_iadd 71 hM rfl rfl ?_
    refine g_aload_n 72 hM rfl rfl rfl ?_
    obtain ⟨hg2, h⟩ := zg_some h
    refine g_getR 75 hM rfl rfl rfl (zC_obj hg2) rfl ?_
    refine g_iload_n 76 hM rfl rfl rfl ?_
    obtain ⟨hg3, h⟩ := zg_some h
    refine g_iaload 77 (gI s (c1 + 5) v2) hM rfl rfl (zC_a5 hg2) rfl hg3 rfl ?_
    refine g_lload 79 hM rfl rfl rfl ?_
    refine g_iload 81 hM rfl rfl rfl ?_
    obtain ⟨r5, s6, h4, h⟩ := zb_some h
    refine g_call 84 _ [.long (Int64.ofBitVec r5)] hM rfl rfl rfl rfl rfl (xM_108 _) rfl (z_rcv2 rfl) rfl rfl (by omega) (w_108 (by omega) hrec h4) rfl ?_
    refine g_lv [(0, .ref 17), (1, .ref c1), (2, .int (Int32.ofInt v2)), (6, .int (Int32.ofInt v6)), (7, .long (Int64.ofBitVec w7))] rfl ⟨rfl, rfl, rfl, rfl, rfl, trivial⟩ ?_
    exact wj_112_84 (by omega) hrec h
/-- RelationFinder$Machine.connect(LRelationFinder$Code;IJI)V -/
def f_112 (rec : Nat → Int → Int → BitVec 64 → Int → zS → Option (Unit × zS)) (c1 : Nat) (v2 : Int) (w3 : BitVec 64) (v5 : Int) (s : zS) : Option (Unit × zS) := if (gI s 17 3) < 1 then (some ((), s)) else (zg (0 ≤ (((gI s 17 3) - 1) * 125) ∧ (((gI s 17 3) - 1) * 125) < 2750) (zg (zC c1 = true) (zg (0 ≤ v2 ∧ v2 < 200) (if (gI s (c1 + 1) v2) = 11 then (j_112_52 rec c1 v2 v5 (((gI s 17 3) - 1) * 125) (gJ s 18 (((gI s 17 3) - 1) * 125)) w3 ((gJ s 18 (((gI s 17 3) - 1) * 125)) ^^^ (18446744073709551615#64)) s) else (j_112_52 rec c1 v2 v5 (((gI s 17 3) - 1) * 125) (gJ s 18 (((gI s 17 3) - 1) * 125)) w3 (gJ s 18 (((gI s 17 3) - 1) * 125)) s)))))
theorem w_112 {k : zK} {d : Nat} {x : am_H} {rec : Nat → Int → Int → BitVec 64 → Int → zS → Option (Unit × zS)} {Dr : Nat} {c1 : Nat} {v2 : Int} {w3 : BitVec 64} {v5 : Int} {s : zS} {q : (Unit × zS)} (hd : Dr + 2 ≤ d) (hrec : zRec k rec Dr) (h : f_112 rec c1 v2 w3 v5 s = some q) : zgo k d 112 (0, [(0, .ref 17), (1, .ref c1), (2, .int (Int32.ofInt v2)), (3, .long (Int64.ofBitVec w3)), (5, .int (Int32.ofInt v5))], []) (hp s ++ x) (.inl (none), hp q.2 ++ x) := by
  unfold f_112 at h
  have hM := xM_112 k.1
  refine g_aload_n 1 hM rfl rfl rfl ?_
  refine g_getI 4 3 (gI s 17 3) hM rfl rfl rfl rfl rfl rfl rfl ?_
  refine g_iconst 5 hM rfl rfl ?_
  by_cases hc1 : (gI s 17 3) < 1
  · rw [if_pos hc1] at h
    refine g_ic_ge_f 8 9 hM rfl rfl rfl (zR_gI _ _ _) (zR_lit rfl) hc1 ?_
    cases h
    exact g_ret hM rfl rfl
  · rw [if_neg hc1] at h
    refine g_ic_ge_t 9 hM rfl rfl (zR_gI _ _ _) (zR_lit rfl) hc1 ?_
    refine g_aload_n 10 hM rfl rfl rfl ?_
    refine g_getI 13 3 (gI s 17 3) hM rfl rfl rfl rfl rfl rfl rfl ?_
    refine g_iconst 14 hM rfl rfl ?_
    refine g_isub 15 hM rfl rfl ?_
    refine g_bipush 17 hM rfl rfl rfl ?_
    refine g_imul 18 hM rfl rfl ?_
    refine g_istore 20 hM rfl rfl rfl ?_
    refine g_aload_n 21 hM rfl rfl rfl ?_
    refine g_getF 24 hM rfl rfl rfl rfl rfl ?_
    refine g_iload 26 hM rfl rfl rfl ?_
    obtain ⟨hg2, h⟩ := zg_some h
    refine g_laload 27 (gJ s 18 (((gI s 17 3) - 1) * 125)) hM rfl rfl rfl rfl hg2 rfl ?_
    refine g_lstore 29 hM rfl rfl rfl ?_
    refine g_lload_n 30 hM rfl rfl rfl ?_
    refine g_aload_n 31 hM rfl rfl rfl ?_
    obtain ⟨hg3, h⟩ := zg_some h
    refine g_getR 34 hM rfl rfl rfl (zC_obj hg3) rfl ?_
    refine g_iload_n 35 hM rfl rfl rfl ?_
    obtain ⟨hg4, h⟩ := zg_some h
    refine g_iaload 36 (gI s (c1 + 1) v2) hM rfl rfl (zC_a1 hg3) rfl hg4 rfl ?_
    refine g_bipush 38 hM rfl rfl rfl ?_
    by_cases hc5 : (gI s (c1 + 1) v2) = 11
    · rw [if_pos hc5] at h
      refine g_ic_ne_f 41 50 hM rfl rfl rfl (zR_gI _ _ _) (zR_lit rfl) hc5 ?_
      refine g_lload 43 hM rfl rfl rfl ?_
      refine g_ldc2 46 (18446744073709551615#64) hM rfl rfl rfl (by decide) ?_
      refine g_lxor 47 hM rfl rfl ?_
      refine g_goto 52 hM rfl rfl ?_
      refine g_lv [(0, .ref 17), (1, .ref c1), (2, .int (Int32.ofInt v2)), (5, .int (Int32.ofInt v5)), (6, .int (Int32.ofInt (((gI s 17 3) - 1) * 125))), (7, .long (Int64.ofBitVec (gJ s 18 (((gI s 17 3) - 1) * 125))))] rfl ⟨rfl, rfl, rfl, rfl, rfl, rfl, trivial⟩ ?_
      exact wj_112_52 (by omega) hrec h
    · rw [if_neg hc5] at h
      refine g_ic_ne_t 50 hM rfl rfl (zR_gI _ _ _) (zR_lit rfl) hc5 ?_
      refine g_lload 52 hM rfl rfl rfl ?_
      refine g_lv [(0, .ref 17), (1, .ref c1), (2, .int (Int32.ofInt v2)), (5, .int (Int32.ofInt v5)), (6, .int (Int32.ofInt (((gI s 17 3) - 1) * 125))), (7, .long (Int64.ofBitVec (gJ s 18 (((gI s 17 3) - 1) * 125))))] rfl ⟨rfl, rfl, rfl, rfl, rfl, rfl, trivial⟩ ?_
      exact wj_112_52 (by omega) hrec h
def b_103_14 (rec : Nat → Int → Int → BitVec 64 → Int → zS → Option (Unit × zS)) (c1 : Nat) (v3 : Int) (w4 : BitVec 64) (v6 : Int) (v7 : Int) (v8 : Int) (s : zS) : Option ((Int × Int × zS) ⊕ ((zS) ⊕ (Unit × zS))) := zg (zR v8) (if v8 < 200 then (zg (zR v7) (zg (zR v3) (if v7 < v3 then (if (gI s 17 3) < 22 then (zg (zC c1 = true) (zg (0 ≤ v7 ∧ v7 < 200) (if (gI s (c1 + 1) v7) = 45 then (zb (f_104 rec c1 v7 w4 (v6 + 1) s) (fun r11 s12 => some (.inl ((gI s12 (c1 + 5) v7), (v8 + 1), s12)))) else (zo (f_21 (gI s (c1 + 1) v7)) (fun r14 => zg (zR r14) (if r14 = 0 then (zb (f_114 c1 v7 s) (fun r18 s19 => some (.inl ((v7 + 1), (v8 + 1), s19)))) else (zb (f_112 rec c1 v7 w4 (v6 + 1) s) (fun r21 s22 => some (.inl ((gI s22 (c1 + 5) v7), (v8 + 1), s22)))))))))) else (some (.inr (.inr ((), s))))) else (some (.inr (.inl s)))))) else (some (.inr (.inl s))))
theorem wb_103_14 {k : zK} {d : Nat} {x : am_H} {r : am_A × am_H} {rec : Nat → Int → Int → BitVec 64 → Int → zS → Option (Unit × zS)} {Dr : Nat} {c1 : Nat} {v3 : Int} {w4 : BitVec 64} {v6 : Int} {v7 : Int} {v8 : Int} {s : zS} {q : (Int × Int × zS) ⊕ ((zS) ⊕ (Unit × zS))} (hd : Dr + 4 ≤ d) (hrec : zRec k rec Dr) (h : b_103_14 rec c1 v3 w4 v6 v7 v8 s = some q) (hK : Sum.elim (G_103_14 k d x r c1 v3 w4 v6) (K_103_14 k d x r c1 v3 w4 v6) q) : G_103_14 k d x r c1 v3 w4 v6 (v7, v8, s) := by
  unfold b_103_14 at h
  have hM := xM_103 k.1
  show zgo k d 103 (14, [(0, .ref 17), (1, .ref c1), (3, .int (Int32.ofInt v3)), (4, .long (Int64.ofBitVec w4)), (6, .int (Int32.ofInt v6)), (7, .int (Int32.ofInt v7)), (8, .int (Int32.ofInt v8))], []) (hp s ++ x) r
  refine g_iload 16 hM rfl rfl rfl ?_
  refine g_sipush 19 hM rfl rfl rfl ?_
  obtain ⟨hg1, h⟩ := zg_some h
  by_cases hc2 : v8 < 200
  · rw [if_pos hc2] at h
    refine g_ic_ge_f 22 129 hM rfl rfl rfl hg1 (zR_lit rfl) hc2 ?_
    refine g_iload 24 hM rfl rfl rfl ?_
    refine g_iload_n 25 hM rfl rfl rfl ?_
    obtain ⟨hg3, h⟩ := zg_some h
    obtain ⟨hg4, h⟩ := zg_some h
    by_cases hc5 : v7 < v3
    · rw [if_pos hc5] at h
      refine g_ic_ge_f 28 129 hM rfl rfl rfl hg3 hg4 hc5 ?_
      refine g_aload_n 29 hM rfl rfl rfl ?_
      refine g_getI 32 3 (gI s 17 3) hM rfl rfl rfl rfl rfl rfl rfl ?_
      refine g_bipush 34 hM rfl rfl rfl ?_
      by_cases hc6 : (gI s 17 3) < 22
      · rw [if_pos hc6] at h
        refine g_ic_lt_t 38 hM rfl rfl (zR_gI _ _ _) (zR_lit rfl) hc6 ?_
        refine g_aload_n 39 hM rfl rfl rfl ?_
        obtain ⟨hg7, h⟩ := zg_some h
        refine g_getR 42 hM rfl rfl rfl (zC_obj hg7) rfl ?_
        refine g_iload 44 hM rfl rfl rfl ?_
        obtain ⟨hg8, h⟩ := zg_some h
        refine g_iaload 45 (gI s (c1 + 1) v7) hM rfl rfl (zC_a1 hg7) rfl hg8 rfl ?_
        refine g_bipush 47 hM rfl rfl rfl ?_
        by_cases hc9 : (gI s (c1 + 1) v7) = 45
        · rw [if_pos hc9] at h
          refine g_ic_ne_f 50 75 hM rfl rfl rfl (zR_gI _ _ _) (zR_lit rfl) hc9 ?_
          refine g_aload_n 51 hM rfl rfl rfl ?_
          refine g_aload_n 52 hM rfl rfl rfl ?_
          refine g_iload 54 hM rfl rfl rfl ?_
          refine g_lload 56 hM rfl rfl rfl ?_
          refine g_iload 58 hM rfl rfl rfl ?_
          refine g_iconst 59 hM rfl rfl ?_
          refine g_iadd 60 hM rfl rfl ?_
          obtain ⟨r11, s12, h10, h⟩ := zb_some h
          refine g_call 63 _ [] hM rfl rfl rfl rfl rfl (xM_104 _) rfl (z_rcv2 rfl) rfl rfl (by omega) (w_104 (by omega) hrec h10) rfl ?_
          refine g_aload_n 64 hM rfl rfl rfl ?_
          refine g_getR 67 hM rfl rfl rfl (zC_obj hg7) rfl ?_
          refine g_iload 69 hM rfl rfl rfl ?_
          refine g_iaload 70 (gI s12 (c1 + 5) v7) hM rfl rfl (zC_a5 hg7) rfl hg8 rfl ?_
          refine g_istore 72 hM rfl rfl rfl ?_
          refine g_goto 123 hM rfl rfl ?_
          refine g_iinc 126 hM rfl rfl rfl rfl ?_
          refine g_goto 14 hM rfl rfl ?_
          cases h
          exact g_lv [(0, .ref 17), (1, .ref c1), (3, .int (Int32.ofInt v3)), (4, .long (Int64.ofBitVec w4)), (6, .int (Int32.ofInt v6)), (7, .int (Int32.ofInt (gI s12 (c1 + 5) v7))), (8, .int (Int32.ofInt (v8 + 1)))] rfl ⟨rfl, rfl, rfl, rfl, rfl, rfl, rfl, trivial⟩ hK
        · rw [if_neg hc9] at h
          refine g_ic_ne_t 75 hM rfl rfl (zR_gI _ _ _) (zR_lit rfl) hc9 ?_
          refine g_aload_n 76 hM rfl rfl rfl ?_
          refine g_getR 79 hM rfl rfl rfl (zC_obj hg7) rfl ?_
          refine g_iload 81 hM rfl rfl rfl ?_
          refine g_iaload 82 (gI s (c1 + 1) v7) hM rfl rfl (zC_a1 hg7) rfl hg8 rfl ?_
          obtain ⟨r14, h13, h⟩ := zo_some h
          refine g_call 85 _ [.int (Int32.ofInt r14)] hM rfl rfl rfl rfl rfl (xM_21 _) rfl rfl rfl rfl (by omega) (w_21 (by omega) h13) rfl ?_
          obtain ⟨hg15, h⟩ := zg_some h
          by_cases hc16 : r14 = 0
          · rw [if_pos hc16] at h
            refine g_if_eq_t 113 hM rfl rfl hg15 hc16 ?_
            refine g_aload_n 114 hM rfl rfl rfl ?_
            refine g_aload_n 115 hM rfl rfl rfl ?_
            refine g_iload 117 hM rfl rfl rfl ?_
            obtain ⟨r18, s19, h17, h⟩ := zb_some h
            refine g_call 120 _ [] hM rfl rfl rfl rfl rfl (xM_114 _) rfl (z_rcv2 rfl) rfl rfl (by omega) (w_114 (by omega) h17) rfl ?_
            refine g_iinc 123 hM rfl rfl rfl rfl ?_
            refine g_iinc 126 hM rfl rfl rfl rfl ?_
            refine g_goto 14 hM rfl rfl ?_
            cases h
            exact g_lv [(0, .ref 17), (1, .ref c1), (3, .int (Int32.ofInt v3)), (4, .long (Int64.ofBitVec w4)), (6, .int (Int32.ofInt v6)), (7, .int (Int32.ofInt (v7 + 1))), (8, .int (Int32.ofInt (v8 + 1)))] rfl ⟨rfl, rfl, rfl, rfl, rfl, rfl, rfl, trivial⟩ hK
          · rw [if_neg hc16] at h
            refine g_if_eq_f 88 113 hM rfl rfl rfl hg15 hc16 ?_
            refine g_aload_n 89 hM rfl rfl rfl ?_
            refine g_aload_n 90 hM rfl rfl rfl ?_
            refine g_iload 92 hM rfl rfl rfl ?_
            refine g_lload 94 hM rfl rfl rfl ?_
            refine g_iload 96 hM rfl rfl rfl ?_
            refine g_iconst 97 hM rfl rfl ?_
            refine g_iadd 98 hM rfl rfl ?_
            obtain ⟨r21, s22, h20, h⟩ := zb_some h
            refine g_call 101 _ [] hM rfl rfl rfl rfl rfl (xM_112 _) rfl (z_rcv2 rfl) rfl rfl (by omega) (w_112 (by omega) hrec h20) rfl ?_
            refine g_aload_n 102 hM rfl rfl rfl ?_
            refine g_getR 105 hM rfl rfl rfl (zC_obj hg7) rfl ?_
            refine g_iload 107 hM rfl rfl rfl ?_
            refine g_iaload 108 (gI s22 (c1 + 5) v7) hM rfl rfl (zC_a5 hg7) rfl hg8 rfl ?_
            refine g_istore 110 hM rfl rfl rfl ?_
            refine g_goto 123 hM rfl rfl ?_
            refine g_iinc 126 hM rfl rfl rfl rfl ?_
            refine g_goto 14 hM rfl rfl ?_
            cases h
            exact g_lv [(0, .ref 17), (1, .ref c1), (3, .int (Int32.ofInt v3)), (4, .long (Int64.ofBitVec w4)), (6, .int (Int32.ofInt v6)), (7, .int (Int32.ofInt (gI s22 (c1 + 5) v7))), (8, .int (Int32.ofInt (v8 + 1)))] rfl ⟨rfl, rfl, rfl, rfl, rfl, rfl, rfl, trivial⟩ hK
      · rw [if_neg hc6] at h
        refine g_ic_lt_f 37 38 hM rfl rfl rfl (zR_gI _ _ _) (zR_lit rfl) hc6 ?_
        cases h
        rw [show r = _ from hK]
        exact g_ret hM rfl rfl
    · rw [if_neg hc5] at h
      refine g_ic_ge_t 129 hM rfl rfl hg3 hg4 hc5 ?_
      cases h
      exact g_lv [] rfl trivial hK
  · rw [if_neg hc2] at h
    refine g_ic_ge_t 129 hM rfl rfl hg1 (zR_lit rfl) hc2 ?_
    cases h
    exact g_lv [] rfl trivial hK
theorem wl_103_14 {k : zK} {d : Nat} {x : am_H} {r : am_A × am_H} {rec : Nat → Int → Int → BitVec 64 → Int → zS → Option (Unit × zS)} {Dr : Nat} {c1 : Nat} {v3 : Int} {w4 : BitVec 64} {v6 : Int} {n : Nat} {e : (Int × Int × zS)} {t : ((zS) ⊕ (Unit × zS))} (hd : Dr + 4 ≤ d) (hrec : zRec k rec Dr) (h : zlp (fun (q : Int × Int × zS) => b_103_14 rec c1 v3 w4 v6 q.1 q.2.1 q.2.2) n e = some t) (hK : K_103_14 k d x r c1 v3 w4 v6 t) : G_103_14 k d x r c1 v3 w4 v6 e := zlp_go (G := fun e => G_103_14 k d x r c1 v3 w4 v6 e) (K := K_103_14 k d x r c1 v3 w4 v6) (fun e e1 h1 hg => wb_103_14 (q := .inl e1) hd hrec h1 hg) (fun e t1 h1 hk => wb_103_14 (q := .inr t1) hd hrec h1 hk) n e t h hK
/-- RelationFinder$Machine.run(LRelationFinder$Code;IIJI)V -/
def F_103 (rec : Nat → Int → Int → BitVec 64 → Int → zS → Option (Unit × zS)) (c1 : Nat) (v2 : Int) (v3 : Int) (w4 : BitVec 64) (v6 : Int) (s : zS) : Option (Unit × zS) := zg (zR v6) (if 20 < v6 then (some ((), s)) else (zo (zlp (fun (q : Int × Int × zS) => b_103_14 rec c1 v3 w4 v6 q.1 q.2.1 q.2.2) zF (v2, 0, s)) (fun e3 => Sum.elim (fun e5 => some ((), e5)) (fun q6 => some q6) e3)))
theorem w_103 {k : zK} {d : Nat} {x : am_H} {rec : Nat → Int → Int → BitVec 64 → Int → zS → Option (Unit × zS)} {Dr : Nat} {c1 : Nat} {v2 : Int} {v3 : Int} {w4 : BitVec 64} {v6 : Int} {s : zS} {q : (Unit × zS)} (hd : Dr + 4 ≤ d) (hrec : zRec k rec Dr) (h : F_103 rec c1 v2 v3 w4 v6 s = some q) : zgo k d 103 (0, [(0, .ref 17), (1, .ref c1), (2, .int (Int32.ofInt v2)), (3, .int (Int32.ofInt v3)), (4, .long (Int64.ofBitVec w4)), (6, .int (Int32.ofInt v6))], []) (hp s ++ x) (.inl (none), hp q.2 ++ x) := by
  unfold F_103 at h
  have hM := xM_103 k.1
  refine g_iload 2 hM rfl rfl rfl ?_
  refine g_bipush 4 hM rfl rfl rfl ?_
  obtain ⟨hg1, h⟩ := zg_some h
  by_cases hc2 : 20 < v6
  · rw [if_pos hc2] at h
    refine g_ic_le_f 7 8 hM rfl rfl rfl hg1 (zR_lit rfl) hc2 ?_
    cases h
    exact g_ret hM rfl rfl
  · rw [if_neg hc2] at h
    refine g_ic_le_t 8 hM rfl rfl hg1 (zR_lit rfl) hc2 ?_
    refine g_iload_n 9 hM rfl rfl rfl ?_
    refine g_istore 11 hM rfl rfl rfl ?_
    refine g_iconst 12 hM rfl rfl ?_
    refine g_istore 14 hM rfl rfl rfl ?_
    obtain ⟨e3, h4, h⟩ := zo_some h
    refine g_lv [(0, .ref 17), (1, .ref c1), (3, .int (Int32.ofInt v3)), (4, .long (Int64.ofBitVec w4)), (6, .int (Int32.ofInt v6)), (7, .int (Int32.ofInt v2)), (8, .int (Int32.ofInt 0))] rfl ⟨rfl, rfl, rfl, rfl, rfl, rfl, rfl, trivial⟩ ?_
    refine wl_103_14 (by omega) hrec h4 ?_
    rcases e3 with e5 | q6
    · simp only [ze_l] at h
      show zgo k d 103 (129, [], []) (hp e5 ++ x) (.inl (none), hp q.2 ++ x)
      cases h
      exact g_ret hM rfl rfl
    · cases h
      rfl
def f_103n : Nat → Nat → Int → Int → BitVec 64 → Int → zS → Option (Unit × zS)
  | 0 => fun _ _ _ _ _ _ => none
  | n + 1 => F_103 (f_103n n)
theorem w_103n {k : zK} : ∀ n : Nat, zRec k (f_103n n) (4 * n)
  | 0 => by
    intro c a b w e s q h
    cases h
  | n + 1 => by
    intro c a b w e s q h d x hd
    exact w_103 (rec := f_103n n) (Dr := 4 * n) (by omega) (w_103n n) h
def f_103 (c : Nat) (a b : Int) (w : BitVec 64) (e : Int) (s : zS) : Option (Unit × zS) := f_103n 24 c a b w e s
theorem w_103c {k : zK} {d : Nat} {x : am_H} {c : Nat} {a b : Int} {w : BitVec 64} {e : Int} {s : zS} {q : Unit × zS} (hd : 4 * 24 ≤ d) (h : f_103 c a b w e s = some q) : zgo k d 103 (0, [(0, .ref 17), (1, .ref c), (2, .int (Int32.ofInt a)), (3, .int (Int32.ofInt b)), (4, .long (Int64.ofBitVec w)), (6, .int (Int32.ofInt e))], []) (hp s ++ x) (.inl none, hp q.2 ++ x) := w_103n 24 c a b w e s q h d x hd
/-- RelationFinder$Machine.work(LRelationFinder$Code;IJ)V -/
def f_102 (c1 : Nat) (v2 : Int) (w3 : BitVec 64) (s : zS) : Option (Unit × zS) := zb (f_51 v2 s) (fun r2 s3 => zg (zC c1 = true) (zo (zlp (fun (q : Int × zS) => b_102_20 c1 w3 ((gI s3 c1 8) * 25) q.1 q.2) zF (0, s3)) (fun e5 => zb (f_103 c1 0 (gI (sI e5 17 3 0) c1 0) w3 0 (sI e5 17 3 0)) (fun r8 s9 => some ((), s9)))))
theorem w_102 {k : zK} {d : Nat} {x : am_H} {c1 : Nat} {v2 : Int} {w3 : BitVec 64} {s : zS} {q : (Unit × zS)} (hd : 97 ≤ d) (h : f_102 c1 v2 w3 s = some q) : zgo k d 102 (0, [(0, .ref 17), (1, .ref c1), (2, .int (Int32.ofInt v2)), (3, .long (Int64.ofBitVec w3))], []) (hp s ++ x) (.inl (none), hp q.2 ++ x) := by
  unfold f_102 at h
  have hM := xM_102 k.1
  refine g_aload_n 1 hM rfl rfl rfl ?_
  refine g_getF 4 hM rfl rfl rfl rfl rfl ?_
  refine g_iload_n 5 hM rfl rfl rfl ?_
  obtain ⟨r2, s3, h1, h⟩ := zb_some h
  refine g_call 8 _ [] hM rfl rfl rfl rfl rfl (xM_51 _) rfl (z_rcv2 rfl) rfl rfl (by omega) (w_51 (by omega) h1) rfl ?_
  refine g_aload_n 9 hM rfl rfl rfl ?_
  obtain ⟨hg4, h⟩ := zg_some h
  refine g_getI 12 8 (gI s3 c1 8) hM rfl rfl rfl (zC_obj hg4) rfl rfl rfl ?_
  refine g_bipush 14 hM rfl rfl rfl ?_
  refine g_imul 15 hM rfl rfl ?_
  refine g_istore 17 hM rfl rfl rfl ?_
  refine g_iconst 18 hM rfl rfl ?_
  refine g_istore 20 hM rfl rfl rfl ?_
  obtain ⟨e5, h6, h⟩ := zo_some h
  refine g_lv [(0, .ref 17), (1, .ref c1), (3, .long (Int64.ofBitVec w3)), (5, .int (Int32.ofInt ((gI s3 c1 8) * 25))), (6, .int (Int32.ofInt 0))] rfl ⟨rfl, rfl, rfl, rfl, rfl, trivial⟩ ?_
  refine wl_102_20 (by omega) h6 ?_
  show zgo k d 102 (41, [(0, .ref 17), (1, .ref c1), (3, .long (Int64.ofBitVec w3))], []) (hp e5 ++ x) (.inl (none), hp q.2 ++ x)
  refine g_aload_n 42 hM rfl rfl rfl ?_
  refine g_iconst 43 hM rfl rfl ?_
  refine g_putI 46 3 hM rfl rfl rfl rfl rfl rfl rfl ?_
  refine g_aload_n 47 hM rfl rfl rfl ?_
  refine g_aload_n 48 hM rfl rfl rfl ?_
  refine g_iconst 49 hM rfl rfl ?_
  refine g_aload_n 50 hM rfl rfl rfl ?_
  refine g_getI 53 0 (gI (sI e5 17 3 0) c1 0) hM rfl rfl rfl (zC_obj hg4) rfl rfl rfl ?_
  refine g_lload_n 54 hM rfl rfl rfl ?_
  refine g_iconst 55 hM rfl rfl ?_
  obtain ⟨r8, s9, h7, h⟩ := zb_some h
  refine g_call 58 _ [] hM rfl rfl rfl rfl rfl (xM_103 _) rfl (z_rcv2 rfl) rfl rfl (by omega) (w_103c (by omega) h7) rfl ?_
  cases h
  exact g_ret hM rfl rfl
def j_26_11_112 (v1 : Int) (v2 : Int) (w3 : BitVec 64) (v5 : Int) (v6 : Int) (s : zS) : Option ((BitVec 64 × Int × zS) ⊕ (BitVec 64 × zS)) := zg (zR v5) (if v5 = 16 then (zg (0 ≤ v6 ∧ v6 < 1088) (some (.inl ((w3 &&& ((gJ s 173 v6) ^^^ (18446744073709551615#64))), (v5 + 1), s)))) else (zg (0 ≤ v6 ∧ v6 < 1088) (some (.inl ((w3 &&& (gJ s 173 v6)), (v5 + 1), s)))))
theorem wj_26_11_112 {k : zK} {d : Nat} {x : am_H} {r : am_A × am_H} {v1 : Int} {v2 : Int} {w3 : BitVec 64} {v5 : Int} {v6 : Int} {s : zS} {q : (BitVec 64 × Int × zS) ⊕ (BitVec 64 × zS)} (hd : 98 ≤ d) (h : j_26_11_112 v1 v2 w3 v5 v6 s = some q) (hK : Sum.elim (G_26_11 k d x r v1 v2) (K_26_11 k d x r v1 v2) q) : zgo k d 26 (112, [(0, .ref 0), (1, .int (Int32.ofInt v1)), (2, .int (Int32.ofInt v2)), (3, .long (Int64.ofBitVec w3)), (5, .int (Int32.ofInt v5)), (6, .int (Int32.ofInt v6))], []) (hp s ++ x) r := by
  unfold j_26_11_112 at h
  have hM := xM_26 k.1
  refine g_lload_n 113 hM rfl rfl rfl ?_
  refine g_iload 115 hM rfl rfl rfl ?_
  refine g_bipush 117 hM rfl rfl rfl ?_
  obtain ⟨hg1, h⟩ := zg_some h
  by_cases hc2 : v5 = 16
  · rw [if_pos hc2] at h
    refine g_ic_ne_f 120 134 hM rfl rfl rfl hg1 (zR_lit rfl) hc2 ?_
    refine g_aload_n 121 hM rfl rfl rfl ?_
    refine g_getF 124 hM rfl rfl rfl rfl rfl ?_
    refine g_iload 126 hM rfl rfl rfl ?_
    obtain ⟨hg3, h⟩ := zg_some h
    refine g_laload 127 (gJ s 173 v6) hM rfl rfl rfl rfl hg3 rfl ?_
    refine g_ldc2 130 (18446744073709551615#64) hM rfl rfl rfl (by decide) ?_
    refine g_lxor 131 hM rfl rfl ?_
    refine g_goto 141 hM rfl rfl ?_
    refine g_land 142 hM rfl rfl ?_
    refine g_lstore_n 143 hM rfl rfl rfl ?_
    refine g_iinc 146 hM rfl rfl rfl rfl ?_
    refine g_goto 11 hM rfl rfl ?_
    cases h
    exact g_lv [(0, .ref 0), (1, .int (Int32.ofInt v1)), (2, .int (Int32.ofInt v2)), (3, .long (Int64.ofBitVec (w3 &&& ((gJ s 173 v6) ^^^ (18446744073709551615#64))))), (5, .int (Int32.ofInt (v5 + 1)))] rfl ⟨rfl, rfl, rfl, rfl, rfl, trivial⟩ hK
  · rw [if_neg hc2] at h
    refine g_ic_ne_t 134 hM rfl rfl hg1 (zR_lit rfl) hc2 ?_
    refine g_aload_n 135 hM rfl rfl rfl ?_
    refine g_getF 138 hM rfl rfl rfl rfl rfl ?_
    refine g_iload 140 hM rfl rfl rfl ?_
    obtain ⟨hg4, h⟩ := zg_some h
    refine g_laload 141 (gJ s 173 v6) hM rfl rfl rfl rfl hg4 rfl ?_
    refine g_land 142 hM rfl rfl ?_
    refine g_lstore_n 143 hM rfl rfl rfl ?_
    refine g_iinc 146 hM rfl rfl rfl rfl ?_
    refine g_goto 11 hM rfl rfl ?_
    cases h
    exact g_lv [(0, .ref 0), (1, .int (Int32.ofInt v1)), (2, .int (Int32.ofInt v2)), (3, .long (Int64.ofBitVec (w3 &&& (gJ s 173 v6)))), (5, .int (Int32.ofInt (v5 + 1)))] rfl ⟨rfl, rfl, rfl, rfl, rfl, trivial⟩ hK
def b_26_11 (v1 : Int) (v2 : Int) (w3 : BitVec 64) (v5 : Int) (s : zS) : Option ((BitVec 64 × Int × zS) ⊕ (BitVec 64 × zS)) := zg (zR v5) (if 16 < v5 then (some (.inr (w3, s))) else (if w3 = (0#64) then (some (.inr (w3, s))) else (zg (0 ≤ v1 ∧ zR v1) (if (zand (v1 / 2 ^ zsh v5) 1) = 0 then (some (.inl (w3, (v5 + 1), s))) else (zg (0 ≤ v5 ∧ v5 < 17) (zg (zR v2) (if (((gJ s 174 v5) >>> zshl v2) &&& (1#64)) = (0#64) then (zo (f_50 s) (fun r10 => zb (f_102 (gP s 28 v5) v2 r10 s) (fun r12 s13 => zg (0 ≤ ((v5 * 64) + v2) ∧ ((v5 * 64) + v2) < 1088) (j_26_11_112 v1 v2 w3 v5 ((v5 * 64) + v2) (sJ (sJ s13 173 ((v5 * 64) + v2) (gJ s13 18 0)) 174 v5 ((gJ s13 174 v5) ||| ((1#64) <<< zshl v2))))))) else (j_26_11_112 v1 v2 w3 v5 ((v5 * 64) + v2) s))))))))
theorem wb_26_11 {k : zK} {d : Nat} {x : am_H} {r : am_A × am_H} {v1 : Int} {v2 : Int} {w3 : BitVec 64} {v5 : Int} {s : zS} {q : (BitVec 64 × Int × zS) ⊕ (BitVec 64 × zS)} (hd : 98 ≤ d) (h : b_26_11 v1 v2 w3 v5 s = some q) (hK : Sum.elim (G_26_11 k d x r v1 v2) (K_26_11 k d x r v1 v2) q) : G_26_11 k d x r v1 v2 (w3, v5, s) := by
  unfold b_26_11 at h
  have hM := xM_26 k.1
  show zgo k d 26 (11, [(0, .ref 0), (1, .int (Int32.ofInt v1)), (2, .int (Int32.ofInt v2)), (3, .long (Int64.ofBitVec w3)), (5, .int (Int32.ofInt v5))], []) (hp s ++ x) r
  refine g_iload 13 hM rfl rfl rfl ?_
  refine g_bipush 15 hM rfl rfl rfl ?_
  obtain ⟨hg1, h⟩ := zg_some h
  by_cases hc2 : 16 < v5
  · rw [if_pos hc2] at h
    refine g_ic_gt_t 149 hM rfl rfl hg1 (zR_lit rfl) hc2 ?_
    cases h
    exact g_lv [(3, .long (Int64.ofBitVec w3))] rfl ⟨rfl, trivial⟩ hK
  · rw [if_neg hc2] at h
    refine g_ic_gt_f 18 149 hM rfl rfl rfl hg1 (zR_lit rfl) hc2 ?_
    refine g_lload_n 19 hM rfl rfl rfl ?_
    refine g_lconst 20 (0#64) hM rfl rfl rfl ?_
    by_cases hc3 : w3 = (0#64)
    · rw [if_pos hc3] at h
      refine g_lc_eq_t 21 149 hM rfl rfl rfl rfl hc3 ?_
      cases h
      exact g_lv [(3, .long (Int64.ofBitVec w3))] rfl ⟨rfl, trivial⟩ hK
    · rw [if_neg hc3] at h
      refine g_lc_eq_f 21 24 149 hM rfl rfl rfl rfl rfl hc3 ?_
      refine g_iload_n 25 hM rfl rfl rfl ?_
      refine g_iload 27 hM rfl rfl rfl ?_
      obtain ⟨hg4, h⟩ := zg_some h
      refine g_iushr 28 hM rfl rfl hg4 ?_
      refine g_iconst 29 hM rfl rfl ?_
      refine g_iand 30 hM rfl rfl ?_
      by_cases hc5 : (zand (v1 / 2 ^ zsh v5) 1) = 0
      · rw [if_pos hc5] at h
        refine g_if_ne_f 33 36 hM rfl rfl rfl (zR_and _ _) hc5 ?_
        refine g_goto 143 hM rfl rfl ?_
        refine g_iinc 146 hM rfl rfl rfl rfl ?_
        refine g_goto 11 hM rfl rfl ?_
        cases h
        exact g_lv [(0, .ref 0), (1, .int (Int32.ofInt v1)), (2, .int (Int32.ofInt v2)), (3, .long (Int64.ofBitVec w3)), (5, .int (Int32.ofInt (v5 + 1)))] rfl ⟨rfl, rfl, rfl, rfl, rfl, trivial⟩ hK
      · rw [if_neg hc5] at h
        refine g_if_ne_t 36 hM rfl rfl (zR_and _ _) hc5 ?_
        refine g_iload 38 hM rfl rfl rfl ?_
        refine g_bipush 40 hM rfl rfl rfl ?_
        refine g_imul 41 hM rfl rfl ?_
        refine g_iload_n 42 hM rfl rfl rfl ?_
        refine g_iadd 43 hM rfl rfl ?_
        refine g_istore 45 hM rfl rfl rfl ?_
        refine g_aload_n 46 hM rfl rfl rfl ?_
        refine g_getF 49 hM rfl rfl rfl rfl rfl ?_
        refine g_iload 51 hM rfl rfl rfl ?_
        obtain ⟨hg6, h⟩ := zg_some h
        refine g_laload 52 (gJ s 174 v5) hM rfl rfl rfl rfl hg6 rfl ?_
        refine g_iload_n 53 hM rfl rfl rfl ?_
        obtain ⟨hg7, h⟩ := zg_some h
        refine g_lushr 54 hM rfl rfl hg7 ?_
        refine g_lconst 55 (1#64) hM rfl rfl rfl ?_
        refine g_land 56 hM rfl rfl ?_
        refine g_lconst 57 (0#64) hM rfl rfl rfl ?_
        by_cases hc8 : (((gJ s 174 v5) >>> zshl v2) &&& (1#64)) = (0#64)
        · rw [if_pos hc8] at h
          refine g_lc_ne_f 58 61 112 hM rfl rfl rfl rfl rfl hc8 ?_
          refine g_aload_n 62 hM rfl rfl rfl ?_
          refine g_getF 65 hM rfl rfl rfl rfl rfl ?_
          refine g_aload_n 66 hM rfl rfl rfl ?_
          refine g_getF 69 hM rfl rfl rfl rfl rfl ?_
          refine g_iload 71 hM rfl rfl rfl ?_
          refine g_aaload 72 (gP s 28 v5) hM rfl rfl rfl rfl rfl hg6 rfl ?_
          refine g_iload_n 73 hM rfl rfl rfl ?_
          refine g_aload_n 74 hM rfl rfl rfl ?_
          refine g_getF 77 hM rfl rfl rfl rfl rfl ?_
          obtain ⟨r10, h9, h⟩ := zo_some h
          refine g_call 80 _ [.long (Int64.ofBitVec r10), .int (Int32.ofInt v2), .ref (gP s 28 v5), .ref 17] hM rfl rfl rfl rfl rfl (xM_50 _) rfl (z_rcv2 rfl) rfl rfl (by omega) (w_50 (by omega) h9) rfl ?_
          obtain ⟨r12, s13, h11, h⟩ := zb_some h
          refine g_call 83 _ [] hM rfl rfl rfl rfl rfl (xM_102 _) rfl (z_rcv2 rfl) rfl rfl (by omega) (w_102 (by omega) h11) rfl ?_
          refine g_aload_n 84 hM rfl rfl rfl ?_
          refine g_getF 87 hM rfl rfl rfl rfl rfl ?_
          refine g_iload 89 hM rfl rfl rfl ?_
          refine g_aload_n 90 hM rfl rfl rfl ?_
          refine g_getF 93 hM rfl rfl rfl rfl rfl ?_
          refine g_getF 96 hM rfl rfl rfl rfl rfl ?_
          refine g_iconst 97 hM rfl rfl ?_
          refine g_laload 98 (gJ s13 18 0) hM rfl rfl rfl rfl ⟨by decide, by decide⟩ rfl ?_
          obtain ⟨hg14, h⟩ := zg_some h
          refine g_lastore 99 hM rfl rfl rfl rfl hg14 ?_
          refine g_aload_n 100 hM rfl rfl rfl ?_
          refine g_getF 103 hM rfl rfl rfl rfl rfl ?_
          refine g_iload 105 hM rfl rfl rfl ?_
          refine g_dup2 106 hM rfl rfl rfl rfl ?_
          refine g_laload 107 (gJ s13 174 v5) hM rfl rfl rfl rfl hg6 rfl ?_
          refine g_lconst 108 (1#64) hM rfl rfl rfl ?_
          refine g_iload_n 109 hM rfl rfl rfl ?_
          refine g_lshl 110 hM rfl rfl hg7 ?_
          refine g_lor 111 hM rfl rfl ?_
          refine g_lastore 112 hM rfl rfl rfl rfl hg6 ?_
          refine g_lv [(0, .ref 0), (1, .int (Int32.ofInt v1)), (2, .int (Int32.ofInt v2)), (3, .long (Int64.ofBitVec w3)), (5, .int (Int32.ofInt v5)), (6, .int (Int32.ofInt ((v5 * 64) + v2)))] rfl ⟨rfl, rfl, rfl, rfl, rfl, rfl, trivial⟩ ?_
          exact wj_26_11_112 (by omega) h hK
        · rw [if_neg hc8] at h
          refine g_lc_ne_t 58 112 hM rfl rfl rfl rfl hc8 ?_
          refine g_lv [(0, .ref 0), (1, .int (Int32.ofInt v1)), (2, .int (Int32.ofInt v2)), (3, .long (Int64.ofBitVec w3)), (5, .int (Int32.ofInt v5)), (6, .int (Int32.ofInt ((v5 * 64) + v2)))] rfl ⟨rfl, rfl, rfl, rfl, rfl, rfl, trivial⟩ ?_
          exact wj_26_11_112 (by omega) h hK
theorem wl_26_11 {k : zK} {d : Nat} {x : am_H} {r : am_A × am_H} {v1 : Int} {v2 : Int} {n : Nat} {e : (BitVec 64 × Int × zS)} {t : (BitVec 64 × zS)} (hd : 98 ≤ d) (h : zlp (fun (q : BitVec 64 × Int × zS) => b_26_11 v1 v2 q.1 q.2.1 q.2.2) n e = some t) (hK : K_26_11 k d x r v1 v2 t) : G_26_11 k d x r v1 v2 e := zlp_go (G := fun e => G_26_11 k d x r v1 v2 e) (K := K_26_11 k d x r v1 v2) (fun e e1 h1 hg => wb_26_11 (q := .inl e1) hd h1 hg) (fun e t1 h1 hk => wb_26_11 (q := .inr t1) hd h1 hk) n e t h hK
/-- RelationFinder.instances(II)J -/
def f_26 (v1 : Int) (v2 : Int) (s : zS) : Option ((BitVec 64) × zS) := zo (f_50 s) (fun r2 => zo (zlp (fun (q : BitVec 64 × Int × zS) => b_26_11 v1 v2 q.1 q.2.1 q.2.2) zF (r2, 0, s)) (fun e3 => some (e3.1, e3.2)))
theorem w_26 {k : zK} {d : Nat} {x : am_H} {v1 : Int} {v2 : Int} {s : zS} {q : ((BitVec 64) × zS)} (hd : 98 ≤ d) (h : f_26 v1 v2 s = some q) : zgo k d 26 (0, [(0, .ref 0), (1, .int (Int32.ofInt v1)), (2, .int (Int32.ofInt v2))], []) (hp s ++ x) (.inl (some (.long (Int64.ofBitVec q.1))), hp q.2 ++ x) := by
  unfold f_26 at h
  have hM := xM_26 k.1
  refine g_aload_n 1 hM rfl rfl rfl ?_
  refine g_getF 4 hM rfl rfl rfl rfl rfl ?_
  obtain ⟨r2, h1, h⟩ := zo_some h
  refine g_call 7 _ [.long (Int64.ofBitVec r2)] hM rfl rfl rfl rfl rfl (xM_50 _) rfl (z_rcv2 rfl) rfl rfl (by omega) (w_50 (by omega) h1) rfl ?_
  refine g_lstore_n 8 hM rfl rfl rfl ?_
  refine g_iconst 9 hM rfl rfl ?_
  refine g_istore 11 hM rfl rfl rfl ?_
  obtain ⟨e3, h4, h⟩ := zo_some h
  refine g_lv [(0, .ref 0), (1, .int (Int32.ofInt v1)), (2, .int (Int32.ofInt v2)), (3, .long (Int64.ofBitVec r2)), (5, .int (Int32.ofInt 0))] rfl ⟨rfl, rfl, rfl, rfl, rfl, trivial⟩ ?_
  refine wl_26_11 (by omega) h4 ?_
  show zgo k d 26 (149, [(3, .long (Int64.ofBitVec e3.1))], []) (hp e3.2 ++ x) (.inl (some (.long (Int64.ofBitVec q.1))), hp q.2 ++ x)
  refine g_lload_n 150 hM rfl rfl rfl ?_
  cases h
  exact g_ret hM rfl rfl
def G_25_27 (k : zK) (d : Nat) (x : am_H) (r : am_A × am_H) (v1 : Int) (v2 : Int) (v3 : Int) (w4 : BitVec 64) (s : zS) (e : (Int)) : Prop := zgo k d 25 (27, [(0, .ref 0), (1, .int (Int32.ofInt v1)), (2, .int (Int32.ofInt v2)), (3, .int (Int32.ofInt v3)), (4, .long (Int64.ofBitVec w4)), (6, .int (Int32.ofInt e))], []) (hp s ++ x) r
def K_25_27 (k : zK) (d : Nat) (x : am_H) (r : am_A × am_H) (v1 : Int) (v2 : Int) (v3 : Int) (w4 : BitVec 64) (s : zS) (t : ((Unit) ⊕ (Int × zS))) : Prop := Sum.elim (fun e => zgo k d 25 (77, [(0, .ref 0), (1, .int (Int32.ofInt v1)), (2, .int (Int32.ofInt v2)), (3, .int (Int32.ofInt v3))], []) (hp s ++ x) r) (fun q => r = (.inl (some (.int (Int32.ofInt q.1))), hp q.2 ++ x)) t
def b_25_27 (v1 : Int) (v2 : Int) (v3 : Int) (w4 : BitVec 64) (s : zS) (v6 : Int) : Option ((Int) ⊕ ((Unit) ⊕ (Int × zS))) := zg (zR v6) (if v6 < 64 then (if w4 = (0#64) then (some (.inr (.inl ()))) else (zg (zR ((v3 * 64) + v6)) (zg (zR v1) (if ((v3 * 64) + v6) < v1 then (some (.inl (v6 + 1))) else (if ((w4 >>> zshl v6) &&& (1#64)) = (0#64) then (some (.inl (v6 + 1))) else (some (.inr (.inr (((v3 * 64) + v6), s))))))))) else (some (.inr (.inl ()))))
theorem wb_25_27 {k : zK} {d : Nat} {x : am_H} {r : am_A × am_H} {v1 : Int} {v2 : Int} {v3 : Int} {w4 : BitVec 64} {v6 : Int} {s : zS} {q : (Int) ⊕ ((Unit) ⊕ (Int × zS))} (hd : 99 ≤ d) (h : b_25_27 v1 v2 v3 w4 s v6 = some q) (hK : Sum.elim (G_25_27 k d x r v1 v2 v3 w4 s) (K_25_27 k d x r v1 v2 v3 w4 s) q) : G_25_27 k d x r v1 v2 v3 w4 s v6 := by
  unfold b_25_27 at h
  have hM := xM_25 k.1
  show zgo k d 25 (27, [(0, .ref 0), (1, .int (Int32.ofInt v1)), (2, .int (Int32.ofInt v2)), (3, .int (Int32.ofInt v3)), (4, .long (Int64.ofBitVec w4)), (6, .int (Int32.ofInt v6))], []) (hp s ++ x) r
  refine g_iload 29 hM rfl rfl rfl ?_
  refine g_bipush 31 hM rfl rfl rfl ?_
  obtain ⟨hg1, h⟩ := zg_some h
  by_cases hc2 : v6 < 64
  · rw [if_pos hc2] at h
    refine g_ic_ge_f 34 77 hM rfl rfl rfl hg1 (zR_lit rfl) hc2 ?_
    refine g_lload 36 hM rfl rfl rfl ?_
    refine g_lconst 37 (0#64) hM rfl rfl rfl ?_
    by_cases hc3 : w4 = (0#64)
    · rw [if_pos hc3] at h
      refine g_lc_eq_t 38 77 hM rfl rfl rfl rfl hc3 ?_
      cases h
      exact g_lv [(0, .ref 0), (1, .int (Int32.ofInt v1)), (2, .int (Int32.ofInt v2)), (3, .int (Int32.ofInt v3))] rfl ⟨rfl, rfl, rfl, rfl, trivial⟩ hK
    · rw [if_neg hc3] at h
      refine g_lc_eq_f 38 41 77 hM rfl rfl rfl rfl rfl hc3 ?_
      refine g_iload_n 42 hM rfl rfl rfl ?_
      refine g_bipush 44 hM rfl rfl rfl ?_
      refine g_imul 45 hM rfl rfl ?_
      refine g_iload 47 hM rfl rfl rfl ?_
      refine g_iadd 48 hM rfl rfl ?_
      refine g_istore 50 hM rfl rfl rfl ?_
      refine g_iload 52 hM rfl rfl rfl ?_
      refine g_iload_n 53 hM rfl rfl rfl ?_
      obtain ⟨hg4, h⟩ := zg_some h
      obtain ⟨hg5, h⟩ := zg_some h
      by_cases hc6 : ((v3 * 64) + v6) < v1
      · rw [if_pos hc6] at h
        refine g_ic_lt_t 71 hM rfl rfl hg4 hg5 hc6 ?_
        refine g_iinc 74 hM rfl rfl rfl rfl ?_
        refine g_goto 27 hM rfl rfl ?_
        cases h
        exact g_lv [(0, .ref 0), (1, .int (Int32.ofInt v1)), (2, .int (Int32.ofInt v2)), (3, .int (Int32.ofInt v3)), (4, .long (Int64.ofBitVec w4)), (6, .int (Int32.ofInt (v6 + 1)))] rfl ⟨rfl, rfl, rfl, rfl, rfl, rfl, trivial⟩ hK
      · rw [if_neg hc6] at h
        refine g_ic_lt_f 56 71 hM rfl rfl rfl hg4 hg5 hc6 ?_
        refine g_lload 58 hM rfl rfl rfl ?_
        refine g_iload 60 hM rfl rfl rfl ?_
        refine g_lushr 61 hM rfl rfl hg1 ?_
        refine g_lconst 62 (1#64) hM rfl rfl rfl ?_
        refine g_land 63 hM rfl rfl ?_
        refine g_lconst 64 (0#64) hM rfl rfl rfl ?_
        by_cases hc7 : ((w4 >>> zshl v6) &&& (1#64)) = (0#64)
        · rw [if_pos hc7] at h
          refine g_lc_eq_t 65 71 hM rfl rfl rfl rfl hc7 ?_
          refine g_iinc 74 hM rfl rfl rfl rfl ?_
          refine g_goto 27 hM rfl rfl ?_
          cases h
          exact g_lv [(0, .ref 0), (1, .int (Int32.ofInt v1)), (2, .int (Int32.ofInt v2)), (3, .int (Int32.ofInt v3)), (4, .long (Int64.ofBitVec w4)), (6, .int (Int32.ofInt (v6 + 1)))] rfl ⟨rfl, rfl, rfl, rfl, rfl, rfl, trivial⟩ hK
        · rw [if_neg hc7] at h
          refine g_lc_eq_f 65 68 71 hM rfl rfl rfl rfl rfl hc7 ?_
          refine g_iload 70 hM rfl rfl rfl ?_
          cases h
          rw [show r = _ from hK]
          exact g_ret hM rfl rfl
  · rw [if_neg hc2] at h
    refine g_ic_ge_t 77 hM rfl rfl hg1 (zR_lit rfl) hc2 ?_
    cases h
    exact g_lv [(0, .ref 0), (1, .int (Int32.ofInt v1)), (2, .int (Int32.ofInt v2)), (3, .int (Int32.ofInt v3))] rfl ⟨rfl, rfl, rfl, rfl, trivial⟩ hK
theorem wl_25_27 {k : zK} {d : Nat} {x : am_H} {r : am_A × am_H} {v1 : Int} {v2 : Int} {v3 : Int} {w4 : BitVec 64} {s : zS} {n : Nat} {e : (Int)} {t : ((Unit) ⊕ (Int × zS))} (hd : 99 ≤ d) (h : zlp (fun (q : Int) => b_25_27 v1 v2 v3 w4 s q) n e = some t) (hK : K_25_27 k d x r v1 v2 v3 w4 s t) : G_25_27 k d x r v1 v2 v3 w4 s e := zlp_go (G := fun e => G_25_27 k d x r v1 v2 v3 w4 s e) (K := K_25_27 k d x r v1 v2 v3 w4 s) (fun e e1 h1 hg => wb_25_27 (q := .inl e1) hd h1 hg) (fun e t1 h1 hk => wb_25_27 (q := .inr t1) hd h1 hk) n e t h hK
def b_25_5 (v1 : Int) (v2 : Int) (v3 : Int) (s : zS) : Option ((Int × zS) ⊕ ((zS) ⊕ (Int × zS))) := zo (f_49 s) (fun r2 => zg (zR v3) (zg (zR r2) (if v3 < r2 then (zb (f_26 v2 v3 s) (fun r7 s8 => zo (zlp (fun (q : Int) => b_25_27 v1 v2 v3 r7 s8 q) zF 0) (fun e9 => Sum.elim (fun e11 => some (.inl ((v3 + 1), s8))) (fun q12 => some (.inr (.inr q12))) e9))) else (some (.inr (.inl s))))))
theorem wb_25_5 {k : zK} {d : Nat} {x : am_H} {r : am_A × am_H} {v1 : Int} {v2 : Int} {v3 : Int} {s : zS} {q : (Int × zS) ⊕ ((zS) ⊕ (Int × zS))} (hd : 99 ≤ d) (h : b_25_5 v1 v2 v3 s = some q) (hK : Sum.elim (G_25_5 k d x r v1 v2) (K_25_5 k d x r v1 v2) q) : G_25_5 k d x r v1 v2 (v3, s) := by
  unfold b_25_5 at h
  have hM := xM_25 k.1
  show zgo k d 25 (5, [(0, .ref 0), (1, .int (Int32.ofInt v1)), (2, .int (Int32.ofInt v2)), (3, .int (Int32.ofInt v3))], []) (hp s ++ x) r
  refine g_iload_n 6 hM rfl rfl rfl ?_
  refine g_aload_n 7 hM rfl rfl rfl ?_
  refine g_getF 10 hM rfl rfl rfl rfl rfl ?_
  obtain ⟨r2, h1, h⟩ := zo_some h
  refine g_call 13 _ [.int (Int32.ofInt r2), .int (Int32.ofInt v3)] hM rfl rfl rfl rfl rfl (xM_49 _) rfl (z_rcv2 rfl) rfl rfl (by omega) (w_49 (by omega) h1) rfl ?_
  obtain ⟨hg3, h⟩ := zg_some h
  obtain ⟨hg4, h⟩ := zg_some h
  by_cases hc5 : v3 < r2
  · rw [if_pos hc5] at h
    refine g_ic_ge_f 16 83 hM rfl rfl rfl hg3 hg4 hc5 ?_
    refine g_aload_n 17 hM rfl rfl rfl ?_
    refine g_iload_n 18 hM rfl rfl rfl ?_
    refine g_iload_n 19 hM rfl rfl rfl ?_
    obtain ⟨r7, s8, h6, h⟩ := zb_some h
    refine g_call 22 _ [.long (Int64.ofBitVec r7)] hM rfl rfl rfl rfl rfl (xM_26 _) rfl (z_rcv2 rfl) rfl rfl (by omega) (w_26 (by omega) h6) rfl ?_
    refine g_lstore 24 hM rfl rfl rfl ?_
    refine g_iconst 25 hM rfl rfl ?_
    refine g_istore 27 hM rfl rfl rfl ?_
    obtain ⟨e9, h10, h⟩ := zo_some h
    refine g_lv [(0, .ref 0), (1, .int (Int32.ofInt v1)), (2, .int (Int32.ofInt v2)), (3, .int (Int32.ofInt v3)), (4, .long (Int64.ofBitVec r7)), (6, .int (Int32.ofInt 0))] rfl ⟨rfl, rfl, rfl, rfl, rfl, rfl, trivial⟩ ?_
    refine wl_25_27 (by omega) h10 ?_
    rcases e9 with e11 | q12
    · simp only [ze_l] at h
      show zgo k d 25 (77, [(0, .ref 0), (1, .int (Int32.ofInt v1)), (2, .int (Int32.ofInt v2)), (3, .int (Int32.ofInt v3))], []) (hp s8 ++ x) r
      refine g_iinc 80 hM rfl rfl rfl rfl ?_
      refine g_goto 5 hM rfl rfl ?_
      cases h
      exact g_lv [(0, .ref 0), (1, .int (Int32.ofInt v1)), (2, .int (Int32.ofInt v2)), (3, .int (Int32.ofInt (v3 + 1)))] rfl ⟨rfl, rfl, rfl, rfl, trivial⟩ hK
    · cases h
      exact hK
  · rw [if_neg hc5] at h
    refine g_ic_ge_t 83 hM rfl rfl hg3 hg4 hc5 ?_
    cases h
    exact g_lv [] rfl trivial hK
theorem wl_25_5 {k : zK} {d : Nat} {x : am_H} {r : am_A × am_H} {v1 : Int} {v2 : Int} {n : Nat} {e : (Int × zS)} {t : ((zS) ⊕ (Int × zS))} (hd : 99 ≤ d) (h : zlp (fun (q : Int × zS) => b_25_5 v1 v2 q.1 q.2) n e = some t) (hK : K_25_5 k d x r v1 v2 t) : G_25_5 k d x r v1 v2 e := zlp_go (G := fun e => G_25_5 k d x r v1 v2 e) (K := K_25_5 k d x r v1 v2) (fun e e1 h1 hg => wb_25_5 (q := .inl e1) hd h1 hg) (fun e t1 h1 hk => wb_25_5 (q := .inr t1) hd h1 hk) n e t h hK
/-- RelationFinder.firstFrom(II)I -/
def f_25 (v1 : Int) (v2 : Int) (s : zS) : Option (Int × zS) := zg (0 ≤ v1 ∧ zR v1 ∧ (0 : Int) < 64 ∧ zR 64) (zo (zlp (fun (q : Int × zS) => b_25_5 v1 v2 q.1 q.2) zF ((v1 / 64), s)) (fun e2 => Sum.elim (fun e4 => some ((-1), e4)) (fun q5 => some q5) e2))
theorem w_25 {k : zK} {d : Nat} {x : am_H} {v1 : Int} {v2 : Int} {s : zS} {q : (Int × zS)} (hd : 99 ≤ d) (h : f_25 v1 v2 s = some q) : zgo k d 25 (0, [(0, .ref 0), (1, .int (Int32.ofInt v1)), (2, .int (Int32.ofInt v2))], []) (hp s ++ x) (.inl (some (.int (Int32.ofInt q.1))), hp q.2 ++ x) := by
  unfold f_25 at h
  have hM := xM_25 k.1
  refine g_iload_n 1 hM rfl rfl rfl ?_
  refine g_bipush 3 hM rfl rfl rfl ?_
  obtain ⟨hg1, h⟩ := zg_some h
  refine g_idiv 4 hM rfl rfl hg1 ?_
  refine g_istore_n 5 hM rfl rfl rfl ?_
  obtain ⟨e2, h3, h⟩ := zo_some h
  refine g_lv [(0, .ref 0), (1, .int (Int32.ofInt v1)), (2, .int (Int32.ofInt v2)), (3, .int (Int32.ofInt (v1 / 64)))] rfl ⟨rfl, rfl, rfl, rfl, trivial⟩ ?_
  refine wl_25_5 (by omega) h3 ?_
  rcases e2 with e4 | q5
  · simp only [ze_l] at h
    show zgo k d 25 (83, [], []) (hp e4 ++ x) (.inl (some (.int (Int32.ofInt q.1))), hp q.2 ++ x)
    refine g_iconst 84 hM rfl rfl ?_
    cases h
    exact g_ret hM rfl rfl
  · cases h
    rfl
/-- RelationFinder.solve()I -/
def f_23 (s : zS) : Option (Int × zS) := zo (f_24 s) (fun r2 => zb (f_25 0 r2 s) (fun r4 s5 => if (gI (sI s5 0 12 r4) 0 12) = (-1) then (some (0, (sI s5 0 12 r4))) else (some (1, (sI s5 0 12 r4)))))
theorem w_23 {k : zK} {d : Nat} {x : am_H} {s : zS} {q : (Int × zS)} (hd : 100 ≤ d) (h : f_23 s = some q) : zgo k d 23 (0, [(0, .ref 0)], []) (hp s ++ x) (.inl (some (.int (Int32.ofInt q.1))), hp q.2 ++ x) := by
  unfold f_23 at h
  have hM := xM_23 k.1
  refine g_aload_n 1 hM rfl rfl rfl ?_
  refine g_aload_n 2 hM rfl rfl rfl ?_
  refine g_iconst 3 hM rfl rfl ?_
  refine g_aload_n 4 hM rfl rfl rfl ?_
  obtain ⟨r2, h1, h⟩ := zo_some h
  refine g_call 7 _ [.int (Int32.ofInt r2), .int (Int32.ofInt 0), .ref 0, .ref 0] hM rfl rfl rfl rfl rfl (xM_24 _) rfl (z_rcv2 rfl) rfl rfl (by omega) (w_24 (by omega) h1) rfl ?_
  obtain ⟨r4, s5, h3, h⟩ := zb_some h
  refine g_call 10 _ [.int (Int32.ofInt r4), .ref 0] hM rfl rfl rfl rfl rfl (xM_25 _) rfl (z_rcv2 rfl) rfl rfl (by omega) (w_25 (by omega) h3) rfl ?_
  refine g_putI 13 12 hM rfl rfl rfl rfl rfl rfl rfl ?_
  refine g_aload_n 14 hM rfl rfl rfl ?_
  refine g_getI 17 12 (gI (sI s5 0 12 r4) 0 12) hM rfl rfl rfl rfl rfl rfl rfl ?_
  refine g_iconst 18 hM rfl rfl ?_
  by_cases hc6 : (gI (sI s5 0 12 r4) 0 12) = (-1)
  · rw [if_pos hc6] at h
    refine g_ic_ne_f 21 25 hM rfl rfl rfl (zR_gI _ _ _) (zR_lit rfl) hc6 ?_
    refine g_iconst 22 hM rfl rfl ?_
    refine g_goto 26 hM rfl rfl ?_
    cases h
    exact g_ret hM rfl rfl
  · rw [if_neg hc6] at h
    refine g_ic_ne_t 25 hM rfl rfl (zR_gI _ _ _) (zR_lit rfl) hc6 ?_
    refine g_iconst 26 hM rfl rfl ?_
    cases h
    exact g_ret hM rfl rfl
def G_27_4 (k : zK) (d : Nat) (x : am_H) (r : am_A × am_H) (e : (Int × Int × zS)) : Prop := zgo k d 27 (4, [(0, .ref 0), (1, .int (Int32.ofInt e.1)), (2, .int (Int32.ofInt e.2.1))], []) (hp e.2.2 ++ x) r
def K_27_4 (k : zK) (d : Nat) (x : am_H) (r : am_A × am_H) (t : (Int × zS)) : Prop := zgo k d 27 (36, [(1, .int (Int32.ofInt t.1))], []) (hp t.2 ++ x) r
/-- java/lang/Long.bitCount(J)I -/
def f_271 (w0 : BitVec 64) : Option Int := some (zand ((BitVec.toNat ((((((((w0 - ((w0 >>> zshl 1) &&& (6148914691236517205#64))) &&& (3689348814741910323#64)) + (((w0 - ((w0 >>> zshl 1) &&& (6148914691236517205#64))) >>> zshl 2) &&& (3689348814741910323#64))) + ((((w0 - ((w0 >>> zshl 1) &&& (6148914691236517205#64))) &&& (3689348814741910323#64)) + (((w0 - ((w0 >>> zshl 1) &&& (6148914691236517205#64))) >>> zshl 2) &&& (3689348814741910323#64))) >>> zshl 4)) &&& (1085102592571150095#64)) + ((((((w0 - ((w0 >>> zshl 1) &&& (6148914691236517205#64))) &&& (3689348814741910323#64)) + (((w0 - ((w0 >>> zshl 1) &&& (6148914691236517205#64))) >>> zshl 2) &&& (3689348814741910323#64))) + ((((w0 - ((w0 >>> zshl 1) &&& (6148914691236517205#64))) &&& (3689348814741910323#64)) + (((w0 - ((w0 >>> zshl 1) &&& (6148914691236517205#64))) >>> zshl 2) &&& (3689348814741910323#64))) >>> zshl 4)) &&& (1085102592571150095#64)) >>> zshl 8)) + (((((((w0 - ((w0 >>> zshl 1) &&& (6148914691236517205#64))) &&& (3689348814741910323#64)) + (((w0 - ((w0 >>> zshl 1) &&& (6148914691236517205#64))) >>> zshl 2) &&& (3689348814741910323#64))) + ((((w0 - ((w0 >>> zshl 1) &&& (6148914691236517205#64))) &&& (3689348814741910323#64)) + (((w0 - ((w0 >>> zshl 1) &&& (6148914691236517205#64))) >>> zshl 2) &&& (3689348814741910323#64))) >>> zshl 4)) &&& (1085102592571150095#64)) + ((((((w0 - ((w0 >>> zshl 1) &&& (6148914691236517205#64))) &&& (3689348814741910323#64)) + (((w0 - ((w0 >>> zshl 1) &&& (6148914691236517205#64))) >>> zshl 2) &&& (3689348814741910323#64))) + ((((w0 - ((w0 >>> zshl 1) &&& (6148914691236517205#64))) &&& (3689348814741910323#64)) + (((w0 - ((w0 >>> zshl 1) &&& (6148914691236517205#64))) >>> zshl 2) &&& (3689348814741910323#64))) >>> zshl 4)) &&& (1085102592571150095#64)) >>> zshl 8)) >>> zshl 16)) + ((((((((w0 - ((w0 >>> zshl 1) &&& (6148914691236517205#64))) &&& (3689348814741910323#64)) + (((w0 - ((w0 >>> zshl 1) &&& (6148914691236517205#64))) >>> zshl 2) &&& (3689348814741910323#64))) + ((((w0 - ((w0 >>> zshl 1) &&& (6148914691236517205#64))) &&& (3689348814741910323#64)) + (((w0 - ((w0 >>> zshl 1) &&& (6148914691236517205#64))) >>> zshl 2) &&& (3689348814741910323#64))) >>> zshl 4)) &&& (1085102592571150095#64)) + ((((((w0 - ((w0 >>> zshl 1) &&& (6148914691236517205#64))) &&& (3689348814741910323#64)) + (((w0 - ((w0 >>> zshl 1) &&& (6148914691236517205#64))) >>> zshl 2) &&& (3689348814741910323#64))) + ((((w0 - ((w0 >>> zshl 1) &&& (6148914691236517205#64))) &&& (3689348814741910323#64)) + (((w0 - ((w0 >>> zshl 1) &&& (6148914691236517205#64))) >>> zshl 2) &&& (3689348814741910323#64))) >>> zshl 4)) &&& (1085102592571150095#64)) >>> zshl 8)) + (((((((w0 - ((w0 >>> zshl 1) &&& (6148914691236517205#64))) &&& (3689348814741910323#64)) + (((w0 - ((w0 >>> zshl 1) &&& (6148914691236517205#64))) >>> zshl 2) &&& (3689348814741910323#64))) + ((((w0 - ((w0 >>> zshl 1) &&& (6148914691236517205#64))) &&& (3689348814741910323#64)) + (((w0 - ((w0 >>> zshl 1) &&& (6148914691236517205#64))) >>> zshl 2) &&& (3689348814741910323#64))) >>> zshl 4)) &&& (1085102592571150095#64)) + ((((((w0 - ((w0 >>> zshl 1) &&& (6148914691236517205#64))) &&& (3689348814741910323#64)) + (((w0 - ((w0 >>> zshl 1) &&& (6148914691236517205#64))) >>> zshl 2) &&& (3689348814741910323#64))) + ((((w0 - ((w0 >>> zshl 1) &&& (6148914691236517205#64))) &&& (3689348814741910323#64)) + (((w0 - ((w0 >>> zshl 1) &&& (6148914691236517205#64))) >>> zshl 2) &&& (3689348814741910323#64))) >>> zshl 4)) &&& (1085102592571150095#64)) >>> zshl 8)) >>> zshl 16)) >>> zshl 32)) : Nat) : Int) 127)
theorem w_271 {k : zK} {d : Nat} {x : am_H} {w0 : BitVec 64} {s : zS} {q : Int} (hd : 0 ≤ d) (h : f_271 w0 = some q) : zgo k d 271 (0, [(0, .long (Int64.ofBitVec w0))], []) (hp s ++ x) (.inl (some (.int (Int32.ofInt q))), hp s ++ x) := by
  unfold f_271 at h
  have hM := xM_271 k.1
  refine g_lload_n 1 hM rfl rfl rfl ?_
  refine g_lload_n 2 hM rfl rfl rfl ?_
  refine g_iconst 3 hM rfl rfl ?_
  refine g_lushr 4 hM rfl rfl (zR_lit rfl) ?_
  refine g_ldc2 7 (6148914691236517205#64) hM rfl rfl rfl (by decide) ?_
  refine g_land 8 hM rfl rfl ?_
  refine g_lsub 9 hM rfl rfl ?_
  refine g_lstore_n 10 hM rfl rfl rfl ?_
  refine g_lload_n 11 hM rfl rfl rfl ?_
  refine g_ldc2 14 (3689348814741910323#64) hM rfl rfl rfl (by decide) ?_
  refine g_land 15 hM rfl rfl ?_
  refine g_lload_n 16 hM rfl rfl rfl ?_
  refine g_iconst 17 hM rfl rfl ?_
  refine g_lushr 18 hM rfl rfl (zR_lit rfl) ?_
  refine g_ldc2 21 (3689348814741910323#64) hM rfl rfl rfl (by decide) ?_
  refine g_land 22 hM rfl rfl ?_
  refine g_ladd 23 hM rfl rfl ?_
  refine g_lstore_n 24 hM rfl rfl rfl ?_
  refine g_lload_n 25 hM rfl rfl rfl ?_
  refine g_lload_n 26 hM rfl rfl rfl ?_
  refine g_iconst 27 hM rfl rfl ?_
  refine g_lushr 28 hM rfl rfl (zR_lit rfl) ?_
  refine g_ladd 29 hM rfl rfl ?_
  refine g_ldc2 32 (1085102592571150095#64) hM rfl rfl rfl (by decide) ?_
  refine g_land 33 hM rfl rfl ?_
  refine g_lstore_n 34 hM rfl rfl rfl ?_
  refine g_lload_n 35 hM rfl rfl rfl ?_
  refine g_lload_n 36 hM rfl rfl rfl ?_
  refine g_bipush 38 hM rfl rfl rfl ?_
  refine g_lushr 39 hM rfl rfl (zR_lit rfl) ?_
  refine g_ladd 40 hM rfl rfl ?_
  refine g_lstore_n 41 hM rfl rfl rfl ?_
  refine g_lload_n 42 hM rfl rfl rfl ?_
  refine g_lload_n 43 hM rfl rfl rfl ?_
  refine g_bipush 45 hM rfl rfl rfl ?_
  refine g_lushr 46 hM rfl rfl (zR_lit rfl) ?_
  refine g_ladd 47 hM rfl rfl ?_
  refine g_lstore_n 48 hM rfl rfl rfl ?_
  refine g_lload_n 49 hM rfl rfl rfl ?_
  refine g_lload_n 50 hM rfl rfl rfl ?_
  refine g_bipush 52 hM rfl rfl rfl ?_
  refine g_lushr 53 hM rfl rfl (zR_lit rfl) ?_
  refine g_ladd 54 hM rfl rfl ?_
  refine g_lstore_n 55 hM rfl rfl rfl ?_
  refine g_lload_n 56 hM rfl rfl rfl ?_
  refine g_l2i 57 hM rfl rfl ?_
  refine g_bipush 59 hM rfl rfl rfl ?_
  refine g_iand 60 hM rfl rfl ?_
  cases h
  exact g_ret hM rfl rfl
def b_27_4 (v1 : Int) (v2 : Int) (s : zS) : Option ((Int × Int × zS) ⊕ (Int × zS)) := zo (f_49 s) (fun r2 => zg (zR v2) (zg (zR r2) (if v2 < r2 then (zo (f_24 s) (fun r7 => zb (f_26 r7 v2 s) (fun r9 s10 => zo (f_271 r9) (fun r12 => some (.inl ((v1 + r12), (v2 + 1), s10)))))) else (some (.inr (v1, s))))))
theorem wb_27_4 {k : zK} {d : Nat} {x : am_H} {r : am_A × am_H} {v1 : Int} {v2 : Int} {s : zS} {q : (Int × Int × zS) ⊕ (Int × zS)} (hd : 99 ≤ d) (h : b_27_4 v1 v2 s = some q) (hK : Sum.elim (G_27_4 k d x r) (K_27_4 k d x r) q) : G_27_4 k d x r (v1, v2, s) := by
  unfold b_27_4 at h
  have hM := xM_27 k.1
  show zgo k d 27 (4, [(0, .ref 0), (1, .int (Int32.ofInt v1)), (2, .int (Int32.ofInt v2))], []) (hp s ++ x) r
  refine g_iload_n 5 hM rfl rfl rfl ?_
  refine g_aload_n 6 hM rfl rfl rfl ?_
  refine g_getF 9 hM rfl rfl rfl rfl rfl ?_
  obtain ⟨r2, h1, h⟩ := zo_some h
  refine g_call 12 _ [.int (Int32.ofInt r2), .int (Int32.ofInt v2)] hM rfl rfl rfl rfl rfl (xM_49 _) rfl (z_rcv2 rfl) rfl rfl (by omega) (w_49 (by omega) h1) rfl ?_
  obtain ⟨hg3, h⟩ := zg_some h
  obtain ⟨hg4, h⟩ := zg_some h
  by_cases hc5 : v2 < r2
  · rw [if_pos hc5] at h
    refine g_ic_ge_f 15 36 hM rfl rfl rfl hg3 hg4 hc5 ?_
    refine g_iload_n 16 hM rfl rfl rfl ?_
    refine g_aload_n 17 hM rfl rfl rfl ?_
    refine g_aload_n 18 hM rfl rfl rfl ?_
    obtain ⟨r7, h6, h⟩ := zo_some h
    refine g_call 21 _ [.int (Int32.ofInt r7), .ref 0, .int (Int32.ofInt v1)] hM rfl rfl rfl rfl rfl (xM_24 _) rfl (z_rcv2 rfl) rfl rfl (by omega) (w_24 (by omega) h6) rfl ?_
    refine g_iload_n 22 hM rfl rfl rfl ?_
    obtain ⟨r9, s10, h8, h⟩ := zb_some h
    refine g_call 25 _ [.long (Int64.ofBitVec r9), .int (Int32.ofInt v1)] hM rfl rfl rfl rfl rfl (xM_26 _) rfl (z_rcv2 rfl) rfl rfl (by omega) (w_26 (by omega) h8) rfl ?_
    obtain ⟨r12, h11, h⟩ := zo_some h
    refine g_call 28 _ [.int (Int32.ofInt r12), .int (Int32.ofInt v1)] hM rfl rfl rfl rfl rfl (xM_271 _) rfl rfl rfl rfl (by omega) (w_271 (by omega) h11) rfl ?_
    refine g_iadd 29 hM rfl rfl ?_
    refine g_istore_n 30 hM rfl rfl rfl ?_
    refine g_iinc 33 hM rfl rfl rfl rfl ?_
    refine g_goto 4 hM rfl rfl ?_
    cases h
    exact g_lv [(0, .ref 0), (1, .int (Int32.ofInt (v1 + r12))), (2, .int (Int32.ofInt (v2 + 1)))] rfl ⟨rfl, rfl, rfl, trivial⟩ hK
  · rw [if_neg hc5] at h
    refine g_ic_ge_t 36 hM rfl rfl hg3 hg4 hc5 ?_
    cases h
    exact g_lv [(1, .int (Int32.ofInt v1))] rfl ⟨rfl, trivial⟩ hK
theorem wl_27_4 {k : zK} {d : Nat} {x : am_H} {r : am_A × am_H} {n : Nat} {e : (Int × Int × zS)} {t : (Int × zS)} (hd : 99 ≤ d) (h : zlp (fun (q : Int × Int × zS) => b_27_4 q.1 q.2.1 q.2.2) n e = some t) (hK : K_27_4 k d x r t) : G_27_4 k d x r e := zlp_go (G := fun e => G_27_4 k d x r e) (K := K_27_4 k d x r) (fun e e1 h1 hg => wb_27_4 (q := .inl e1) hd h1 hg) (fun e t1 h1 hk => wb_27_4 (q := .inr t1) hd h1 hk) n e t h hK
/-- RelationFinder.count()I -/
def f_27 (s : zS) : Option (Int × zS) := zo (zlp (fun (q : Int × Int × zS) => b_27_4 q.1 q.2.1 q.2.2) zF (0, 0, s)) (fun e1 => some (e1.1, e1.2))
theorem w_27 {k : zK} {d : Nat} {x : am_H} {s : zS} {q : (Int × zS)} (hd : 99 ≤ d) (h : f_27 s = some q) : zgo k d 27 (0, [(0, .ref 0)], []) (hp s ++ x) (.inl (some (.int (Int32.ofInt q.1))), hp q.2 ++ x) := by
  unfold f_27 at h
  have hM := xM_27 k.1
  refine g_iconst 1 hM rfl rfl ?_
  refine g_istore_n 2 hM rfl rfl rfl ?_
  refine g_iconst 3 hM rfl rfl ?_
  refine g_istore_n 4 hM rfl rfl rfl ?_
  obtain ⟨e1, h2, h⟩ := zo_some h
  refine g_lv [(0, .ref 0), (1, .int (Int32.ofInt 0)), (2, .int (Int32.ofInt 0))] rfl ⟨rfl, rfl, rfl, trivial⟩ ?_
  refine wl_27_4 (by omega) h2 ?_
  show zgo k d 27 (36, [(1, .int (Int32.ofInt e1.1))], []) (hp e1.2 ++ x) (.inl (some (.int (Int32.ofInt q.1))), hp q.2 ++ x)
  refine g_iload_n 37 hM rfl rfl rfl ?_
  cases h
  exact g_ret hM rfl rfl
def G_130_15 (k : zK) (d : Nat) (x : am_H) (r : am_A × am_H) (e : (Int × zS)) : Prop := zgo k d 130 (15, [(0, .ref 25), (1, .int (Int32.ofInt e.1))], []) (hp e.2 ++ x) r
def K_130_15 (k : zK) (d : Nat) (x : am_H) (r : am_A × am_H) (t : (zS)) : Prop := zgo k d 130 (33, [(0, .ref 25)], []) (hp t ++ x) r
def b_130_15 (v1 : Int) (s : zS) : Option ((Int × zS) ⊕ (zS)) := zg (zR v1) (if v1 < 5 then (zg (0 ≤ v1 ∧ v1 < 5) (some (.inl ((v1 + 1), (sI s 26 v1 v1))))) else (some (.inr s)))
theorem wb_130_15 {k : zK} {d : Nat} {x : am_H} {r : am_A × am_H} {v1 : Int} {s : zS} {q : (Int × zS) ⊕ (zS)} (hd : 2 ≤ d) (h : b_130_15 v1 s = some q) (hK : Sum.elim (G_130_15 k d x r) (K_130_15 k d x r) q) : G_130_15 k d x r (v1, s) := by
  unfold b_130_15 at h
  have hM := xM_130 k.1
  show zgo k d 130 (15, [(0, .ref 25), (1, .int (Int32.ofInt v1))], []) (hp s ++ x) r
  refine g_iload_n 16 hM rfl rfl rfl ?_
  refine g_iconst 17 hM rfl rfl ?_
  obtain ⟨hg1, h⟩ := zg_some h
  by_cases hc2 : v1 < 5
  · rw [if_pos hc2] at h
    refine g_ic_ge_f 20 33 hM rfl rfl rfl hg1 (zR_lit rfl) hc2 ?_
    refine g_aload_n 21 hM rfl rfl rfl ?_
    refine g_getF 24 hM rfl rfl rfl rfl rfl ?_
    refine g_iload_n 25 hM rfl rfl rfl ?_
    refine g_iload_n 26 hM rfl rfl rfl ?_
    obtain ⟨hg3, h⟩ := zg_some h
    refine g_iastore 27 hM rfl rfl rfl rfl hg3 ?_
    refine g_iinc 30 hM rfl rfl rfl rfl ?_
    refine g_goto 15 hM rfl rfl ?_
    cases h
    exact g_lv [(0, .ref 25), (1, .int (Int32.ofInt (v1 + 1)))] rfl ⟨rfl, rfl, trivial⟩ hK
  · rw [if_neg hc2] at h
    refine g_ic_ge_t 33 hM rfl rfl hg1 (zR_lit rfl) hc2 ?_
    cases h
    exact g_lv [(0, .ref 25)] rfl ⟨rfl, trivial⟩ hK
theorem wl_130_15 {k : zK} {d : Nat} {x : am_H} {r : am_A × am_H} {n : Nat} {e : (Int × zS)} {t : (zS)} (hd : 2 ≤ d) (h : zlp (fun (q : Int × zS) => b_130_15 q.1 q.2) n e = some t) (hK : K_130_15 k d x r t) : G_130_15 k d x r e := zlp_go (G := fun e => G_130_15 k d x r e) (K := K_130_15 k d x r) (fun e e1 h1 hg => wb_130_15 (q := .inl e1) hd h1 hg) (fun e t1 h1 hk => wb_130_15 (q := .inr t1) hd h1 hk) n e t h hK
def G_130_37 (k : zK) (d : Nat) (x : am_H) (r : am_A × am_H) (e : (Int × Int × zS)) : Prop := zgo k d 130 (37, [(0, .ref 25), (1, .int (Int32.ofInt e.1)), (2, .int (Int32.ofInt e.2.1))], []) (hp e.2.2 ++ x) r
def K_130_37 (k : zK) (d : Nat) (x : am_H) (r : am_A × am_H) (t : (zS)) : Prop := zgo k d 130 (69, [(0, .ref 25)], []) (hp t ++ x) r
def G_131_2 (k : zK) (d : Nat) (x : am_H) (r : am_A × am_H) (s : zS) (e : (Int)) : Prop := zgo k d 131 (2, [(0, .ref 25), (1, .int (Int32.ofInt e))], []) (hp s ++ x) r
def K_131_2 (k : zK) (d : Nat) (x : am_H) (r : am_A × am_H) (s : zS) (t : ((Unit) ⊕ Int)) : Prop := Sum.elim (fun e => zgo k d 131 (99, [], []) (hp s ++ x) r) (fun q => r = (.inl (some (.int (Int32.ofInt q))), hp s ++ x)) t
def G_131_31 (k : zK) (d : Nat) (x : am_H) (r : am_A × am_H) (v1 : Int) (v2 : Int) (v3 : Int) (s : zS) (e : (Int)) : Prop := zgo k d 131 (31, [(0, .ref 25), (1, .int (Int32.ofInt v1)), (2, .int (Int32.ofInt v2)), (3, .int (Int32.ofInt v3)), (4, .int (Int32.ofInt e))], []) (hp s ++ x) r
def K_131_31 (k : zK) (d : Nat) (x : am_H) (r : am_A × am_H) (v1 : Int) (v2 : Int) (v3 : Int) (s : zS) (t : ((Unit) ⊕ Int)) : Prop := Sum.elim (fun e => zgo k d 131 (93, [(0, .ref 25), (1, .int (Int32.ofInt v1))], []) (hp s ++ x) r) (fun q => r = (.inl (some (.int (Int32.ofInt q))), hp s ++ x)) t
def G_132_27 (k : zK) (d : Nat) (x : am_H) (r : am_A × am_H) (v2 : Int) (v3 : Int) (s : zS) (e : (Int × Int × Int × Int)) : Prop := zgo k d 132 (27, [(0, .ref 25), (2, .int (Int32.ofInt v2)), (3, .int (Int32.ofInt v3)), (4, .int (Int32.ofInt e.1)), (5, .int (Int32.ofInt e.2.1)), (6, .int (Int32.ofInt e.2.2.1)), (7, .int (Int32.ofInt e.2.2.2))], []) (hp s ++ x) r
def K_132_27 (k : zK) (d : Nat) (x : am_H) (r : am_A × am_H) (v2 : Int) (v3 : Int) (s : zS) (t : (Int)) : Prop := zgo k d 132 (68, [(6, .int (Int32.ofInt t))], []) (hp s ++ x) r
def b_132_27 (v2 : Int) (v3 : Int) (s : zS) (v4 : Int) (v5 : Int) (v6 : Int) (v7 : Int) : Option ((Int × Int × Int × Int) ⊕ (Int)) := zg (zR v7) (zg (zR v2) (if v7 < v2 then (zg (0 ≤ v4 ∧ zR v4 ∧ 0 < v3 ∧ zR v3) (zg (0 ≤ (v4 % v3) ∧ (v4 % v3) < 5) (some (.inl ((v4 / v3), (v5 * v3), (v6 + ((gI s 26 (v4 % v3)) * v5)), (v7 + 1)))))) else (some (.inr v6))))
theorem wb_132_27 {k : zK} {d : Nat} {x : am_H} {r : am_A × am_H} {v2 : Int} {v3 : Int} {v4 : Int} {v5 : Int} {v6 : Int} {v7 : Int} {s : zS} {q : (Int × Int × Int × Int) ⊕ (Int)} (hd : 0 ≤ d) (h : b_132_27 v2 v3 s v4 v5 v6 v7 = some q) (hK : Sum.elim (G_132_27 k d x r v2 v3 s) (K_132_27 k d x r v2 v3 s) q) : G_132_27 k d x r v2 v3 s (v4, v5, v6, v7) := by
  unfold b_132_27 at h
  have hM := xM_132 k.1
  show zgo k d 132 (27, [(0, .ref 25), (2, .int (Int32.ofInt v2)), (3, .int (Int32.ofInt v3)), (4, .int (Int32.ofInt v4)), (5, .int (Int32.ofInt v5)), (6, .int (Int32.ofInt v6)), (7, .int (Int32.ofInt v7))], []) (hp s ++ x) r
  refine g_iload 29 hM rfl rfl rfl ?_
  refine g_iload_n 30 hM rfl rfl rfl ?_
  obtain ⟨hg1, h⟩ := zg_some h
  obtain ⟨hg2, h⟩ := zg_some h
  by_cases hc3 : v7 < v2
  · rw [if_pos hc3] at h
    refine g_ic_ge_f 33 68 hM rfl rfl rfl hg1 hg2 hc3 ?_
    refine g_iload 35 hM rfl rfl rfl ?_
    refine g_aload_n 36 hM rfl rfl rfl ?_
    refine g_getF 39 hM rfl rfl rfl rfl rfl ?_
    refine g_iload 41 hM rfl rfl rfl ?_
    refine g_iload_n 42 hM rfl rfl rfl ?_
    obtain ⟨hg4, h⟩ := zg_some h
    refine g_irem 43 hM rfl rfl hg4 ?_
    obtain ⟨hg5, h⟩ := zg_some h
    refine g_iaload 44 (gI s 26 (v4 % v3)) hM rfl rfl rfl rfl hg5 rfl ?_
    refine g_iload 46 hM rfl rfl rfl ?_
    refine g_imul 47 hM rfl rfl ?_
    refine g_iadd 48 hM rfl rfl ?_
    refine g_istore 50 hM rfl rfl rfl ?_
    refine g_iload 52 hM rfl rfl rfl ?_
    refine g_iload_n 53 hM rfl rfl rfl ?_
    refine g_idiv 54 hM rfl rfl hg4 ?_
    refine g_istore 56 hM rfl rfl rfl ?_
    refine g_iload 58 hM rfl rfl rfl ?_
    refine g_iload_n 59 hM rfl rfl rfl ?_
    refine g_imul 60 hM rfl rfl ?_
    refine g_istore 62 hM rfl rfl rfl ?_
    refine g_iinc 65 hM rfl rfl rfl rfl ?_
    refine g_goto 27 hM rfl rfl ?_
    cases h
    exact g_lv [(0, .ref 25), (2, .int (Int32.ofInt v2)), (3, .int (Int32.ofInt v3)), (4, .int (Int32.ofInt (v4 / v3))), (5, .int (Int32.ofInt (v5 * v3))), (6, .int (Int32.ofInt (v6 + ((gI s 26 (v4 % v3)) * v5)))), (7, .int (Int32.ofInt (v7 + 1)))] rfl ⟨rfl, rfl, rfl, rfl, rfl, rfl, rfl, trivial⟩ hK
  · rw [if_neg hc3] at h
    refine g_ic_ge_t 68 hM rfl rfl hg1 hg2 hc3 ?_
    cases h
    exact g_lv [(6, .int (Int32.ofInt v6))] rfl ⟨rfl, trivial⟩ hK
theorem wl_132_27 {k : zK} {d : Nat} {x : am_H} {r : am_A × am_H} {v2 : Int} {v3 : Int} {s : zS} {n : Nat} {e : (Int × Int × Int × Int)} {t : (Int)} (hd : 0 ≤ d) (h : zlp (fun (q : Int × Int × Int × Int) => b_132_27 v2 v3 s q.1 q.2.1 q.2.2.1 q.2.2.2) n e = some t) (hK : K_132_27 k d x r v2 v3 s t) : G_132_27 k d x r v2 v3 s e := zlp_go (G := fun e => G_132_27 k d x r v2 v3 s e) (K := K_132_27 k d x r v2 v3 s) (fun e e1 h1 hg => wb_132_27 (q := .inl e1) hd h1 hg) (fun e t1 h1 hk => wb_132_27 (q := .inr t1) hd h1 hk) n e t h hK
/-- RelationFinder$Renamings.imageOf(II)I -/
def f_132 (v1 : Int) (v2 : Int) (s : zS) : Option Int := if (gI s 1 0) < 1 then (some v1) else (zo (zlp (fun (q : Int × Int × Int × Int) => b_132_27 v2 (gI s 1 0) s q.1 q.2.1 q.2.2.1 q.2.2.2) zF (v1, 1, 0, 0)) (fun e2 => some e2))
theorem w_132 {k : zK} {d : Nat} {x : am_H} {v1 : Int} {v2 : Int} {s : zS} {q : Int} (hd : 0 ≤ d) (h : f_132 v1 v2 s = some q) : zgo k d 132 (0, [(0, .ref 25), (1, .int (Int32.ofInt v1)), (2, .int (Int32.ofInt v2))], []) (hp s ++ x) (.inl (some (.int (Int32.ofInt q))), hp s ++ x) := by
  unfold f_132 at h
  have hM := xM_132 k.1
  refine g_aload_n 1 hM rfl rfl rfl ?_
  refine g_getF 4 hM rfl rfl rfl rfl rfl ?_
  refine g_getI 7 0 (gI s 1 0) hM rfl rfl rfl rfl rfl rfl rfl ?_
  refine g_istore_n 8 hM rfl rfl rfl ?_
  refine g_iload_n 9 hM rfl rfl rfl ?_
  refine g_iconst 10 hM rfl rfl ?_
  by_cases hc1 : (gI s 1 0) < 1
  · rw [if_pos hc1] at h
    refine g_ic_ge_f 13 15 hM rfl rfl rfl (zR_gI _ _ _) (zR_lit rfl) hc1 ?_
    refine g_iload_n 14 hM rfl rfl rfl ?_
    cases h
    exact g_ret hM rfl rfl
  · rw [if_neg hc1] at h
    refine g_ic_ge_t 15 hM rfl rfl (zR_gI _ _ _) (zR_lit rfl) hc1 ?_
    refine g_iload_n 16 hM rfl rfl rfl ?_
    refine g_istore 18 hM rfl rfl rfl ?_
    refine g_iconst 19 hM rfl rfl ?_
    refine g_istore 21 hM rfl rfl rfl ?_
    refine g_iconst 22 hM rfl rfl ?_
    refine g_istore 24 hM rfl rfl rfl ?_
    refine g_iconst 25 hM rfl rfl ?_
    refine g_istore 27 hM rfl rfl rfl ?_
    obtain ⟨e2, h3, h⟩ := zo_some h
    refine g_lv [(0, .ref 25), (2, .int (Int32.ofInt v2)), (3, .int (Int32.ofInt (gI s 1 0))), (4, .int (Int32.ofInt v1)), (5, .int (Int32.ofInt 1)), (6, .int (Int32.ofInt 0)), (7, .int (Int32.ofInt 0))] rfl ⟨rfl, rfl, rfl, rfl, rfl, rfl, rfl, trivial⟩ ?_
    refine wl_132_27 (by omega) h3 ?_
    show zgo k d 132 (68, [(6, .int (Int32.ofInt e2))], []) (hp s ++ x) (.inl (some (.int (Int32.ofInt q))), hp s ++ x)
    refine g_iload 70 hM rfl rfl rfl ?_
    cases h
    exact g_ret hM rfl rfl
def b_131_31 (v1 : Int) (v2 : Int) (v3 : Int) (s : zS) (v4 : Int) : Option ((Int) ⊕ ((Unit) ⊕ Int)) := zo (f_52 v3 s) (fun r2 => zg (zR v4) (zg (zR r2) (if v4 < r2 then (zg (0 ≤ (v2 + v4) ∧ (v2 + v4) < 1000) (if (gI s 5 (v2 + v4)) = 0 then (some (.inl (v4 + 1))) else (zo (f_132 v4 v3 s) (fun r9 => zg (0 ≤ (v2 + r9) ∧ (v2 + r9) < 1000) (if (gI s 5 (v2 + r9)) = (gI s 5 (v2 + v4)) then (some (.inl (v4 + 1))) else (some (.inr (.inr 0)))))))) else (some (.inr (.inl ()))))))
theorem wb_131_31 {k : zK} {d : Nat} {x : am_H} {r : am_A × am_H} {v1 : Int} {v2 : Int} {v3 : Int} {v4 : Int} {s : zS} {q : (Int) ⊕ ((Unit) ⊕ Int)} (hd : 1 ≤ d) (h : b_131_31 v1 v2 v3 s v4 = some q) (hK : Sum.elim (G_131_31 k d x r v1 v2 v3 s) (K_131_31 k d x r v1 v2 v3 s) q) : G_131_31 k d x r v1 v2 v3 s v4 := by
  unfold b_131_31 at h
  have hM := xM_131 k.1
  show zgo k d 131 (31, [(0, .ref 25), (1, .int (Int32.ofInt v1)), (2, .int (Int32.ofInt v2)), (3, .int (Int32.ofInt v3)), (4, .int (Int32.ofInt v4))], []) (hp s ++ x) r
  refine g_iload 33 hM rfl rfl rfl ?_
  refine g_aload_n 34 hM rfl rfl rfl ?_
  refine g_getF 37 hM rfl rfl rfl rfl rfl ?_
  refine g_iload_n 38 hM rfl rfl rfl ?_
  obtain ⟨r2, h1, h⟩ := zo_some h
  refine g_call 41 _ [.int (Int32.ofInt r2), .int (Int32.ofInt v4)] hM rfl rfl rfl rfl rfl (xM_52 _) rfl (z_rcv2 rfl) rfl rfl (by omega) (w_52 (by omega) h1) rfl ?_
  obtain ⟨hg3, h⟩ := zg_some h
  obtain ⟨hg4, h⟩ := zg_some h
  by_cases hc5 : v4 < r2
  · rw [if_pos hc5] at h
    refine g_ic_ge_f 44 93 hM rfl rfl rfl hg3 hg4 hc5 ?_
    refine g_aload_n 45 hM rfl rfl rfl ?_
    refine g_getF 48 hM rfl rfl rfl rfl rfl ?_
    refine g_getF 51 hM rfl rfl rfl rfl rfl ?_
    refine g_iload_n 52 hM rfl rfl rfl ?_
    refine g_iload 54 hM rfl rfl rfl ?_
    refine g_iadd 55 hM rfl rfl ?_
    obtain ⟨hg6, h⟩ := zg_some h
    refine g_iaload 56 (gI s 5 (v2 + v4)) hM rfl rfl rfl rfl hg6 rfl ?_
    refine g_istore 58 hM rfl rfl rfl ?_
    refine g_iload 60 hM rfl rfl rfl ?_
    by_cases hc7 : (gI s 5 (v2 + v4)) = 0
    · rw [if_pos hc7] at h
      refine g_if_eq_t 87 hM rfl rfl (zR_gI _ _ _) hc7 ?_
      refine g_iinc 90 hM rfl rfl rfl rfl ?_
      refine g_goto 31 hM rfl rfl ?_
      cases h
      exact g_lv [(0, .ref 25), (1, .int (Int32.ofInt v1)), (2, .int (Int32.ofInt v2)), (3, .int (Int32.ofInt v3)), (4, .int (Int32.ofInt (v4 + 1)))] rfl ⟨rfl, rfl, rfl, rfl, rfl, trivial⟩ hK
    · rw [if_neg hc7] at h
      refine g_if_eq_f 63 87 hM rfl rfl rfl (zR_gI _ _ _) hc7 ?_
      refine g_aload_n 64 hM rfl rfl rfl ?_
      refine g_getF 67 hM rfl rfl rfl rfl rfl ?_
      refine g_getF 70 hM rfl rfl rfl rfl rfl ?_
      refine g_iload_n 71 hM rfl rfl rfl ?_
      refine g_aload_n 72 hM rfl rfl rfl ?_
      refine g_iload 74 hM rfl rfl rfl ?_
      refine g_iload_n 75 hM rfl rfl rfl ?_
      obtain ⟨r9, h8, h⟩ := zo_some h
      refine g_call 78 _ [.int (Int32.ofInt r9), .int (Int32.ofInt v2), .ref 5] hM rfl rfl rfl rfl rfl (xM_132 _) rfl (z_rcv2 rfl) rfl rfl (by omega) (w_132 (by omega) h8) rfl ?_
      refine g_iadd 79 hM rfl rfl ?_
      obtain ⟨hg10, h⟩ := zg_some h
      refine g_iaload 80 (gI s 5 (v2 + r9)) hM rfl rfl rfl rfl hg10 rfl ?_
      refine g_iload 82 hM rfl rfl rfl ?_
      by_cases hc11 : (gI s 5 (v2 + r9)) = (gI s 5 (v2 + v4))
      · rw [if_pos hc11] at h
        refine g_ic_eq_t 87 hM rfl rfl (zR_gI _ _ _) (zR_gI _ _ _) hc11 ?_
        refine g_iinc 90 hM rfl rfl rfl rfl ?_
        refine g_goto 31 hM rfl rfl ?_
        cases h
        exact g_lv [(0, .ref 25), (1, .int (Int32.ofInt v1)), (2, .int (Int32.ofInt v2)), (3, .int (Int32.ofInt v3)), (4, .int (Int32.ofInt (v4 + 1)))] rfl ⟨rfl, rfl, rfl, rfl, rfl, trivial⟩ hK
      · rw [if_neg hc11] at h
        refine g_ic_eq_f 85 87 hM rfl rfl rfl (zR_gI _ _ _) (zR_gI _ _ _) hc11 ?_
        refine g_iconst 86 hM rfl rfl ?_
        cases h
        rw [show r = _ from hK]
        exact g_ret hM rfl rfl
  · rw [if_neg hc5] at h
    refine g_ic_ge_t 93 hM rfl rfl hg3 hg4 hc5 ?_
    cases h
    exact g_lv [(0, .ref 25), (1, .int (Int32.ofInt v1))] rfl ⟨rfl, rfl, trivial⟩ hK
