/-! THE PURE LAYER: methods as functions, and runs that do what they say (3). By program. -/
def G_213_2 (k : zK) (d : Nat) (x : am_H) (r : am_A × am_H) (e : (Int × zS)) : Prop := zgo k d 213 (2, [(0, .ref 177), (1, .int (Int32.ofInt e.1))], []) (hp e.2 ++ x) r
def K_213_2 (k : zK) (d : Nat) (x : am_H) (r : am_A × am_H) (t : (zS)) : Prop := zgo k d 213 (85, [], []) (hp t ++ x) r
def b_213_2 (v1 : Int) (s : zS) : Option ((Int × zS) ⊕ (zS)) := zg (zR v1) (if v1 < (gI s 177 1) then (zg (0 ≤ (gI s 177 46) ∧ (gI s 177 46) < 128) (zo (f_210 (gJ s 198 (gI s 177 46)) (0#64) (v1 * (gI s 177 1)) (gI s 177 1)) (fun r5 => if r5 = (0#64) then (zg (0 ≤ ((gI s 177 46) - 1) ∧ ((gI s 177 46) - 1) < 128) (zo (f_210 (gJ s 198 ((gI s 177 46) - 1)) (0#64) (v1 * (gI s 177 1)) (gI s 177 1)) (fun r9 => zb (f_212 (v1 * (gI s 177 1)) r9 s) (fun r11 s12 => some (.inl ((v1 + 1), s12)))))) else (zb (f_212 (v1 * (gI s 177 1)) r5 s) (fun r14 s15 => some (.inl ((v1 + 1), s15))))))) else (some (.inr s)))
theorem wb_213_2 {k : zK} {d : Nat} {x : am_H} {r : am_A × am_H} {v1 : Int} {s : zS} {q : (Int × zS) ⊕ (zS)} (hd : 1 ≤ d) (h : b_213_2 v1 s = some q) (hK : Sum.elim (G_213_2 k d x r) (K_213_2 k d x r) q) : G_213_2 k d x r (v1, s) := by
  unfold b_213_2 at h
  have hM := xM_213 k.1
  show zgo k d 213 (2, [(0, .ref 177), (1, .int (Int32.ofInt v1))], []) (hp s ++ x) r
  refine g_iload_n 3 hM rfl rfl rfl ?_
  refine g_aload_n 4 hM rfl rfl rfl ?_
  refine g_getI 7 1 (gI s 177 1) hM rfl rfl rfl rfl rfl rfl rfl ?_
  obtain ⟨hg1, h⟩ := zg_some h
  by_cases hc2 : v1 < (gI s 177 1)
  · rw [if_pos hc2] at h
    refine g_ic_ge_f 10 85 hM rfl rfl rfl hg1 (zR_gI _ _ _) hc2 ?_
    refine g_aload_n 11 hM rfl rfl rfl ?_
    refine g_getF 14 hM rfl rfl rfl rfl rfl ?_
    refine g_aload_n 15 hM rfl rfl rfl ?_
    refine g_getI 18 46 (gI s 177 46) hM rfl rfl rfl rfl rfl rfl rfl ?_
    obtain ⟨hg3, h⟩ := zg_some h
    refine g_laload 19 (gJ s 198 (gI s 177 46)) hM rfl rfl rfl rfl hg3 rfl ?_
    refine g_lconst 20 (0#64) hM rfl rfl rfl ?_
    refine g_iload_n 21 hM rfl rfl rfl ?_
    refine g_aload_n 22 hM rfl rfl rfl ?_
    refine g_getI 25 1 (gI s 177 1) hM rfl rfl rfl rfl rfl rfl rfl ?_
    refine g_imul 26 hM rfl rfl ?_
    refine g_aload_n 27 hM rfl rfl rfl ?_
    refine g_getI 30 1 (gI s 177 1) hM rfl rfl rfl rfl rfl rfl rfl ?_
    obtain ⟨r5, h4, h⟩ := zo_some h
    refine g_call 33 _ [.long (Int64.ofBitVec r5)] hM rfl rfl rfl rfl rfl (xM_210 _) rfl rfl rfl rfl (by omega) (w_210 (by omega) h4) rfl ?_
    refine g_lstore_n 34 hM rfl rfl rfl ?_
    refine g_aload_n 35 hM rfl rfl rfl ?_
    refine g_iload_n 36 hM rfl rfl rfl ?_
    refine g_aload_n 37 hM rfl rfl rfl ?_
    refine g_getI 40 1 (gI s 177 1) hM rfl rfl rfl rfl rfl rfl rfl ?_
    refine g_imul 41 hM rfl rfl ?_
    refine g_lload_n 42 hM rfl rfl rfl ?_
    refine g_lconst 43 (0#64) hM rfl rfl rfl ?_
    by_cases hc6 : r5 = (0#64)
    · rw [if_pos hc6] at h
      refine g_lc_eq_t 44 51 hM rfl rfl rfl rfl hc6 ?_
      refine g_aload_n 52 hM rfl rfl rfl ?_
      refine g_getF 55 hM rfl rfl rfl rfl rfl ?_
      refine g_aload_n 56 hM rfl rfl rfl ?_
      refine g_getI 59 46 (gI s 177 46) hM rfl rfl rfl rfl rfl rfl rfl ?_
      refine g_iconst 60 hM rfl rfl ?_
      refine g_isub 61 hM rfl rfl ?_
      obtain ⟨hg7, h⟩ := zg_some h
      refine g_laload 62 (gJ s 198 ((gI s 177 46) - 1)) hM rfl rfl rfl rfl hg7 rfl ?_
      refine g_lconst 63 (0#64) hM rfl rfl rfl ?_
      refine g_iload_n 64 hM rfl rfl rfl ?_
      refine g_aload_n 65 hM rfl rfl rfl ?_
      refine g_getI 68 1 (gI s 177 1) hM rfl rfl rfl rfl rfl rfl rfl ?_
      refine g_imul 69 hM rfl rfl ?_
      refine g_aload_n 70 hM rfl rfl rfl ?_
      refine g_getI 73 1 (gI s 177 1) hM rfl rfl rfl rfl rfl rfl rfl ?_
      obtain ⟨r9, h8, h⟩ := zo_some h
      refine g_call 76 _ [.long (Int64.ofBitVec r9), .int (Int32.ofInt (v1 * (gI s 177 1))), .ref 177] hM rfl rfl rfl rfl rfl (xM_210 _) rfl rfl rfl rfl (by omega) (w_210 (by omega) h8) rfl ?_
      obtain ⟨r11, s12, h10, h⟩ := zb_some h
      refine g_call 79 _ [] hM rfl rfl rfl rfl rfl (xM_212 _) rfl (z_rcv2 rfl) rfl rfl (by omega) (w_212 (by omega) h10) rfl ?_
      refine g_iinc 82 hM rfl rfl rfl rfl ?_
      refine g_goto 2 hM rfl rfl ?_
      cases h
      exact g_lv [(0, .ref 177), (1, .int (Int32.ofInt (v1 + 1)))] rfl ⟨rfl, rfl, trivial⟩ hK
    · rw [if_neg hc6] at h
      refine g_lc_eq_f 44 47 51 hM rfl rfl rfl rfl rfl hc6 ?_
      refine g_lload_n 48 hM rfl rfl rfl ?_
      refine g_goto 76 hM rfl rfl ?_
      obtain ⟨r14, s15, h13, h⟩ := zb_some h
      refine g_call 79 _ [] hM rfl rfl rfl rfl rfl (xM_212 _) rfl (z_rcv2 rfl) rfl rfl (by omega) (w_212 (by omega) h13) rfl ?_
      refine g_iinc 82 hM rfl rfl rfl rfl ?_
      refine g_goto 2 hM rfl rfl ?_
      cases h
      exact g_lv [(0, .ref 177), (1, .int (Int32.ofInt (v1 + 1)))] rfl ⟨rfl, rfl, trivial⟩ hK
  · rw [if_neg hc2] at h
    refine g_ic_ge_t 85 hM rfl rfl hg1 (zR_gI _ _ _) hc2 ?_
    cases h
    exact g_lv [] rfl trivial hK
theorem wl_213_2 {k : zK} {d : Nat} {x : am_H} {r : am_A × am_H} {n : Nat} {e : (Int × zS)} {t : (zS)} (hd : 1 ≤ d) (h : zlp (fun (q : Int × zS) => b_213_2 q.1 q.2) n e = some t) (hK : K_213_2 k d x r t) : G_213_2 k d x r e := zlp_go (G := fun e => G_213_2 k d x r e) (K := K_213_2 k d x r) (fun e e1 h1 hg => wb_213_2 (q := .inl e1) hd h1 hg) (fun e t1 h1 hk => wb_213_2 (q := .inr t1) hd h1 hk) n e t h hK
/-- RelationFinderModel.override()V -/
def f_213 (s : zS) : Option (Unit × zS) := zo (zlp (fun (q : Int × zS) => b_213_2 q.1 q.2) zF (0, s)) (fun e1 => some ((), e1))
theorem w_213 {k : zK} {d : Nat} {x : am_H} {s : zS} {q : (Unit × zS)} (hd : 1 ≤ d) (h : f_213 s = some q) : zgo k d 213 (0, [(0, .ref 177)], []) (hp s ++ x) (.inl (none), hp q.2 ++ x) := by
  unfold f_213 at h
  have hM := xM_213 k.1
  refine g_iconst 1 hM rfl rfl ?_
  refine g_istore_n 2 hM rfl rfl rfl ?_
  obtain ⟨e1, h2, h⟩ := zo_some h
  refine g_lv [(0, .ref 177), (1, .int (Int32.ofInt 0))] rfl ⟨rfl, rfl, trivial⟩ ?_
  refine wl_213_2 (by omega) h2 ?_
  show zgo k d 213 (85, [], []) (hp e1 ++ x) (.inl (none), hp q.2 ++ x)
  cases h
  exact g_ret hM rfl rfl
def G_214_10 (k : zK) (d : Nat) (x : am_H) (r : am_A × am_H) (v2 : Int) (e : (Int × zS)) : Prop := zgo k d 214 (10, [(0, .ref 177), (2, .int (Int32.ofInt v2)), (3, .int (Int32.ofInt e.1))], []) (hp e.2 ++ x) r
def K_214_10 (k : zK) (d : Nat) (x : am_H) (r : am_A × am_H) (v2 : Int) (t : (zS)) : Prop := zgo k d 214 (75, [], []) (hp t ++ x) r
def b_214_10 (v2 : Int) (v3 : Int) (s : zS) : Option ((Int × zS) ⊕ (zS)) := zg (zR v3) (if v3 < (gI s 177 1) then (zg (0 ≤ ((gI s 177 46) - 1) ∧ ((gI s 177 46) - 1) < 128) (zo (f_211 (gJ s 198 ((gI s 177 46) - 1)) (0#64) v3) (fun r5 => zg (zR r5) (if r5 = 0 then (some (.inl ((v3 + 1), s))) else (zg (0 ≤ (gI s 177 46) ∧ (gI s 177 46) < 128) (zo (f_210 (gJ s 198 (gI s 177 46)) (gJ s 199 (gI s 177 46)) (v3 * v2) v2) (fun r10 => zb (f_212 (v3 * v2) r10 s) (fun r12 s13 => some (.inl ((v3 + 1), s13)))))))))) else (some (.inr s)))
theorem wb_214_10 {k : zK} {d : Nat} {x : am_H} {r : am_A × am_H} {v2 : Int} {v3 : Int} {s : zS} {q : (Int × zS) ⊕ (zS)} (hd : 1 ≤ d) (h : b_214_10 v2 v3 s = some q) (hK : Sum.elim (G_214_10 k d x r v2) (K_214_10 k d x r v2) q) : G_214_10 k d x r v2 (v3, s) := by
  unfold b_214_10 at h
  have hM := xM_214 k.1
  show zgo k d 214 (10, [(0, .ref 177), (2, .int (Int32.ofInt v2)), (3, .int (Int32.ofInt v3))], []) (hp s ++ x) r
  refine g_iload_n 11 hM rfl rfl rfl ?_
  refine g_aload_n 12 hM rfl rfl rfl ?_
  refine g_getI 15 1 (gI s 177 1) hM rfl rfl rfl rfl rfl rfl rfl ?_
  obtain ⟨hg1, h⟩ := zg_some h
  by_cases hc2 : v3 < (gI s 177 1)
  · rw [if_pos hc2] at h
    refine g_ic_ge_f 18 75 hM rfl rfl rfl hg1 (zR_gI _ _ _) hc2 ?_
    refine g_aload_n 19 hM rfl rfl rfl ?_
    refine g_getF 22 hM rfl rfl rfl rfl rfl ?_
    refine g_aload_n 23 hM rfl rfl rfl ?_
    refine g_getI 26 46 (gI s 177 46) hM rfl rfl rfl rfl rfl rfl rfl ?_
    refine g_iconst 27 hM rfl rfl ?_
    refine g_isub 28 hM rfl rfl ?_
    obtain ⟨hg3, h⟩ := zg_some h
    refine g_laload 29 (gJ s 198 ((gI s 177 46) - 1)) hM rfl rfl rfl rfl hg3 rfl ?_
    refine g_lconst 30 (0#64) hM rfl rfl rfl ?_
    refine g_iload_n 31 hM rfl rfl rfl ?_
    obtain ⟨r5, h4, h⟩ := zo_some h
    refine g_call 34 _ [.int (Int32.ofInt r5)] hM rfl rfl rfl rfl rfl (xM_211 _) rfl rfl rfl rfl (by omega) (w_211 (by omega) h4) rfl ?_
    obtain ⟨hg6, h⟩ := zg_some h
    by_cases hc7 : r5 = 0
    · rw [if_pos hc7] at h
      refine g_if_eq_t 69 hM rfl rfl hg6 hc7 ?_
      refine g_iinc 72 hM rfl rfl rfl rfl ?_
      refine g_goto 10 hM rfl rfl ?_
      cases h
      exact g_lv [(0, .ref 177), (2, .int (Int32.ofInt v2)), (3, .int (Int32.ofInt (v3 + 1)))] rfl ⟨rfl, rfl, rfl, trivial⟩ hK
    · rw [if_neg hc7] at h
      refine g_if_eq_f 37 69 hM rfl rfl rfl hg6 hc7 ?_
      refine g_aload_n 38 hM rfl rfl rfl ?_
      refine g_iload_n 39 hM rfl rfl rfl ?_
      refine g_iload_n 40 hM rfl rfl rfl ?_
      refine g_imul 41 hM rfl rfl ?_
      refine g_aload_n 42 hM rfl rfl rfl ?_
      refine g_getF 45 hM rfl rfl rfl rfl rfl ?_
      refine g_aload_n 46 hM rfl rfl rfl ?_
      refine g_getI 49 46 (gI s 177 46) hM rfl rfl rfl rfl rfl rfl rfl ?_
      obtain ⟨hg8, h⟩ := zg_some h
      refine g_laload 50 (gJ s 198 (gI s 177 46)) hM rfl rfl rfl rfl hg8 rfl ?_
      refine g_aload_n 51 hM rfl rfl rfl ?_
      refine g_getF 54 hM rfl rfl rfl rfl rfl ?_
      refine g_aload_n 55 hM rfl rfl rfl ?_
      refine g_getI 58 46 (gI s 177 46) hM rfl rfl rfl rfl rfl rfl rfl ?_
      refine g_laload 59 (gJ s 199 (gI s 177 46)) hM rfl rfl rfl rfl hg8 rfl ?_
      refine g_iload_n 60 hM rfl rfl rfl ?_
      refine g_iload_n 61 hM rfl rfl rfl ?_
      refine g_imul 62 hM rfl rfl ?_
      refine g_iload_n 63 hM rfl rfl rfl ?_
      obtain ⟨r10, h9, h⟩ := zo_some h
      refine g_call 66 _ [.long (Int64.ofBitVec r10), .int (Int32.ofInt (v3 * v2)), .ref 177] hM rfl rfl rfl rfl rfl (xM_210 _) rfl rfl rfl rfl (by omega) (w_210 (by omega) h9) rfl ?_
      obtain ⟨r12, s13, h11, h⟩ := zb_some h
      refine g_call 69 _ [] hM rfl rfl rfl rfl rfl (xM_212 _) rfl (z_rcv2 rfl) rfl rfl (by omega) (w_212 (by omega) h11) rfl ?_
      refine g_iinc 72 hM rfl rfl rfl rfl ?_
      refine g_goto 10 hM rfl rfl ?_
      cases h
      exact g_lv [(0, .ref 177), (2, .int (Int32.ofInt v2)), (3, .int (Int32.ofInt (v3 + 1)))] rfl ⟨rfl, rfl, rfl, trivial⟩ hK
  · rw [if_neg hc2] at h
    refine g_ic_ge_t 75 hM rfl rfl hg1 (zR_gI _ _ _) hc2 ?_
    cases h
    exact g_lv [] rfl trivial hK
theorem wl_214_10 {k : zK} {d : Nat} {x : am_H} {r : am_A × am_H} {v2 : Int} {n : Nat} {e : (Int × zS)} {t : (zS)} (hd : 1 ≤ d) (h : zlp (fun (q : Int × zS) => b_214_10 v2 q.1 q.2) n e = some t) (hK : K_214_10 k d x r v2 t) : G_214_10 k d x r v2 e := zlp_go (G := fun e => G_214_10 k d x r v2 e) (K := K_214_10 k d x r v2) (fun e e1 h1 hg => wb_214_10 (q := .inl e1) hd h1 hg) (fun e t1 h1 hk => wb_214_10 (q := .inr t1) hd h1 hk) n e t h hK
/-- RelationFinderModel.firsts(I)V -/
def f_214 (v1 : Int) (s : zS) : Option (Unit × zS) := zo (f_153 (v1 - 1) s) (fun r2 => zo (zlp (fun (q : Int × zS) => b_214_10 r2 q.1 q.2) zF (0, s)) (fun e3 => some ((), e3)))
theorem w_214 {k : zK} {d : Nat} {x : am_H} {v1 : Int} {s : zS} {q : (Unit × zS)} (hd : 1 ≤ d) (h : f_214 v1 s = some q) : zgo k d 214 (0, [(0, .ref 177), (1, .int (Int32.ofInt v1))], []) (hp s ++ x) (.inl (none), hp q.2 ++ x) := by
  unfold f_214 at h
  have hM := xM_214 k.1
  refine g_aload_n 1 hM rfl rfl rfl ?_
  refine g_iload_n 2 hM rfl rfl rfl ?_
  refine g_iconst 3 hM rfl rfl ?_
  refine g_isub 4 hM rfl rfl ?_
  obtain ⟨r2, h1, h⟩ := zo_some h
  refine g_call 7 _ [.int (Int32.ofInt r2)] hM rfl rfl rfl rfl rfl (xM_153 _) rfl (z_rcv2 rfl) rfl rfl (by omega) (w_153 (by omega) h1) rfl ?_
  refine g_istore_n 8 hM rfl rfl rfl ?_
  refine g_iconst 9 hM rfl rfl ?_
  refine g_istore_n 10 hM rfl rfl rfl ?_
  obtain ⟨e3, h4, h⟩ := zo_some h
  refine g_lv [(0, .ref 177), (2, .int (Int32.ofInt r2)), (3, .int (Int32.ofInt 0))] rfl ⟨rfl, rfl, rfl, trivial⟩ ?_
  refine wl_214_10 (by omega) h4 ?_
  show zgo k d 214 (75, [], []) (hp e3 ++ x) (.inl (none), hp q.2 ++ x)
  cases h
  exact g_ret hM rfl rfl
def G_215_2 (k : zK) (d : Nat) (x : am_H) (r : am_A × am_H) (v1 : Int) (e : (Int × zS)) : Prop := zgo k d 215 (2, [(0, .ref 177), (1, .int (Int32.ofInt v1)), (2, .int (Int32.ofInt e.1))], []) (hp e.2 ++ x) r
def K_215_2 (k : zK) (d : Nat) (x : am_H) (r : am_A × am_H) (v1 : Int) (t : (zS)) : Prop := zgo k d 215 (74, [], []) (hp t ++ x) r
def b_215_2 (v1 : Int) (v2 : Int) (s : zS) : Option ((Int × zS) ⊕ (zS)) := zo (f_153 v1 s) (fun r2 => zg (zR v2) (zg (zR r2) (if v2 < r2 then (zg (0 ≤ ((gI s 177 46) - 1) ∧ ((gI s 177 46) - 1) < 128) (zo (f_211 (gJ s 198 ((gI s 177 46) - 1)) (gJ s 199 ((gI s 177 46) - 1)) v2) (fun r8 => zg (zR r8) (if r8 = 0 then (some (.inl ((v2 + 1), s))) else (zg (0 ≤ (gI s 177 46) ∧ (gI s 177 46) < 128) (zg (0 ≤ v2 ∧ zR v2 ∧ 0 < (gI s 177 1) ∧ zR (gI s 177 1)) (zo (f_211 (gJ s 198 (gI s 177 46)) (0#64) (v2 % (gI s 177 1))) (fun r14 => zg (zR r14) (if r14 = 0 then (some (.inl ((v2 + 1), s))) else (zb (f_212 v2 (1#64) s) (fun r18 s19 => some (.inl ((v2 + 1), s19))))))))))))) else (some (.inr s)))))
theorem wb_215_2 {k : zK} {d : Nat} {x : am_H} {r : am_A × am_H} {v1 : Int} {v2 : Int} {s : zS} {q : (Int × zS) ⊕ (zS)} (hd : 1 ≤ d) (h : b_215_2 v1 v2 s = some q) (hK : Sum.elim (G_215_2 k d x r v1) (K_215_2 k d x r v1) q) : G_215_2 k d x r v1 (v2, s) := by
  unfold b_215_2 at h
  have hM := xM_215 k.1
  show zgo k d 215 (2, [(0, .ref 177), (1, .int (Int32.ofInt v1)), (2, .int (Int32.ofInt v2))], []) (hp s ++ x) r
  refine g_iload_n 3 hM rfl rfl rfl ?_
  refine g_aload_n 4 hM rfl rfl rfl ?_
  refine g_iload_n 5 hM rfl rfl rfl ?_
  obtain ⟨r2, h1, h⟩ := zo_some h
  refine g_call 8 _ [.int (Int32.ofInt r2), .int (Int32.ofInt v2)] hM rfl rfl rfl rfl rfl (xM_153 _) rfl (z_rcv2 rfl) rfl rfl (by omega) (w_153 (by omega) h1) rfl ?_
  obtain ⟨hg3, h⟩ := zg_some h
  obtain ⟨hg4, h⟩ := zg_some h
  by_cases hc5 : v2 < r2
  · rw [if_pos hc5] at h
    refine g_ic_ge_f 11 74 hM rfl rfl rfl hg3 hg4 hc5 ?_
    refine g_aload_n 12 hM rfl rfl rfl ?_
    refine g_getF 15 hM rfl rfl rfl rfl rfl ?_
    refine g_aload_n 16 hM rfl rfl rfl ?_
    refine g_getI 19 46 (gI s 177 46) hM rfl rfl rfl rfl rfl rfl rfl ?_
    refine g_iconst 20 hM rfl rfl ?_
    refine g_isub 21 hM rfl rfl ?_
    obtain ⟨hg6, h⟩ := zg_some h
    refine g_laload 22 (gJ s 198 ((gI s 177 46) - 1)) hM rfl rfl rfl rfl hg6 rfl ?_
    refine g_aload_n 23 hM rfl rfl rfl ?_
    refine g_getF 26 hM rfl rfl rfl rfl rfl ?_
    refine g_aload_n 27 hM rfl rfl rfl ?_
    refine g_getI 30 46 (gI s 177 46) hM rfl rfl rfl rfl rfl rfl rfl ?_
    refine g_iconst 31 hM rfl rfl ?_
    refine g_isub 32 hM rfl rfl ?_
    refine g_laload 33 (gJ s 199 ((gI s 177 46) - 1)) hM rfl rfl rfl rfl hg6 rfl ?_
    refine g_iload_n 34 hM rfl rfl rfl ?_
    obtain ⟨r8, h7, h⟩ := zo_some h
    refine g_call 37 _ [.int (Int32.ofInt r8)] hM rfl rfl rfl rfl rfl (xM_211 _) rfl rfl rfl rfl (by omega) (w_211 (by omega) h7) rfl ?_
    obtain ⟨hg9, h⟩ := zg_some h
    by_cases hc10 : r8 = 0
    · rw [if_pos hc10] at h
      refine g_if_eq_t 68 hM rfl rfl hg9 hc10 ?_
      refine g_iinc 71 hM rfl rfl rfl rfl ?_
      refine g_goto 2 hM rfl rfl ?_
      cases h
      exact g_lv [(0, .ref 177), (1, .int (Int32.ofInt v1)), (2, .int (Int32.ofInt (v2 + 1)))] rfl ⟨rfl, rfl, rfl, trivial⟩ hK
    · rw [if_neg hc10] at h
      refine g_if_eq_f 40 68 hM rfl rfl rfl hg9 hc10 ?_
      refine g_aload_n 41 hM rfl rfl rfl ?_
      refine g_getF 44 hM rfl rfl rfl rfl rfl ?_
      refine g_aload_n 45 hM rfl rfl rfl ?_
      refine g_getI 48 46 (gI s 177 46) hM rfl rfl rfl rfl rfl rfl rfl ?_
      obtain ⟨hg11, h⟩ := zg_some h
      refine g_laload 49 (gJ s 198 (gI s 177 46)) hM rfl rfl rfl rfl hg11 rfl ?_
      refine g_lconst 50 (0#64) hM rfl rfl rfl ?_
      refine g_iload_n 51 hM rfl rfl rfl ?_
      refine g_aload_n 52 hM rfl rfl rfl ?_
      refine g_getI 55 1 (gI s 177 1) hM rfl rfl rfl rfl rfl rfl rfl ?_
      obtain ⟨hg12, h⟩ := zg_some h
      refine g_irem 56 hM rfl rfl hg12 ?_
      obtain ⟨r14, h13, h⟩ := zo_some h
      refine g_call 59 _ [.int (Int32.ofInt r14)] hM rfl rfl rfl rfl rfl (xM_211 _) rfl rfl rfl rfl (by omega) (w_211 (by omega) h13) rfl ?_
      obtain ⟨hg15, h⟩ := zg_some h
      by_cases hc16 : r14 = 0
      · rw [if_pos hc16] at h
        refine g_if_eq_t 68 hM rfl rfl hg15 hc16 ?_
        refine g_iinc 71 hM rfl rfl rfl rfl ?_
        refine g_goto 2 hM rfl rfl ?_
        cases h
        exact g_lv [(0, .ref 177), (1, .int (Int32.ofInt v1)), (2, .int (Int32.ofInt (v2 + 1)))] rfl ⟨rfl, rfl, rfl, trivial⟩ hK
      · rw [if_neg hc16] at h
        refine g_if_eq_f 62 68 hM rfl rfl rfl hg15 hc16 ?_
        refine g_aload_n 63 hM rfl rfl rfl ?_
        refine g_iload_n 64 hM rfl rfl rfl ?_
        refine g_lconst 65 (1#64) hM rfl rfl rfl ?_
        obtain ⟨r18, s19, h17, h⟩ := zb_some h
        refine g_call 68 _ [] hM rfl rfl rfl rfl rfl (xM_212 _) rfl (z_rcv2 rfl) rfl rfl (by omega) (w_212 (by omega) h17) rfl ?_
        refine g_iinc 71 hM rfl rfl rfl rfl ?_
        refine g_goto 2 hM rfl rfl ?_
        cases h
        exact g_lv [(0, .ref 177), (1, .int (Int32.ofInt v1)), (2, .int (Int32.ofInt (v2 + 1)))] rfl ⟨rfl, rfl, rfl, trivial⟩ hK
  · rw [if_neg hc5] at h
    refine g_ic_ge_t 74 hM rfl rfl hg3 hg4 hc5 ?_
    cases h
    exact g_lv [] rfl trivial hK
theorem wl_215_2 {k : zK} {d : Nat} {x : am_H} {r : am_A × am_H} {v1 : Int} {n : Nat} {e : (Int × zS)} {t : (zS)} (hd : 1 ≤ d) (h : zlp (fun (q : Int × zS) => b_215_2 v1 q.1 q.2) n e = some t) (hK : K_215_2 k d x r v1 t) : G_215_2 k d x r v1 e := zlp_go (G := fun e => G_215_2 k d x r v1 e) (K := K_215_2 k d x r v1) (fun e e1 h1 hg => wb_215_2 (q := .inl e1) hd h1 hg) (fun e t1 h1 hk => wb_215_2 (q := .inr t1) hd h1 hk) n e t h hK
/-- RelationFinderModel.lasts(I)V -/
def f_215 (v1 : Int) (s : zS) : Option (Unit × zS) := zo (zlp (fun (q : Int × zS) => b_215_2 v1 q.1 q.2) zF (0, s)) (fun e1 => some ((), e1))
theorem w_215 {k : zK} {d : Nat} {x : am_H} {v1 : Int} {s : zS} {q : (Unit × zS)} (hd : 1 ≤ d) (h : f_215 v1 s = some q) : zgo k d 215 (0, [(0, .ref 177), (1, .int (Int32.ofInt v1))], []) (hp s ++ x) (.inl (none), hp q.2 ++ x) := by
  unfold f_215 at h
  have hM := xM_215 k.1
  refine g_iconst 1 hM rfl rfl ?_
  refine g_istore_n 2 hM rfl rfl rfl ?_
  obtain ⟨e1, h2, h⟩ := zo_some h
  refine g_lv [(0, .ref 177), (1, .int (Int32.ofInt v1)), (2, .int (Int32.ofInt 0))] rfl ⟨rfl, rfl, rfl, trivial⟩ ?_
  refine wl_215_2 (by omega) h2 ?_
  show zgo k d 215 (74, [], []) (hp e1 ++ x) (.inl (none), hp q.2 ++ x)
  cases h
  exact g_ret hM rfl rfl
def G_216_11 (k : zK) (d : Nat) (x : am_H) (r : am_A × am_H) (v1 : Int) (v3 : Int) (e : (Int × zS)) : Prop := zgo k d 216 (11, [(0, .ref 177), (1, .int (Int32.ofInt v1)), (3, .int (Int32.ofInt v3)), (4, .int (Int32.ofInt e.1))], []) (hp e.2 ++ x) r
def K_216_11 (k : zK) (d : Nat) (x : am_H) (r : am_A × am_H) (v1 : Int) (v3 : Int) (t : (zS)) : Prop := zgo k d 216 (101, [], []) (hp t ++ x) r
def b_216_11 (v1 : Int) (v3 : Int) (v4 : Int) (s : zS) : Option ((Int × zS) ⊕ (zS)) := zo (f_153 v1 s) (fun r2 => zg (zR v4) (zg (zR r2) (if v4 < r2 then (zg (0 ≤ ((gI s 177 46) - 1) ∧ ((gI s 177 46) - 1) < 128) (zo (f_211 (gJ s 198 ((gI s 177 46) - 1)) (gJ s 199 ((gI s 177 46) - 1)) v4) (fun r8 => zg (zR r8) (if r8 = 0 then (some (.inl ((v4 + 1), s))) else (zg (0 ≤ v4 ∧ zR v4 ∧ 0 < (gI s 177 1) ∧ zR (gI s 177 1)) (zg (0 ≤ (gI s 177 46) ∧ (gI s 177 46) < 128) (zo (f_210 (gJ s 198 (gI s 177 46)) (gJ s 199 (gI s 177 46)) ((v4 % (gI s 177 1)) * v3) v3) (fun r14 => zb (f_212 ((v4 / (gI s 177 1)) * v3) r14 s) (fun r16 s17 => some (.inl ((v4 + 1), s17))))))))))) else (some (.inr s)))))
theorem wb_216_11 {k : zK} {d : Nat} {x : am_H} {r : am_A × am_H} {v1 : Int} {v3 : Int} {v4 : Int} {s : zS} {q : (Int × zS) ⊕ (zS)} (hd : 1 ≤ d) (h : b_216_11 v1 v3 v4 s = some q) (hK : Sum.elim (G_216_11 k d x r v1 v3) (K_216_11 k d x r v1 v3) q) : G_216_11 k d x r v1 v3 (v4, s) := by
  unfold b_216_11 at h
  have hM := xM_216 k.1
  show zgo k d 216 (11, [(0, .ref 177), (1, .int (Int32.ofInt v1)), (3, .int (Int32.ofInt v3)), (4, .int (Int32.ofInt v4))], []) (hp s ++ x) r
  refine g_iload 13 hM rfl rfl rfl ?_
  refine g_aload_n 14 hM rfl rfl rfl ?_
  refine g_iload_n 15 hM rfl rfl rfl ?_
  obtain ⟨r2, h1, h⟩ := zo_some h
  refine g_call 18 _ [.int (Int32.ofInt r2), .int (Int32.ofInt v4)] hM rfl rfl rfl rfl rfl (xM_153 _) rfl (z_rcv2 rfl) rfl rfl (by omega) (w_153 (by omega) h1) rfl ?_
  obtain ⟨hg3, h⟩ := zg_some h
  obtain ⟨hg4, h⟩ := zg_some h
  by_cases hc5 : v4 < r2
  · rw [if_pos hc5] at h
    refine g_ic_ge_f 21 101 hM rfl rfl rfl hg3 hg4 hc5 ?_
    refine g_aload_n 22 hM rfl rfl rfl ?_
    refine g_getF 25 hM rfl rfl rfl rfl rfl ?_
    refine g_aload_n 26 hM rfl rfl rfl ?_
    refine g_getI 29 46 (gI s 177 46) hM rfl rfl rfl rfl rfl rfl rfl ?_
    refine g_iconst 30 hM rfl rfl ?_
    refine g_isub 31 hM rfl rfl ?_
    obtain ⟨hg6, h⟩ := zg_some h
    refine g_laload 32 (gJ s 198 ((gI s 177 46) - 1)) hM rfl rfl rfl rfl hg6 rfl ?_
    refine g_aload_n 33 hM rfl rfl rfl ?_
    refine g_getF 36 hM rfl rfl rfl rfl rfl ?_
    refine g_aload_n 37 hM rfl rfl rfl ?_
    refine g_getI 40 46 (gI s 177 46) hM rfl rfl rfl rfl rfl rfl rfl ?_
    refine g_iconst 41 hM rfl rfl ?_
    refine g_isub 42 hM rfl rfl ?_
    refine g_laload 43 (gJ s 199 ((gI s 177 46) - 1)) hM rfl rfl rfl rfl hg6 rfl ?_
    refine g_iload 45 hM rfl rfl rfl ?_
    obtain ⟨r8, h7, h⟩ := zo_some h
    refine g_call 48 _ [.int (Int32.ofInt r8)] hM rfl rfl rfl rfl rfl (xM_211 _) rfl rfl rfl rfl (by omega) (w_211 (by omega) h7) rfl ?_
    obtain ⟨hg9, h⟩ := zg_some h
    by_cases hc10 : r8 = 0
    · rw [if_pos hc10] at h
      refine g_if_eq_t 95 hM rfl rfl hg9 hc10 ?_
      refine g_iinc 98 hM rfl rfl rfl rfl ?_
      refine g_goto 11 hM rfl rfl ?_
      cases h
      exact g_lv [(0, .ref 177), (1, .int (Int32.ofInt v1)), (3, .int (Int32.ofInt v3)), (4, .int (Int32.ofInt (v4 + 1)))] rfl ⟨rfl, rfl, rfl, rfl, trivial⟩ hK
    · rw [if_neg hc10] at h
      refine g_if_eq_f 51 95 hM rfl rfl rfl hg9 hc10 ?_
      refine g_aload_n 52 hM rfl rfl rfl ?_
      refine g_iload 54 hM rfl rfl rfl ?_
      refine g_aload_n 55 hM rfl rfl rfl ?_
      refine g_getI 58 1 (gI s 177 1) hM rfl rfl rfl rfl rfl rfl rfl ?_
      obtain ⟨hg11, h⟩ := zg_some h
      refine g_idiv 59 hM rfl rfl hg11 ?_
      refine g_iload_n 60 hM rfl rfl rfl ?_
      refine g_imul 61 hM rfl rfl ?_
      refine g_aload_n 62 hM rfl rfl rfl ?_
      refine g_getF 65 hM rfl rfl rfl rfl rfl ?_
      refine g_aload_n 66 hM rfl rfl rfl ?_
      refine g_getI 69 46 (gI s 177 46) hM rfl rfl rfl rfl rfl rfl rfl ?_
      obtain ⟨hg12, h⟩ := zg_some h
      refine g_laload 70 (gJ s 198 (gI s 177 46)) hM rfl rfl rfl rfl hg12 rfl ?_
      refine g_aload_n 71 hM rfl rfl rfl ?_
      refine g_getF 74 hM rfl rfl rfl rfl rfl ?_
      refine g_aload_n 75 hM rfl rfl rfl ?_
      refine g_getI 78 46 (gI s 177 46) hM rfl rfl rfl rfl rfl rfl rfl ?_
      refine g_laload 79 (gJ s 199 (gI s 177 46)) hM rfl rfl rfl rfl hg12 rfl ?_
      refine g_iload 81 hM rfl rfl rfl ?_
      refine g_aload_n 82 hM rfl rfl rfl ?_
      refine g_getI 85 1 (gI s 177 1) hM rfl rfl rfl rfl rfl rfl rfl ?_
      refine g_irem 86 hM rfl rfl hg11 ?_
      refine g_iload_n 87 hM rfl rfl rfl ?_
      refine g_imul 88 hM rfl rfl ?_
      refine g_iload_n 89 hM rfl rfl rfl ?_
      obtain ⟨r14, h13, h⟩ := zo_some h
      refine g_call 92 _ [.long (Int64.ofBitVec r14), .int (Int32.ofInt ((v4 / (gI s 177 1)) * v3)), .ref 177] hM rfl rfl rfl rfl rfl (xM_210 _) rfl rfl rfl rfl (by omega) (w_210 (by omega) h13) rfl ?_
      obtain ⟨r16, s17, h15, h⟩ := zb_some h
      refine g_call 95 _ [] hM rfl rfl rfl rfl rfl (xM_212 _) rfl (z_rcv2 rfl) rfl rfl (by omega) (w_212 (by omega) h15) rfl ?_
      refine g_iinc 98 hM rfl rfl rfl rfl ?_
      refine g_goto 11 hM rfl rfl ?_
      cases h
      exact g_lv [(0, .ref 177), (1, .int (Int32.ofInt v1)), (3, .int (Int32.ofInt v3)), (4, .int (Int32.ofInt (v4 + 1)))] rfl ⟨rfl, rfl, rfl, rfl, trivial⟩ hK
  · rw [if_neg hc5] at h
    refine g_ic_ge_t 101 hM rfl rfl hg3 hg4 hc5 ?_
    cases h
    exact g_lv [] rfl trivial hK
theorem wl_216_11 {k : zK} {d : Nat} {x : am_H} {r : am_A × am_H} {v1 : Int} {v3 : Int} {n : Nat} {e : (Int × zS)} {t : (zS)} (hd : 1 ≤ d) (h : zlp (fun (q : Int × zS) => b_216_11 v1 v3 q.1 q.2) n e = some t) (hK : K_216_11 k d x r v1 v3 t) : G_216_11 k d x r v1 v3 e := zlp_go (G := fun e => G_216_11 k d x r v1 v3 e) (K := K_216_11 k d x r v1 v3) (fun e e1 h1 hg => wb_216_11 (q := .inl e1) hd h1 hg) (fun e t1 h1 hk => wb_216_11 (q := .inr t1) hd h1 hk) n e t h hK
/-- RelationFinderModel.dot(II)V -/
def f_216 (v1 : Int) (v2 : Int) (s : zS) : Option (Unit × zS) := zo (f_153 (v2 - 1) s) (fun r2 => zo (zlp (fun (q : Int × zS) => b_216_11 v1 r2 q.1 q.2) zF (0, s)) (fun e3 => some ((), e3)))
theorem w_216 {k : zK} {d : Nat} {x : am_H} {v1 : Int} {v2 : Int} {s : zS} {q : (Unit × zS)} (hd : 1 ≤ d) (h : f_216 v1 v2 s = some q) : zgo k d 216 (0, [(0, .ref 177), (1, .int (Int32.ofInt v1)), (2, .int (Int32.ofInt v2))], []) (hp s ++ x) (.inl (none), hp q.2 ++ x) := by
  unfold f_216 at h
  have hM := xM_216 k.1
  refine g_aload_n 1 hM rfl rfl rfl ?_
  refine g_iload_n 2 hM rfl rfl rfl ?_
  refine g_iconst 3 hM rfl rfl ?_
  refine g_isub 4 hM rfl rfl ?_
  obtain ⟨r2, h1, h⟩ := zo_some h
  refine g_call 7 _ [.int (Int32.ofInt r2)] hM rfl rfl rfl rfl rfl (xM_153 _) rfl (z_rcv2 rfl) rfl rfl (by omega) (w_153 (by omega) h1) rfl ?_
  refine g_istore_n 8 hM rfl rfl rfl ?_
  refine g_iconst 9 hM rfl rfl ?_
  refine g_istore 11 hM rfl rfl rfl ?_
  obtain ⟨e3, h4, h⟩ := zo_some h
  refine g_lv [(0, .ref 177), (1, .int (Int32.ofInt v1)), (3, .int (Int32.ofInt r2)), (4, .int (Int32.ofInt 0))] rfl ⟨rfl, rfl, rfl, rfl, trivial⟩ ?_
  refine wl_216_11 (by omega) h4 ?_
  show zgo k d 216 (101, [], []) (hp e3 ++ x) (.inl (none), hp q.2 ++ x)
  cases h
  exact g_ret hM rfl rfl
/-- RelationFinderModel.both(III)V -/
def f_208 (v1 : Int) (v2 : Int) (v3 : Int) (s : zS) : Option (Unit × zS) := zg (0 ≤ ((gI (sI s 177 46 ((gI s 177 46) - 1)) 177 46) - 1) ∧ ((gI (sI s 177 46 ((gI s 177 46) - 1)) 177 46) - 1) < 128) (zg (zR v1) (if t_208_47 v1 = 88 then (zg (0 ≤ (gI (sI s 177 46 ((gI s 177 46) - 1)) 177 46) ∧ (gI (sI s 177 46 ((gI s 177 46) - 1)) 177 46) < 128) (j_208_239 (sJ (sJ (sJ (sJ (sI s 177 46 ((gI s 177 46) - 1)) 177 47 (0#64)) 177 48 (0#64)) 177 47 ((gJ s 198 ((gI (sI s 177 46 ((gI s 177 46) - 1)) 177 46) - 1)) ||| (gJ s 198 (gI (sI s 177 46 ((gI s 177 46) - 1)) 177 46)))) 177 48 ((gJ s 199 ((gI (sI s 177 46 ((gI s 177 46) - 1)) 177 46) - 1)) ||| (gJ s 199 (gI (sI s 177 46 ((gI s 177 46) - 1)) 177 46)))))) else (if t_208_47 v1 = 123 then (zg (0 ≤ (gI (sI s 177 46 ((gI s 177 46) - 1)) 177 46) ∧ (gI (sI s 177 46 ((gI s 177 46) - 1)) 177 46) < 128) (j_208_239 (sJ (sJ (sJ (sJ (sI s 177 46 ((gI s 177 46) - 1)) 177 47 (0#64)) 177 48 (0#64)) 177 47 ((gJ s 198 ((gI (sI s 177 46 ((gI s 177 46) - 1)) 177 46) - 1)) &&& ((gJ s 198 (gI (sI s 177 46 ((gI s 177 46) - 1)) 177 46)) ^^^ (18446744073709551615#64)))) 177 48 ((gJ s 199 ((gI (sI s 177 46 ((gI s 177 46) - 1)) 177 46) - 1)) &&& ((gJ s 199 (gI (sI s 177 46 ((gI s 177 46) - 1)) 177 46)) ^^^ (18446744073709551615#64)))))) else (if t_208_47 v1 = 166 then (zg (0 ≤ (gI (sI s 177 46 ((gI s 177 46) - 1)) 177 46) ∧ (gI (sI s 177 46 ((gI s 177 46) - 1)) 177 46) < 128) (j_208_239 (sJ (sJ (sJ (sJ (sI s 177 46 ((gI s 177 46) - 1)) 177 47 (0#64)) 177 48 (0#64)) 177 47 ((gJ s 198 ((gI (sI s 177 46 ((gI s 177 46) - 1)) 177 46) - 1)) &&& (gJ s 198 (gI (sI s 177 46 ((gI s 177 46) - 1)) 177 46)))) 177 48 ((gJ s 199 ((gI (sI s 177 46 ((gI s 177 46) - 1)) 177 46) - 1)) &&& (gJ s 199 (gI (sI s 177 46 ((gI s 177 46) - 1)) 177 46)))))) else (if t_208_47 v1 = 201 then (zb (f_209 v2 v3 (sJ (sJ (sI s 177 46 ((gI s 177 46) - 1)) 177 47 (0#64)) 177 48 (0#64))) (fun r11 s12 => j_208_239 s12)) else (if t_208_47 v1 = 210 then (zb (f_213 (sJ (sJ (sI s 177 46 ((gI s 177 46) - 1)) 177 47 (0#64)) 177 48 (0#64))) (fun r15 s16 => j_208_239 s16)) else (if t_208_47 v1 = 217 then (zb (f_214 v3 (sJ (sJ (sI s 177 46 ((gI s 177 46) - 1)) 177 47 (0#64)) 177 48 (0#64))) (fun r19 s20 => j_208_239 s20)) else (if t_208_47 v1 = 225 then (zb (f_215 v2 (sJ (sJ (sI s 177 46 ((gI s 177 46) - 1)) 177 47 (0#64)) 177 48 (0#64))) (fun r23 s24 => j_208_239 s24)) else (if t_208_47 v1 = 233 then (zb (f_216 v2 v3 (sJ (sJ (sI s 177 46 ((gI s 177 46) - 1)) 177 47 (0#64)) 177 48 (0#64))) (fun r27 s28 => j_208_239 s28)) else (none))))))))))
theorem w_208 {k : zK} {d : Nat} {x : am_H} {v1 : Int} {v2 : Int} {v3 : Int} {s : zS} {q : (Unit × zS)} (hd : 2 ≤ d) (h : f_208 v1 v2 v3 s = some q) : zgo k d 208 (0, [(0, .ref 177), (1, .int (Int32.ofInt v1)), (2, .int (Int32.ofInt v2)), (3, .int (Int32.ofInt v3))], []) (hp s ++ x) (.inl (none), hp q.2 ++ x) := by
  unfold f_208 at h
  have hM := xM_208 k.1
  refine g_aload_n 1 hM rfl rfl rfl ?_
  refine g_dup 2 hM rfl rfl rfl ?_
  refine g_getI 5 46 (gI s 177 46) hM rfl rfl rfl rfl rfl rfl rfl ?_
  refine g_iconst 6 hM rfl rfl ?_
  refine g_isub 7 hM rfl rfl ?_
  refine g_putI 10 46 hM rfl rfl rfl rfl rfl rfl rfl ?_
  refine g_aload_n 11 hM rfl rfl rfl ?_
  refine g_lconst 12 (0#64) hM rfl rfl rfl ?_
  refine g_putJ 15 47 hM rfl rfl rfl rfl rfl rfl rfl ?_
  refine g_aload_n 16 hM rfl rfl rfl ?_
  refine g_lconst 17 (0#64) hM rfl rfl rfl ?_
  refine g_putJ 20 48 hM rfl rfl rfl rfl rfl rfl rfl ?_
  refine g_aload_n 21 hM rfl rfl rfl ?_
  refine g_getF 24 hM rfl rfl rfl rfl rfl ?_
  refine g_aload_n 25 hM rfl rfl rfl ?_
  refine g_getI 28 46 (gI (sI s 177 46 ((gI s 177 46) - 1)) 177 46) hM rfl rfl rfl rfl rfl rfl rfl ?_
  refine g_iconst 29 hM rfl rfl ?_
  refine g_isub 30 hM rfl rfl ?_
  obtain ⟨hg1, h⟩ := zg_some h
  refine g_laload 31 (gJ s 198 ((gI (sI s 177 46 ((gI s 177 46) - 1)) 177 46) - 1)) hM rfl rfl rfl rfl hg1 rfl ?_
  refine g_lstore 33 hM rfl rfl rfl ?_
  refine g_aload_n 34 hM rfl rfl rfl ?_
  refine g_getF 37 hM rfl rfl rfl rfl rfl ?_
  refine g_aload_n 38 hM rfl rfl rfl ?_
  refine g_getI 41 46 (gI (sI s 177 46 ((gI s 177 46) - 1)) 177 46) hM rfl rfl rfl rfl rfl rfl rfl ?_
  refine g_iconst 42 hM rfl rfl ?_
  refine g_isub 43 hM rfl rfl ?_
  refine g_laload 44 (gJ s 199 ((gI (sI s 177 46 ((gI s 177 46) - 1)) 177 46) - 1)) hM rfl rfl rfl rfl hg1 rfl ?_
  refine g_lstore 46 hM rfl rfl rfl ?_
  refine g_iload_n 47 hM rfl rfl rfl ?_
  obtain ⟨hg2, h⟩ := zg_some h
  by_cases hc3 : t_208_47 v1 = 88
  · rw [if_pos hc3] at h
    refine g_tsw 88 hM rfl hg2 hc3 rfl rfl rfl ?_
    refine g_aload_n 89 hM rfl rfl rfl ?_
    refine g_lload 91 hM rfl rfl rfl ?_
    refine g_aload_n 92 hM rfl rfl rfl ?_
    refine g_getF 95 hM rfl rfl rfl rfl rfl ?_
    refine g_aload_n 96 hM rfl rfl rfl ?_
    refine g_getI 99 46 (gI (sI s 177 46 ((gI s 177 46) - 1)) 177 46) hM rfl rfl rfl rfl rfl rfl rfl ?_
    obtain ⟨hg4, h⟩ := zg_some h
    refine g_laload 100 (gJ s 198 (gI (sI s 177 46 ((gI s 177 46) - 1)) 177 46)) hM rfl rfl rfl rfl hg4 rfl ?_
    refine g_lor 101 hM rfl rfl ?_
    refine g_putJ 104 47 hM rfl rfl rfl rfl rfl rfl rfl ?_
    refine g_aload_n 105 hM rfl rfl rfl ?_
    refine g_lload 107 hM rfl rfl rfl ?_
    refine g_aload_n 108 hM rfl rfl rfl ?_
    refine g_getF 111 hM rfl rfl rfl rfl rfl ?_
    refine g_aload_n 112 hM rfl rfl rfl ?_
    refine g_getI 115 46 (gI (sI s 177 46 ((gI s 177 46) - 1)) 177 46) hM rfl rfl rfl rfl rfl rfl rfl ?_
    refine g_laload 116 (gJ s 199 (gI (sI s 177 46 ((gI s 177 46) - 1)) 177 46)) hM rfl rfl rfl rfl hg4 rfl ?_
    refine g_lor 117 hM rfl rfl ?_
    refine g_putJ 120 48 hM rfl rfl rfl rfl rfl rfl rfl ?_
    refine g_goto 239 hM rfl rfl ?_
    refine g_lv [(0, .ref 177)] rfl ⟨rfl, trivial⟩ ?_
    exact wj_208_239 (by omega) h
  · rw [if_neg hc3] at h
    by_cases hc5 : t_208_47 v1 = 123
    · rw [if_pos hc5] at h
      refine g_tsw 123 hM rfl hg2 hc5 rfl rfl rfl ?_
      refine g_aload_n 124 hM rfl rfl rfl ?_
      refine g_lload 126 hM rfl rfl rfl ?_
      refine g_aload_n 127 hM rfl rfl rfl ?_
      refine g_getF 130 hM rfl rfl rfl rfl rfl ?_
      refine g_aload_n 131 hM rfl rfl rfl ?_
      refine g_getI 134 46 (gI (sI s 177 46 ((gI s 177 46) - 1)) 177 46) hM rfl rfl rfl rfl rfl rfl rfl ?_
      obtain ⟨hg6, h⟩ := zg_some h
      refine g_laload 135 (gJ s 198 (gI (sI s 177 46 ((gI s 177 46) - 1)) 177 46)) hM rfl rfl rfl rfl hg6 rfl ?_
      refine g_ldc2 138 (18446744073709551615#64) hM rfl rfl rfl (by decide) ?_
      refine g_lxor 139 hM rfl rfl ?_
      refine g_land 140 hM rfl rfl ?_
      refine g_putJ 143 47 hM rfl rfl rfl rfl rfl rfl rfl ?_
      refine g_aload_n 144 hM rfl rfl rfl ?_
      refine g_lload 146 hM rfl rfl rfl ?_
      refine g_aload_n 147 hM rfl rfl rfl ?_
      refine g_getF 150 hM rfl rfl rfl rfl rfl ?_
      refine g_aload_n 151 hM rfl rfl rfl ?_
      refine g_getI 154 46 (gI (sI s 177 46 ((gI s 177 46) - 1)) 177 46) hM rfl rfl rfl rfl rfl rfl rfl ?_
      refine g_laload 155 (gJ s 199 (gI (sI s 177 46 ((gI s 177 46) - 1)) 177 46)) hM rfl rfl rfl rfl hg6 rfl ?_
      refine g_ldc2 158 (18446744073709551615#64) hM rfl rfl rfl (by decide) ?_
      refine g_lxor 159 hM rfl rfl ?_
      refine g_land 160 hM rfl rfl ?_
      refine g_putJ 163 48 hM rfl rfl rfl rfl rfl rfl rfl ?_
      refine g_goto 239 hM rfl rfl ?_
      refine g_lv [(0, .ref 177)] rfl ⟨rfl, trivial⟩ ?_
      exact wj_208_239 (by omega) h
    · rw [if_neg hc5] at h
      by_cases hc7 : t_208_47 v1 = 166
      · rw [if_pos hc7] at h
        refine g_tsw 166 hM rfl hg2 hc7 rfl rfl rfl ?_
        refine g_aload_n 167 hM rfl rfl rfl ?_
        refine g_lload 169 hM rfl rfl rfl ?_
        refine g_aload_n 170 hM rfl rfl rfl ?_
        refine g_getF 173 hM rfl rfl rfl rfl rfl ?_
        refine g_aload_n 174 hM rfl rfl rfl ?_
        refine g_getI 177 46 (gI (sI s 177 46 ((gI s 177 46) - 1)) 177 46) hM rfl rfl rfl rfl rfl rfl rfl ?_
        obtain ⟨hg8, h⟩ := zg_some h
        refine g_laload 178 (gJ s 198 (gI (sI s 177 46 ((gI s 177 46) - 1)) 177 46)) hM rfl rfl rfl rfl hg8 rfl ?_
        refine g_land 179 hM rfl rfl ?_
        refine g_putJ 182 47 hM rfl rfl rfl rfl rfl rfl rfl ?_
        refine g_aload_n 183 hM rfl rfl rfl ?_
        refine g_lload 185 hM rfl rfl rfl ?_
        refine g_aload_n 186 hM rfl rfl rfl ?_
        refine g_getF 189 hM rfl rfl rfl rfl rfl ?_
        refine g_aload_n 190 hM rfl rfl rfl ?_
        refine g_getI 193 46 (gI (sI s 177 46 ((gI s 177 46) - 1)) 177 46) hM rfl rfl rfl rfl rfl rfl rfl ?_
        refine g_laload 194 (gJ s 199 (gI (sI s 177 46 ((gI s 177 46) - 1)) 177 46)) hM rfl rfl rfl rfl hg8 rfl ?_
        refine g_land 195 hM rfl rfl ?_
        refine g_putJ 198 48 hM rfl rfl rfl rfl rfl rfl rfl ?_
        refine g_goto 239 hM rfl rfl ?_
        refine g_lv [(0, .ref 177)] rfl ⟨rfl, trivial⟩ ?_
        exact wj_208_239 (by omega) h
      · rw [if_neg hc7] at h
        by_cases hc9 : t_208_47 v1 = 201
        · rw [if_pos hc9] at h
          refine g_tsw 201 hM rfl hg2 hc9 rfl rfl rfl ?_
          refine g_aload_n 202 hM rfl rfl rfl ?_
          refine g_iload_n 203 hM rfl rfl rfl ?_
          refine g_iload_n 204 hM rfl rfl rfl ?_
          obtain ⟨r11, s12, h10, h⟩ := zb_some h
          refine g_call 207 _ [] hM rfl rfl rfl rfl rfl (xM_209 _) rfl (z_rcv2 rfl) rfl rfl (by omega) (w_209 (by omega) h10) rfl ?_
          refine g_goto 239 hM rfl rfl ?_
          refine g_lv [(0, .ref 177)] rfl ⟨rfl, trivial⟩ ?_
          exact wj_208_239 (by omega) h
        · rw [if_neg hc9] at h
          by_cases hc13 : t_208_47 v1 = 210
          · rw [if_pos hc13] at h
            refine g_tsw 210 hM rfl hg2 hc13 rfl rfl rfl ?_
            refine g_aload_n 211 hM rfl rfl rfl ?_
            obtain ⟨r15, s16, h14, h⟩ := zb_some h
            refine g_call 214 _ [] hM rfl rfl rfl rfl rfl (xM_213 _) rfl (z_rcv2 rfl) rfl rfl (by omega) (w_213 (by omega) h14) rfl ?_
            refine g_goto 239 hM rfl rfl ?_
            refine g_lv [(0, .ref 177)] rfl ⟨rfl, trivial⟩ ?_
            exact wj_208_239 (by omega) h
          · rw [if_neg hc13] at h
            by_cases hc17 : t_208_47 v1 = 217
            · rw [if_pos hc17] at h
              refine g_tsw 217 hM rfl hg2 hc17 rfl rfl rfl ?_
              refine g_aload_n 218 hM rfl rfl rfl ?_
              refine g_iload_n 219 hM rfl rfl rfl ?_
              obtain ⟨r19, s20, h18, h⟩ := zb_some h
              refine g_call 222 _ [] hM rfl rfl rfl rfl rfl (xM_214 _) rfl (z_rcv2 rfl) rfl rfl (by omega) (w_214 (by omega) h18) rfl ?_
              refine g_goto 239 hM rfl rfl ?_
              refine g_lv [(0, .ref 177)] rfl ⟨rfl, trivial⟩ ?_
              exact wj_208_239 (by omega) h
            · rw [if_neg hc17] at h
              by_cases hc21 : t_208_47 v1 = 225
              · rw [if_pos hc21] at h
                refine g_tsw 225 hM rfl hg2 hc21 rfl rfl rfl ?_
                refine g_aload_n 226 hM rfl rfl rfl ?_
                refine g_iload_n 227 hM rfl rfl rfl ?_
                obtain ⟨r23, s24, h22, h⟩ := zb_some h
                refine g_call 230 _ [] hM rfl rfl rfl rfl rfl (xM_215 _) rfl (z_rcv2 rfl) rfl rfl (by omega) (w_215 (by omega) h22) rfl ?_
                refine g_goto 239 hM rfl rfl ?_
                refine g_lv [(0, .ref 177)] rfl ⟨rfl, trivial⟩ ?_
                exact wj_208_239 (by omega) h
              · rw [if_neg hc21] at h
                by_cases hc25 : t_208_47 v1 = 233
                · rw [if_pos hc25] at h
                  refine g_tsw 233 hM rfl hg2 hc25 rfl rfl rfl ?_
                  refine g_aload_n 234 hM rfl rfl rfl ?_
                  refine g_iload_n 235 hM rfl rfl rfl ?_
                  refine g_iload_n 236 hM rfl rfl rfl ?_
                  obtain ⟨r27, s28, h26, h⟩ := zb_some h
                  refine g_call 239 _ [] hM rfl rfl rfl rfl rfl (xM_216 _) rfl (z_rcv2 rfl) rfl rfl (by omega) (w_216 (by omega) h26) rfl ?_
                  refine g_lv [(0, .ref 177)] rfl ⟨rfl, trivial⟩ ?_
                  exact wj_208_239 (by omega) h
                · rw [if_neg hc25] at h
                  cases h
def b_199_12 (v1 : Int) (v2 : Int) (s : zS) : Option ((Int × zS) ⊕ (zS)) := zg (0 ≤ v1 ∧ v1 < 18) (zg (zR v2) (if v2 < (gI s 187 v1) then (zg (0 ≤ ((320 * v1) + v2) ∧ ((320 * v1) + v2) < 5760) (if (gI s 184 ((320 * v1) + v2)) = 3 then (zb (f_200 v1 v2 s) (fun r7 s8 => some (.inl (r7, s8)))) else (if (gI s 184 ((320 * v1) + v2)) = 4 then (zb (f_207 (gI s 185 ((320 * v1) + v2)) v2 s) (fun r11 s12 => some (.inl (r11, s12)))) else (zo (f_167 (gI s 184 ((320 * v1) + v2))) (fun r14 => zg (zR r14) (if r14 = 0 then (zo (f_166 (gI s 184 ((320 * v1) + v2))) (fun r18 => zg (zR r18) (if r18 = 16 then (zb (f_217 (gI s 184 ((320 * v1) + v2)) s) (fun r22 s23 => some (.inl ((v2 + 1), s23)))) else (zo (f_168 (gI s 184 ((320 * v1) + v2))) (fun r25 => zg (zR r25) (if r25 = 0 then (zb (f_220 (gI s 184 ((320 * v1) + v2)) (gI s 185 ((320 * v1) + v2)) (gI s 186 ((320 * v1) + v2)) s) (fun r29 s30 => some (.inl ((v2 + 1), s30)))) else (zb (f_219 (gI s 184 ((320 * v1) + v2)) s) (fun r32 s33 => some (.inl ((v2 + 1), s33)))))))))) else (zb (f_208 (gI s 184 ((320 * v1) + v2)) (gI s 185 ((320 * v1) + v2)) (gI s 186 ((320 * v1) + v2)) s) (fun r35 s36 => some (.inl ((v2 + 1), s36)))))))))) else (some (.inr s))))
theorem wb_199_12 {k : zK} {d : Nat} {x : am_H} {r : am_A × am_H} {v1 : Int} {v2 : Int} {s : zS} {q : (Int × zS) ⊕ (zS)} (hd : 4 ≤ d) (h : b_199_12 v1 v2 s = some q) (hK : Sum.elim (G_199_12 k d x r v1) (K_199_12 k d x r v1) q) : G_199_12 k d x r v1 (v2, s) := by
  unfold b_199_12 at h
  have hM := xM_199 k.1
  show zgo k d 199 (12, [(0, .ref 177), (1, .int (Int32.ofInt v1)), (2, .int (Int32.ofInt v2))], []) (hp s ++ x) r
  refine g_iload_n 13 hM rfl rfl rfl ?_
  refine g_aload_n 14 hM rfl rfl rfl ?_
  refine g_getF 17 hM rfl rfl rfl rfl rfl ?_
  refine g_iload_n 18 hM rfl rfl rfl ?_
  obtain ⟨hg1, h⟩ := zg_some h
  refine g_iaload 19 (gI s 187 v1) hM rfl rfl rfl rfl hg1 rfl ?_
  obtain ⟨hg2, h⟩ := zg_some h
  by_cases hc3 : v2 < (gI s 187 v1)
  · rw [if_pos hc3] at h
    refine g_ic_ge_f 22 164 hM rfl rfl rfl hg2 (zR_gI _ _ _) hc3 ?_
    refine g_sipush 25 hM rfl rfl rfl ?_
    refine g_iload_n 26 hM rfl rfl rfl ?_
    refine g_imul 27 hM rfl rfl ?_
    refine g_iload_n 28 hM rfl rfl rfl ?_
    refine g_iadd 29 hM rfl rfl ?_
    refine g_istore_n 30 hM rfl rfl rfl ?_
    refine g_aload_n 31 hM rfl rfl rfl ?_
    refine g_getF 34 hM rfl rfl rfl rfl rfl ?_
    refine g_iload_n 35 hM rfl rfl rfl ?_
    obtain ⟨hg4, h⟩ := zg_some h
    refine g_iaload 36 (gI s 184 ((320 * v1) + v2)) hM rfl rfl rfl rfl hg4 rfl ?_
    refine g_istore 38 hM rfl rfl rfl ?_
    refine g_iload 40 hM rfl rfl rfl ?_
    refine g_iconst 41 hM rfl rfl ?_
    by_cases hc5 : (gI s 184 ((320 * v1) + v2)) = 3
    · rw [if_pos hc5] at h
      refine g_ic_ne_f 44 54 hM rfl rfl rfl (zR_gI _ _ _) (zR_lit rfl) hc5 ?_
      refine g_aload_n 45 hM rfl rfl rfl ?_
      refine g_iload_n 46 hM rfl rfl rfl ?_
      refine g_iload_n 47 hM rfl rfl rfl ?_
      obtain ⟨r7, s8, h6, h⟩ := zb_some h
      refine g_call 50 _ [.int (Int32.ofInt r7)] hM rfl rfl rfl rfl rfl (xM_200 _) rfl (z_rcv2 rfl) rfl rfl (by omega) (w_200 (by omega) h6) rfl ?_
      refine g_istore_n 51 hM rfl rfl rfl ?_
      refine g_goto 161 hM rfl rfl ?_
      refine g_goto 12 hM rfl rfl ?_
      cases h
      exact g_lv [(0, .ref 177), (1, .int (Int32.ofInt v1)), (2, .int (Int32.ofInt r7))] rfl ⟨rfl, rfl, rfl, trivial⟩ hK
    · rw [if_neg hc5] at h
      refine g_ic_ne_t 54 hM rfl rfl (zR_gI _ _ _) (zR_lit rfl) hc5 ?_
      refine g_iload 56 hM rfl rfl rfl ?_
      refine g_iconst 57 hM rfl rfl ?_
      by_cases hc9 : (gI s 184 ((320 * v1) + v2)) = 4
      · rw [if_pos hc9] at h
        refine g_ic_ne_f 60 75 hM rfl rfl rfl (zR_gI _ _ _) (zR_lit rfl) hc9 ?_
        refine g_aload_n 61 hM rfl rfl rfl ?_
        refine g_aload_n 62 hM rfl rfl rfl ?_
        refine g_getF 65 hM rfl rfl rfl rfl rfl ?_
        refine g_iload_n 66 hM rfl rfl rfl ?_
        refine g_iaload 67 (gI s 185 ((320 * v1) + v2)) hM rfl rfl rfl rfl hg4 rfl ?_
        refine g_iload_n 68 hM rfl rfl rfl ?_
        obtain ⟨r11, s12, h10, h⟩ := zb_some h
        refine g_call 71 _ [.int (Int32.ofInt r11)] hM rfl rfl rfl rfl rfl (xM_207 _) rfl (z_rcv2 rfl) rfl rfl (by omega) (w_207 (by omega) h10) rfl ?_
        refine g_istore_n 72 hM rfl rfl rfl ?_
        refine g_goto 161 hM rfl rfl ?_
        refine g_goto 12 hM rfl rfl ?_
        cases h
        exact g_lv [(0, .ref 177), (1, .int (Int32.ofInt v1)), (2, .int (Int32.ofInt r11))] rfl ⟨rfl, rfl, rfl, trivial⟩ hK
      · rw [if_neg hc9] at h
        refine g_ic_ne_t 75 hM rfl rfl (zR_gI _ _ _) (zR_lit rfl) hc9 ?_
        refine g_iload 77 hM rfl rfl rfl ?_
        obtain ⟨r14, h13, h⟩ := zo_some h
        refine g_call 80 _ [.int (Int32.ofInt r14)] hM rfl rfl rfl rfl rfl (xM_167 _) rfl rfl rfl rfl (by omega) (w_167 (by omega) h13) rfl ?_
        obtain ⟨hg15, h⟩ := zg_some h
        by_cases hc16 : r14 = 0
        · rw [if_pos hc16] at h
          refine g_if_eq_t 104 hM rfl rfl hg15 hc16 ?_
          refine g_iload 106 hM rfl rfl rfl ?_
          obtain ⟨r18, h17, h⟩ := zo_some h
          refine g_call 109 _ [.int (Int32.ofInt r18)] hM rfl rfl rfl rfl rfl (xM_166 _) rfl rfl rfl rfl (by omega) (w_166 (by omega) h17) rfl ?_
          refine g_bipush 111 hM rfl rfl rfl ?_
          obtain ⟨hg19, h⟩ := zg_some h
          by_cases hc20 : r18 = 16
          · rw [if_pos hc20] at h
            refine g_ic_ne_f 114 123 hM rfl rfl rfl hg19 (zR_lit rfl) hc20 ?_
            refine g_aload_n 115 hM rfl rfl rfl ?_
            refine g_iload 117 hM rfl rfl rfl ?_
            obtain ⟨r22, s23, h21, h⟩ := zb_some h
            refine g_call 120 _ [] hM rfl rfl rfl rfl rfl (xM_217 _) rfl (z_rcv2 rfl) rfl rfl (by omega) (w_217 (by omega) h21) rfl ?_
            refine g_goto 158 hM rfl rfl ?_
            refine g_iinc 161 hM rfl rfl rfl rfl ?_
            refine g_goto 12 hM rfl rfl ?_
            cases h
            exact g_lv [(0, .ref 177), (1, .int (Int32.ofInt v1)), (2, .int (Int32.ofInt (v2 + 1)))] rfl ⟨rfl, rfl, rfl, trivial⟩ hK
          · rw [if_neg hc20] at h
            refine g_ic_ne_t 123 hM rfl rfl hg19 (zR_lit rfl) hc20 ?_
            refine g_iload 125 hM rfl rfl rfl ?_
            obtain ⟨r25, h24, h⟩ := zo_some h
            refine g_call 128 _ [.int (Int32.ofInt r25)] hM rfl rfl rfl rfl rfl (xM_168 _) rfl rfl rfl rfl (by omega) (w_168 (by omega) h24) rfl ?_
            obtain ⟨hg26, h⟩ := zg_some h
            by_cases hc27 : r25 = 0
            · rw [if_pos hc27] at h
              refine g_if_eq_t 140 hM rfl rfl hg26 hc27 ?_
              refine g_aload_n 141 hM rfl rfl rfl ?_
              refine g_iload 143 hM rfl rfl rfl ?_
              refine g_aload_n 144 hM rfl rfl rfl ?_
              refine g_getF 147 hM rfl rfl rfl rfl rfl ?_
              refine g_iload_n 148 hM rfl rfl rfl ?_
              refine g_iaload 149 (gI s 185 ((320 * v1) + v2)) hM rfl rfl rfl rfl hg4 rfl ?_
              refine g_aload_n 150 hM rfl rfl rfl ?_
              refine g_getF 153 hM rfl rfl rfl rfl rfl ?_
              refine g_iload_n 154 hM rfl rfl rfl ?_
              refine g_iaload 155 (gI s 186 ((320 * v1) + v2)) hM rfl rfl rfl rfl hg4 rfl ?_
              obtain ⟨r29, s30, h28, h⟩ := zb_some h
              refine g_call 158 _ [] hM rfl rfl rfl rfl rfl (xM_220 _) rfl (z_rcv2 rfl) rfl rfl (by omega) (w_220 (by omega) h28) rfl ?_
              refine g_iinc 161 hM rfl rfl rfl rfl ?_
              refine g_goto 12 hM rfl rfl ?_
              cases h
              exact g_lv [(0, .ref 177), (1, .int (Int32.ofInt v1)), (2, .int (Int32.ofInt (v2 + 1)))] rfl ⟨rfl, rfl, rfl, trivial⟩ hK
            · rw [if_neg hc27] at h
              refine g_if_eq_f 131 140 hM rfl rfl rfl hg26 hc27 ?_
              refine g_aload_n 132 hM rfl rfl rfl ?_
              refine g_iload 134 hM rfl rfl rfl ?_
              obtain ⟨r32, s33, h31, h⟩ := zb_some h
              refine g_call 137 _ [] hM rfl rfl rfl rfl rfl (xM_219 _) rfl (z_rcv2 rfl) rfl rfl (by omega) (w_219 (by omega) h31) rfl ?_
              refine g_goto 158 hM rfl rfl ?_
              refine g_iinc 161 hM rfl rfl rfl rfl ?_
              refine g_goto 12 hM rfl rfl ?_
              cases h
              exact g_lv [(0, .ref 177), (1, .int (Int32.ofInt v1)), (2, .int (Int32.ofInt (v2 + 1)))] rfl ⟨rfl, rfl, rfl, trivial⟩ hK
        · rw [if_neg hc16] at h
          refine g_if_eq_f 83 104 hM rfl rfl rfl hg15 hc16 ?_
          refine g_aload_n 84 hM rfl rfl rfl ?_
          refine g_iload 86 hM rfl rfl rfl ?_
          refine g_aload_n 87 hM rfl rfl rfl ?_
          refine g_getF 90 hM rfl rfl rfl rfl rfl ?_
          refine g_iload_n 91 hM rfl rfl rfl ?_
          refine g_iaload 92 (gI s 185 ((320 * v1) + v2)) hM rfl rfl rfl rfl hg4 rfl ?_
          refine g_aload_n 93 hM rfl rfl rfl ?_
          refine g_getF 96 hM rfl rfl rfl rfl rfl ?_
          refine g_iload_n 97 hM rfl rfl rfl ?_
          refine g_iaload 98 (gI s 186 ((320 * v1) + v2)) hM rfl rfl rfl rfl hg4 rfl ?_
          obtain ⟨r35, s36, h34, h⟩ := zb_some h
          refine g_call 101 _ [] hM rfl rfl rfl rfl rfl (xM_208 _) rfl (z_rcv2 rfl) rfl rfl (by omega) (w_208 (by omega) h34) rfl ?_
          refine g_goto 158 hM rfl rfl ?_
          refine g_iinc 161 hM rfl rfl rfl rfl ?_
          refine g_goto 12 hM rfl rfl ?_
          cases h
          exact g_lv [(0, .ref 177), (1, .int (Int32.ofInt v1)), (2, .int (Int32.ofInt (v2 + 1)))] rfl ⟨rfl, rfl, rfl, trivial⟩ hK
  · rw [if_neg hc3] at h
    refine g_ic_ge_t 164 hM rfl rfl hg2 (zR_gI _ _ _) hc3 ?_
    cases h
    exact g_lv [] rfl trivial hK
theorem wl_199_12 {k : zK} {d : Nat} {x : am_H} {r : am_A × am_H} {v1 : Int} {n : Nat} {e : (Int × zS)} {t : (zS)} (hd : 4 ≤ d) (h : zlp (fun (q : Int × zS) => b_199_12 v1 q.1 q.2) n e = some t) (hK : K_199_12 k d x r v1 t) : G_199_12 k d x r v1 e := zlp_go (G := fun e => G_199_12 k d x r v1 e) (K := K_199_12 k d x r v1) (fun e e1 h1 hg => wb_199_12 (q := .inl e1) hd h1 hg) (fun e t1 h1 hk => wb_199_12 (q := .inr t1) hd h1 hk) n e t h hK
/-- RelationFinderModel.work(I)V -/
def f_199 (v1 : Int) (s : zS) : Option (Unit × zS) := zo (zlp (fun (q : Int × zS) => b_199_12 v1 q.1 q.2) zF (0, (sI (sI s 177 46 0) 177 53 0))) (fun e1 => some ((), e1))
theorem w_199 {k : zK} {d : Nat} {x : am_H} {v1 : Int} {s : zS} {q : (Unit × zS)} (hd : 4 ≤ d) (h : f_199 v1 s = some q) : zgo k d 199 (0, [(0, .ref 177), (1, .int (Int32.ofInt v1))], []) (hp s ++ x) (.inl (none), hp q.2 ++ x) := by
  unfold f_199 at h
  have hM := xM_199 k.1
  refine g_aload_n 1 hM rfl rfl rfl ?_
  refine g_iconst 2 hM rfl rfl ?_
  refine g_putI 5 46 hM rfl rfl rfl rfl rfl rfl rfl ?_
  refine g_aload_n 6 hM rfl rfl rfl ?_
  refine g_iconst 7 hM rfl rfl ?_
  refine g_putI 10 53 hM rfl rfl rfl rfl rfl rfl rfl ?_
  refine g_iconst 11 hM rfl rfl ?_
  refine g_istore_n 12 hM rfl rfl rfl ?_
  obtain ⟨e1, h2, h⟩ := zo_some h
  refine g_lv [(0, .ref 177), (1, .int (Int32.ofInt v1)), (2, .int (Int32.ofInt 0))] rfl ⟨rfl, rfl, rfl, trivial⟩ ?_
  refine wl_199_12 (by omega) h2 ?_
  show zgo k d 199 (164, [], []) (hp e1 ++ x) (.inl (none), hp q.2 ++ x)
  cases h
  exact g_ret hM rfl rfl
/-- RelationFinderModel.isTrue(I)Z -/
def f_198 (v1 : Int) (s : zS) : Option (Int × zS) := zb (f_199 v1 s) (fun r2 s3 => if (gJ s3 198 0) = (1#64) then (some (1, s3)) else (some (0, s3)))
theorem w_198 {k : zK} {d : Nat} {x : am_H} {v1 : Int} {s : zS} {q : (Int × zS)} (hd : 5 ≤ d) (h : f_198 v1 s = some q) : zgo k d 198 (0, [(0, .ref 177), (1, .int (Int32.ofInt v1))], []) (hp s ++ x) (.inl (some (.int (Int32.ofInt q.1))), hp q.2 ++ x) := by
  unfold f_198 at h
  have hM := xM_198 k.1
  refine g_aload_n 1 hM rfl rfl rfl ?_
  refine g_iload_n 2 hM rfl rfl rfl ?_
  obtain ⟨r2, s3, h1, h⟩ := zb_some h
  refine g_call 5 _ [] hM rfl rfl rfl rfl rfl (xM_199 _) rfl (z_rcv2 rfl) rfl rfl (by omega) (w_199 (by omega) h1) rfl ?_
  refine g_aload_n 6 hM rfl rfl rfl ?_
  refine g_getF 9 hM rfl rfl rfl rfl rfl ?_
  refine g_iconst 10 hM rfl rfl ?_
  refine g_laload 11 (gJ s3 198 0) hM rfl rfl rfl rfl ⟨by decide, by decide⟩ rfl ?_
  refine g_lconst 12 (1#64) hM rfl rfl rfl ?_
  by_cases hc4 : (gJ s3 198 0) = (1#64)
  · rw [if_pos hc4] at h
    refine g_lc_ne_f 13 16 20 hM rfl rfl rfl rfl rfl hc4 ?_
    refine g_iconst 17 hM rfl rfl ?_
    refine g_goto 21 hM rfl rfl ?_
    cases h
    exact g_ret hM rfl rfl
  · rw [if_neg hc4] at h
    refine g_lc_ne_t 13 20 hM rfl rfl rfl rfl hc4 ?_
    refine g_iconst 21 hM rfl rfl ?_
    cases h
    exact g_ret hM rfl rfl
def b_194_10 (v2 : Int) (v3 : Int) (v4 : Int) (s : zS) : Option ((Int × Int × zS) ⊕ (Int × zS)) := zg (zR v4) (if v4 < (gI s 177 18) then (zg (zR v3) (if v3 = 0 then (some (.inr (v3, s))) else (zg (0 ≤ v2 ∧ zR v2) (if (zand (v2 / 2 ^ zsh v4) 1) = 0 then (some (.inl (1, (v4 + 1), s))) else (zb (f_198 v4 s) (fun r8 s9 => zg (zR r8) (if r8 = 0 then (some (.inl (0, (v4 + 1), s9))) else (some (.inl (1, (v4 + 1), s9)))))))))) else (some (.inr (v3, s))))
theorem wb_194_10 {k : zK} {d : Nat} {x : am_H} {r : am_A × am_H} {v2 : Int} {v3 : Int} {v4 : Int} {s : zS} {q : (Int × Int × zS) ⊕ (Int × zS)} (hd : 6 ≤ d) (h : b_194_10 v2 v3 v4 s = some q) (hK : Sum.elim (G_194_10 k d x r v2) (K_194_10 k d x r v2) q) : G_194_10 k d x r v2 (v3, v4, s) := by
  unfold b_194_10 at h
  have hM := xM_194 k.1
  show zgo k d 194 (10, [(0, .ref 177), (2, .int (Int32.ofInt v2)), (3, .int (Int32.ofInt v3)), (4, .int (Int32.ofInt v4))], []) (hp s ++ x) r
  refine g_iload 12 hM rfl rfl rfl ?_
  refine g_aload_n 13 hM rfl rfl rfl ?_
  refine g_getI 16 18 (gI s 177 18) hM rfl rfl rfl rfl rfl rfl rfl ?_
  obtain ⟨hg1, h⟩ := zg_some h
  by_cases hc2 : v4 < (gI s 177 18)
  · rw [if_pos hc2] at h
    refine g_ic_ge_f 19 53 hM rfl rfl rfl hg1 (zR_gI _ _ _) hc2 ?_
    refine g_iload_n 20 hM rfl rfl rfl ?_
    obtain ⟨hg3, h⟩ := zg_some h
    by_cases hc4 : v3 = 0
    · rw [if_pos hc4] at h
      refine g_if_eq_t 53 hM rfl rfl hg3 hc4 ?_
      cases h
      exact g_lv [(3, .int (Int32.ofInt v3))] rfl ⟨rfl, trivial⟩ hK
    · rw [if_neg hc4] at h
      refine g_if_eq_f 23 53 hM rfl rfl rfl hg3 hc4 ?_
      refine g_iload_n 24 hM rfl rfl rfl ?_
      refine g_iload 26 hM rfl rfl rfl ?_
      obtain ⟨hg5, h⟩ := zg_some h
      refine g_ishr 27 hM rfl rfl hg5 ?_
      refine g_iconst 28 hM rfl rfl ?_
      refine g_iand 29 hM rfl rfl ?_
      by_cases hc6 : (zand (v2 / 2 ^ zsh v4) 1) = 0
      · rw [if_pos hc6] at h
        refine g_if_eq_t 41 hM rfl rfl (zR_and _ _) hc6 ?_
        refine g_iconst 42 hM rfl rfl ?_
        refine g_goto 46 hM rfl rfl ?_
        refine g_istore_n 47 hM rfl rfl rfl ?_
        refine g_iinc 50 hM rfl rfl rfl rfl ?_
        refine g_goto 10 hM rfl rfl ?_
        cases h
        exact g_lv [(0, .ref 177), (2, .int (Int32.ofInt v2)), (3, .int (Int32.ofInt 1)), (4, .int (Int32.ofInt (v4 + 1)))] rfl ⟨rfl, rfl, rfl, rfl, trivial⟩ hK
      · rw [if_neg hc6] at h
        refine g_if_eq_f 32 41 hM rfl rfl rfl (zR_and _ _) hc6 ?_
        refine g_aload_n 33 hM rfl rfl rfl ?_
        refine g_iload 35 hM rfl rfl rfl ?_
        obtain ⟨r8, s9, h7, h⟩ := zb_some h
        refine g_call 38 _ [.int (Int32.ofInt r8)] hM rfl rfl rfl rfl rfl (xM_198 _) rfl (z_rcv2 rfl) rfl rfl (by omega) (w_198 (by omega) h7) rfl ?_
        obtain ⟨hg10, h⟩ := zg_some h
        by_cases hc11 : r8 = 0
        · rw [if_pos hc11] at h
          refine g_if_eq_t 45 hM rfl rfl hg10 hc11 ?_
          refine g_iconst 46 hM rfl rfl ?_
          refine g_istore_n 47 hM rfl rfl rfl ?_
          refine g_iinc 50 hM rfl rfl rfl rfl ?_
          refine g_goto 10 hM rfl rfl ?_
          cases h
          exact g_lv [(0, .ref 177), (2, .int (Int32.ofInt v2)), (3, .int (Int32.ofInt 0)), (4, .int (Int32.ofInt (v4 + 1)))] rfl ⟨rfl, rfl, rfl, rfl, trivial⟩ hK
        · rw [if_neg hc11] at h
          refine g_if_eq_f 41 45 hM rfl rfl rfl hg10 hc11 ?_
          refine g_iconst 42 hM rfl rfl ?_
          refine g_goto 46 hM rfl rfl ?_
          refine g_istore_n 47 hM rfl rfl rfl ?_
          refine g_iinc 50 hM rfl rfl rfl rfl ?_
          refine g_goto 10 hM rfl rfl ?_
          cases h
          exact g_lv [(0, .ref 177), (2, .int (Int32.ofInt v2)), (3, .int (Int32.ofInt 1)), (4, .int (Int32.ofInt (v4 + 1)))] rfl ⟨rfl, rfl, rfl, rfl, trivial⟩ hK
  · rw [if_neg hc2] at h
    refine g_ic_ge_t 53 hM rfl rfl hg1 (zR_gI _ _ _) hc2 ?_
    cases h
    exact g_lv [(3, .int (Int32.ofInt v3))] rfl ⟨rfl, trivial⟩ hK
theorem wl_194_10 {k : zK} {d : Nat} {x : am_H} {r : am_A × am_H} {v2 : Int} {n : Nat} {e : (Int × Int × zS)} {t : (Int × zS)} (hd : 6 ≤ d) (h : zlp (fun (q : Int × Int × zS) => b_194_10 v2 q.1 q.2.1 q.2.2) n e = some t) (hK : K_194_10 k d x r v2 t) : G_194_10 k d x r v2 e := zlp_go (G := fun e => G_194_10 k d x r v2 e) (K := K_194_10 k d x r v2) (fun e e1 h1 hg => wb_194_10 (q := .inl e1) hd h1 hg) (fun e t1 h1 hk => wb_194_10 (q := .inr t1) hd h1 hk) n e t h hK
/-- RelationFinderModel.fits(II)Z -/
def f_194 (v1 : Int) (v2 : Int) (s : zS) : Option (Int × zS) := zb (f_195 v1 s) (fun r2 s3 => zo (zlp (fun (q : Int × Int × zS) => b_194_10 v2 q.1 q.2.1 q.2.2) zF (1, 0, s3)) (fun e4 => zg (e4.1 = 0 ∨ e4.1 = 1) (some (e4.1, e4.2))))
theorem w_194 {k : zK} {d : Nat} {x : am_H} {v1 : Int} {v2 : Int} {s : zS} {q : (Int × zS)} (hd : 6 ≤ d) (h : f_194 v1 v2 s = some q) : zgo k d 194 (0, [(0, .ref 177), (1, .int (Int32.ofInt v1)), (2, .int (Int32.ofInt v2))], []) (hp s ++ x) (.inl (some (.int (Int32.ofInt q.1))), hp q.2 ++ x) := by
  unfold f_194 at h
  have hM := xM_194 k.1
  refine g_aload_n 1 hM rfl rfl rfl ?_
  refine g_iload_n 2 hM rfl rfl rfl ?_
  obtain ⟨r2, s3, h1, h⟩ := zb_some h
  refine g_call 5 _ [] hM rfl rfl rfl rfl rfl (xM_195 _) rfl (z_rcv2 rfl) rfl rfl (by omega) (w_195 (by omega) h1) rfl ?_
  refine g_iconst 6 hM rfl rfl ?_
  refine g_istore_n 7 hM rfl rfl rfl ?_
  refine g_iconst 8 hM rfl rfl ?_
  refine g_istore 10 hM rfl rfl rfl ?_
  obtain ⟨e4, h5, h⟩ := zo_some h
  refine g_lv [(0, .ref 177), (2, .int (Int32.ofInt v2)), (3, .int (Int32.ofInt 1)), (4, .int (Int32.ofInt 0))] rfl ⟨rfl, rfl, rfl, rfl, trivial⟩ ?_
  refine wl_194_10 (by omega) h5 ?_
  show zgo k d 194 (53, [(3, .int (Int32.ofInt e4.1))], []) (hp e4.2 ++ x) (.inl (some (.int (Int32.ofInt q.1))), hp q.2 ++ x)
  refine g_iload_n 54 hM rfl rfl rfl ?_
  obtain ⟨hg6, h⟩ := zg_some h
  cases h
  exact g_ret hM rfl (z_retB hg6)
def b_193_7 (v2 : Int) (v3 : Int) (v4 : Int) (s : zS) : Option ((Int × zS) ⊕ ((zS) ⊕ (Int × zS))) := zg (zR v4) (zg (zR (1 * 2 ^ zsh (gI s 177 13))) (if v4 < (1 * 2 ^ zsh (gI s 177 13)) then (zb (f_194 v4 v2 s) (fun r5 s6 => zg (zR r5) (if r5 = 0 then (some (.inl ((v4 + 1), s6))) else (zg (zR v3) (if v3 = 0 then (some (.inr (.inr (v4, s6)))) else (zb (f_198 16 s6) (fun r12 s13 => zg (zR r12) (if r12 = 0 then (some (.inr (.inr (v4, s13)))) else (some (.inl ((v4 + 1), s13))))))))))) else (some (.inr (.inl s)))))
theorem wb_193_7 {k : zK} {d : Nat} {x : am_H} {r : am_A × am_H} {v2 : Int} {v3 : Int} {v4 : Int} {s : zS} {q : (Int × zS) ⊕ ((zS) ⊕ (Int × zS))} (hd : 7 ≤ d) (h : b_193_7 v2 v3 v4 s = some q) (hK : Sum.elim (G_193_7 k d x r v2 v3) (K_193_7 k d x r v2 v3) q) : G_193_7 k d x r v2 v3 (v4, s) := by
  unfold b_193_7 at h
  have hM := xM_193 k.1
  show zgo k d 193 (7, [(0, .ref 177), (2, .int (Int32.ofInt v2)), (3, .int (Int32.ofInt v3)), (4, .int (Int32.ofInt v4))], []) (hp s ++ x) r
  refine g_iload 9 hM rfl rfl rfl ?_
  refine g_iconst 10 hM rfl rfl ?_
  refine g_aload_n 11 hM rfl rfl rfl ?_
  refine g_getI 14 13 (gI s 177 13) hM rfl rfl rfl rfl rfl rfl rfl ?_
  refine g_ishl 15 hM rfl rfl ?_
  obtain ⟨hg1, h⟩ := zg_some h
  obtain ⟨hg2, h⟩ := zg_some h
  by_cases hc3 : v4 < (1 * 2 ^ zsh (gI s 177 13))
  · rw [if_pos hc3] at h
    refine g_ic_ge_f 18 50 hM rfl rfl rfl hg1 hg2 hc3 ?_
    refine g_aload_n 19 hM rfl rfl rfl ?_
    refine g_iload 21 hM rfl rfl rfl ?_
    refine g_iload_n 22 hM rfl rfl rfl ?_
    obtain ⟨r5, s6, h4, h⟩ := zb_some h
    refine g_call 25 _ [.int (Int32.ofInt r5)] hM rfl rfl rfl rfl rfl (xM_194 _) rfl (z_rcv2 rfl) rfl rfl (by omega) (w_194 (by omega) h4) rfl ?_
    obtain ⟨hg7, h⟩ := zg_some h
    by_cases hc8 : r5 = 0
    · rw [if_pos hc8] at h
      refine g_if_eq_t 44 hM rfl rfl hg7 hc8 ?_
      refine g_iinc 47 hM rfl rfl rfl rfl ?_
      refine g_goto 7 hM rfl rfl ?_
      cases h
      exact g_lv [(0, .ref 177), (2, .int (Int32.ofInt v2)), (3, .int (Int32.ofInt v3)), (4, .int (Int32.ofInt (v4 + 1)))] rfl ⟨rfl, rfl, rfl, rfl, trivial⟩ hK
    · rw [if_neg hc8] at h
      refine g_if_eq_f 28 44 hM rfl rfl rfl hg7 hc8 ?_
      refine g_iload_n 29 hM rfl rfl rfl ?_
      obtain ⟨hg9, h⟩ := zg_some h
      by_cases hc10 : v3 = 0
      · rw [if_pos hc10] at h
        refine g_if_eq_t 41 hM rfl rfl hg9 hc10 ?_
        refine g_iload 43 hM rfl rfl rfl ?_
        cases h
        rw [show r = _ from hK]
        exact g_ret hM rfl rfl
      · rw [if_neg hc10] at h
        refine g_if_eq_f 32 41 hM rfl rfl rfl hg9 hc10 ?_
        refine g_aload_n 33 hM rfl rfl rfl ?_
        refine g_bipush 35 hM rfl rfl rfl ?_
        obtain ⟨r12, s13, h11, h⟩ := zb_some h
        refine g_call 38 _ [.int (Int32.ofInt r12)] hM rfl rfl rfl rfl rfl (xM_198 _) rfl (z_rcv2 rfl) rfl rfl (by omega) (w_198 (by omega) h11) rfl ?_
        obtain ⟨hg14, h⟩ := zg_some h
        by_cases hc15 : r12 = 0
        · rw [if_pos hc15] at h
          refine g_if_ne_f 41 44 hM rfl rfl rfl hg14 hc15 ?_
          refine g_iload 43 hM rfl rfl rfl ?_
          cases h
          rw [show r = _ from hK]
          exact g_ret hM rfl rfl
        · rw [if_neg hc15] at h
          refine g_if_ne_t 44 hM rfl rfl hg14 hc15 ?_
          refine g_iinc 47 hM rfl rfl rfl rfl ?_
          refine g_goto 7 hM rfl rfl ?_
          cases h
          exact g_lv [(0, .ref 177), (2, .int (Int32.ofInt v2)), (3, .int (Int32.ofInt v3)), (4, .int (Int32.ofInt (v4 + 1)))] rfl ⟨rfl, rfl, rfl, rfl, trivial⟩ hK
  · rw [if_neg hc3] at h
    refine g_ic_ge_t 50 hM rfl rfl hg1 hg2 hc3 ?_
    cases h
    exact g_lv [] rfl trivial hK
theorem wl_193_7 {k : zK} {d : Nat} {x : am_H} {r : am_A × am_H} {v2 : Int} {v3 : Int} {n : Nat} {e : (Int × zS)} {t : ((zS) ⊕ (Int × zS))} (hd : 7 ≤ d) (h : zlp (fun (q : Int × zS) => b_193_7 v2 v3 q.1 q.2) n e = some t) (hK : K_193_7 k d x r v2 v3 t) : G_193_7 k d x r v2 v3 e := zlp_go (G := fun e => G_193_7 k d x r v2 v3 e) (K := K_193_7 k d x r v2 v3) (fun e e1 h1 hg => wb_193_7 (q := .inl e1) hd h1 hg) (fun e t1 h1 hk => wb_193_7 (q := .inr t1) hd h1 hk) n e t h hK
/-- RelationFinderModel.firstFrom(IIZ)I -/
def f_193 (v1 : Int) (v2 : Int) (v3 : Int) (s : zS) : Option (Int × zS) := zb (f_154 s) (fun r2 s3 => zo (zlp (fun (q : Int × zS) => b_193_7 v2 v3 q.1 q.2) zF (v1, s3)) (fun e4 => Sum.elim (fun e6 => some ((-1), e6)) (fun q7 => some q7) e4))
theorem w_193 {k : zK} {d : Nat} {x : am_H} {v1 : Int} {v2 : Int} {v3 : Int} {s : zS} {q : (Int × zS)} (hd : 7 ≤ d) (h : f_193 v1 v2 v3 s = some q) : zgo k d 193 (0, [(0, .ref 177), (1, .int (Int32.ofInt v1)), (2, .int (Int32.ofInt v2)), (3, .int (Int32.ofInt v3))], []) (hp s ++ x) (.inl (some (.int (Int32.ofInt q.1))), hp q.2 ++ x) := by
  unfold f_193 at h
  have hM := xM_193 k.1
  refine g_aload_n 1 hM rfl rfl rfl ?_
  obtain ⟨r2, s3, h1, h⟩ := zb_some h
  refine g_call 4 _ [] hM rfl rfl rfl rfl rfl (xM_154 _) rfl (z_rcv2 rfl) rfl rfl (by omega) (w_154 (by omega) h1) rfl ?_
  refine g_iload_n 5 hM rfl rfl rfl ?_
  refine g_istore 7 hM rfl rfl rfl ?_
  obtain ⟨e4, h5, h⟩ := zo_some h
  refine g_lv [(0, .ref 177), (2, .int (Int32.ofInt v2)), (3, .int (Int32.ofInt v3)), (4, .int (Int32.ofInt v1))] rfl ⟨rfl, rfl, rfl, rfl, trivial⟩ ?_
  refine wl_193_7 (by omega) h5 ?_
  rcases e4 with e6 | q7
  · simp only [ze_l] at h
    show zgo k d 193 (50, [], []) (hp e6 ++ x) (.inl (some (.int (Int32.ofInt q.1))), hp q.2 ++ x)
    refine g_iconst 51 hM rfl rfl ?_
    cases h
    exact g_ret hM rfl rfl
  · cases h
    rfl
/-- RelationFinderModel.found(I)I -/
def f_222 (v1 : Int) (s : zS) : Option (Int × zS) := zg (zR v1) (if v1 = (-1) then (if (gI (sI s 177 21 0) 177 21) = 0 then (some (0, (sI (sI s 177 21 0) 177 22 v1))) else (some (1, (sI (sI s 177 21 0) 177 22 v1)))) else (if (gI (sI s 177 21 1) 177 21) = 0 then (some (0, (sI (sI s 177 21 1) 177 22 v1))) else (some (1, (sI (sI s 177 21 1) 177 22 v1)))))
theorem w_222 {k : zK} {d : Nat} {x : am_H} {v1 : Int} {s : zS} {q : (Int × zS)} (hd : 0 ≤ d) (h : f_222 v1 s = some q) : zgo k d 222 (0, [(0, .ref 177), (1, .int (Int32.ofInt v1))], []) (hp s ++ x) (.inl (some (.int (Int32.ofInt q.1))), hp q.2 ++ x) := by
  unfold f_222 at h
  have hM := xM_222 k.1
  refine g_aload_n 1 hM rfl rfl rfl ?_
  refine g_iload_n 2 hM rfl rfl rfl ?_
  refine g_iconst 3 hM rfl rfl ?_
  obtain ⟨hg1, h⟩ := zg_some h
  by_cases hc2 : v1 = (-1)
  · rw [if_pos hc2] at h
    refine g_ic_eq_t 10 hM rfl rfl hg1 (zR_lit rfl) hc2 ?_
    refine g_iconst 11 hM rfl rfl ?_
    refine g_putI 14 21 hM rfl rfl rfl rfl rfl rfl rfl ?_
    refine g_aload_n 15 hM rfl rfl rfl ?_
    refine g_iload_n 16 hM rfl rfl rfl ?_
    refine g_putI 19 22 hM rfl rfl rfl rfl rfl rfl rfl ?_
    refine g_aload_n 20 hM rfl rfl rfl ?_
    refine g_getI 23 21 (gI (sI s 177 21 0) 177 21) hM rfl rfl rfl rfl rfl rfl rfl ?_
    by_cases hc3 : (gI (sI s 177 21 0) 177 21) = 0
    · rw [if_pos hc3] at h
      refine g_if_eq_t 30 hM rfl rfl (zR_gI _ _ _) hc3 ?_
      refine g_iconst 31 hM rfl rfl ?_
      cases h
      exact g_ret hM rfl rfl
    · rw [if_neg hc3] at h
      refine g_if_eq_f 26 30 hM rfl rfl rfl (zR_gI _ _ _) hc3 ?_
      refine g_iconst 27 hM rfl rfl ?_
      refine g_goto 31 hM rfl rfl ?_
      cases h
      exact g_ret hM rfl rfl
  · rw [if_neg hc2] at h
    refine g_ic_eq_f 6 10 hM rfl rfl rfl hg1 (zR_lit rfl) hc2 ?_
    refine g_iconst 7 hM rfl rfl ?_
    refine g_goto 11 hM rfl rfl ?_
    refine g_putI 14 21 hM rfl rfl rfl rfl rfl rfl rfl ?_
    refine g_aload_n 15 hM rfl rfl rfl ?_
    refine g_iload_n 16 hM rfl rfl rfl ?_
    refine g_putI 19 22 hM rfl rfl rfl rfl rfl rfl rfl ?_
    refine g_aload_n 20 hM rfl rfl rfl ?_
    refine g_getI 23 21 (gI (sI s 177 21 1) 177 21) hM rfl rfl rfl rfl rfl rfl rfl ?_
    by_cases hc4 : (gI (sI s 177 21 1) 177 21) = 0
    · rw [if_pos hc4] at h
      refine g_if_eq_t 30 hM rfl rfl (zR_gI _ _ _) hc4 ?_
      refine g_iconst 31 hM rfl rfl ?_
      cases h
      exact g_ret hM rfl rfl
    · rw [if_neg hc4] at h
      refine g_if_eq_f 26 30 hM rfl rfl rfl (zR_gI _ _ _) hc4 ?_
      refine g_iconst 27 hM rfl rfl ?_
      refine g_goto 31 hM rfl rfl ?_
      cases h
      exact g_ret hM rfl rfl
/-- RelationFinderModel.solve()I -/
def f_192 (s : zS) : Option (Int × zS) := zb (f_193 0 65535 0 (sI s 177 0 0)) (fun r2 s3 => zb (f_222 r2 s3) (fun r5 s6 => some (r5, s6)))
theorem w_192 {k : zK} {d : Nat} {x : am_H} {s : zS} {q : (Int × zS)} (hd : 8 ≤ d) (h : f_192 s = some q) : zgo k d 192 (0, [(0, .ref 177)], []) (hp s ++ x) (.inl (some (.int (Int32.ofInt q.1))), hp q.2 ++ x) := by
  unfold f_192 at h
  have hM := xM_192 k.1
  refine g_aload_n 1 hM rfl rfl rfl ?_
  refine g_iconst 2 hM rfl rfl ?_
  refine g_putI 5 0 hM rfl rfl rfl rfl rfl rfl rfl ?_
  refine g_aload_n 6 hM rfl rfl rfl ?_
  refine g_aload_n 7 hM rfl rfl rfl ?_
  refine g_iconst 8 hM rfl rfl ?_
  refine g_ldcwI 11 65535 hM rfl rfl rfl (by decide) ?_
  refine g_iconst 12 hM rfl rfl ?_
  obtain ⟨r2, s3, h1, h⟩ := zb_some h
  refine g_call 15 _ [.int (Int32.ofInt r2), .ref 177] hM rfl rfl rfl rfl rfl (xM_193 _) rfl (z_rcv2 rfl) rfl rfl (by omega) (w_193 (by omega) h1) rfl ?_
  obtain ⟨r5, s6, h4, h⟩ := zb_some h
  refine g_call 18 _ [.int (Int32.ofInt r5)] hM rfl rfl rfl rfl rfl (xM_222 _) rfl (z_rcv2 rfl) rfl rfl (by omega) (w_222 (by omega) h4) rfl ?_
  cases h
  exact g_ret hM rfl rfl
def j_223_13 (t1 : Int) (s : zS) : Option (Int × zS) := if 0 < (gI (sI s 177 0 t1) 177 0) then (some (0, (sI s 177 0 t1))) else (zb (f_193 ((gI s 177 22) + 1) 65535 0 (sI s 177 0 t1)) (fun r3 s4 => zb (f_222 r3 s4) (fun r6 s7 => some (r6, s7))))
theorem wj_223_13 {k : zK} {d : Nat} {x : am_H} {t1 : Int} {s : zS} {q : (Int × zS)} (hd : 8 ≤ d) (h : j_223_13 t1 s = some q) : zgo k d 223 (13, [(0, .ref 177)], [.int (Int32.ofInt t1), .ref 177]) (hp s ++ x) (.inl (some (.int (Int32.ofInt q.1))), hp q.2 ++ x) := by
  unfold j_223_13 at h
  have hM := xM_223 k.1
  refine g_putI 16 0 hM rfl rfl rfl rfl rfl rfl rfl ?_
  refine g_aload_n 17 hM rfl rfl rfl ?_
  refine g_getI 20 0 (gI (sI s 177 0 t1) 177 0) hM rfl rfl rfl rfl rfl rfl rfl ?_
  by_cases hc1 : 0 < (gI (sI s 177 0 t1) 177 0)
  · rw [if_pos hc1] at h
    refine g_if_le_f 23 27 hM rfl rfl rfl (zR_gI _ _ _) hc1 ?_
    refine g_iconst 24 hM rfl rfl ?_
    refine g_goto 45 hM rfl rfl ?_
    cases h
    exact g_ret hM rfl rfl
  · rw [if_neg hc1] at h
    refine g_if_le_t 27 hM rfl rfl (zR_gI _ _ _) hc1 ?_
    refine g_aload_n 28 hM rfl rfl rfl ?_
    refine g_aload_n 29 hM rfl rfl rfl ?_
    refine g_aload_n 30 hM rfl rfl rfl ?_
    refine g_getI 33 22 (gI s 177 22) hM rfl rfl rfl rfl rfl rfl rfl ?_
    refine g_iconst 34 hM rfl rfl ?_
    refine g_iadd 35 hM rfl rfl ?_
    refine g_ldcwI 38 65535 hM rfl rfl rfl (by decide) ?_
    refine g_iconst 39 hM rfl rfl ?_
    obtain ⟨r3, s4, h2, h⟩ := zb_some h
    refine g_call 42 _ [.int (Int32.ofInt r3), .ref 177] hM rfl rfl rfl rfl rfl (xM_193 _) rfl (z_rcv2 rfl) rfl rfl (by omega) (w_193 (by omega) h2) rfl ?_
    obtain ⟨r6, s7, h5, h⟩ := zb_some h
    refine g_call 45 _ [.int (Int32.ofInt r6)] hM rfl rfl rfl rfl rfl (xM_222 _) rfl (z_rcv2 rfl) rfl rfl (by omega) (w_222 (by omega) h5) rfl ?_
    cases h
    exact g_ret hM rfl rfl
/-- RelationFinderModel.next()I -/
def f_223 (s : zS) : Option (Int × zS) := if (gI s 177 21) = 0 then (j_223_13 1 s) else (j_223_13 0 s)
theorem w_223 {k : zK} {d : Nat} {x : am_H} {s : zS} {q : (Int × zS)} (hd : 8 ≤ d) (h : f_223 s = some q) : zgo k d 223 (0, [(0, .ref 177)], []) (hp s ++ x) (.inl (some (.int (Int32.ofInt q.1))), hp q.2 ++ x) := by
  unfold f_223 at h
  have hM := xM_223 k.1
  refine g_aload_n 1 hM rfl rfl rfl ?_
  refine g_aload_n 2 hM rfl rfl rfl ?_
  refine g_getI 5 21 (gI s 177 21) hM rfl rfl rfl rfl rfl rfl rfl ?_
  by_cases hc1 : (gI s 177 21) = 0
  · rw [if_pos hc1] at h
    refine g_if_ne_f 8 12 hM rfl rfl rfl (zR_gI _ _ _) hc1 ?_
    refine g_iconst 9 hM rfl rfl ?_
    refine g_goto 13 hM rfl rfl ?_
    refine g_lv [(0, .ref 177)] rfl ⟨rfl, trivial⟩ ?_
    exact wj_223_13 (by omega) h
  · rw [if_neg hc1] at h
    refine g_if_ne_t 12 hM rfl rfl (zR_gI _ _ _) hc1 ?_
    refine g_iconst 13 hM rfl rfl ?_
    refine g_lv [(0, .ref 177)] rfl ⟨rfl, trivial⟩ ?_
    exact wj_223_13 (by omega) h
def j_224_13 (t1 : Int) (s : zS) : Option (Int × zS) := if 0 < (gI (sI s 177 0 t1) 177 0) then (some (0, (sI s 177 0 t1))) else (zb (f_193 0 65535 1 (sI s 177 0 t1)) (fun r3 s4 => zb (f_222 r3 s4) (fun r6 s7 => some (r6, s7))))
theorem wj_224_13 {k : zK} {d : Nat} {x : am_H} {t1 : Int} {s : zS} {q : (Int × zS)} (hd : 8 ≤ d) (h : j_224_13 t1 s = some q) : zgo k d 224 (13, [(0, .ref 177)], [.int (Int32.ofInt t1), .ref 177]) (hp s ++ x) (.inl (some (.int (Int32.ofInt q.1))), hp q.2 ++ x) := by
  unfold j_224_13 at h
  have hM := xM_224 k.1
  refine g_putI 16 0 hM rfl rfl rfl rfl rfl rfl rfl ?_
  refine g_aload_n 17 hM rfl rfl rfl ?_
  refine g_getI 20 0 (gI (sI s 177 0 t1) 177 0) hM rfl rfl rfl rfl rfl rfl rfl ?_
  by_cases hc1 : 0 < (gI (sI s 177 0 t1) 177 0)
  · rw [if_pos hc1] at h
    refine g_if_le_f 23 27 hM rfl rfl rfl (zR_gI _ _ _) hc1 ?_
    refine g_iconst 24 hM rfl rfl ?_
    refine g_goto 40 hM rfl rfl ?_
    cases h
    exact g_ret hM rfl rfl
  · rw [if_neg hc1] at h
    refine g_if_le_t 27 hM rfl rfl (zR_gI _ _ _) hc1 ?_
    refine g_aload_n 28 hM rfl rfl rfl ?_
    refine g_aload_n 29 hM rfl rfl rfl ?_
    refine g_iconst 30 hM rfl rfl ?_
    refine g_ldcwI 33 65535 hM rfl rfl rfl (by decide) ?_
    refine g_iconst 34 hM rfl rfl ?_
    obtain ⟨r3, s4, h2, h⟩ := zb_some h
    refine g_call 37 _ [.int (Int32.ofInt r3), .ref 177] hM rfl rfl rfl rfl rfl (xM_193 _) rfl (z_rcv2 rfl) rfl rfl (by omega) (w_193 (by omega) h2) rfl ?_
    obtain ⟨r6, s7, h5, h⟩ := zb_some h
    refine g_call 40 _ [.int (Int32.ofInt r6)] hM rfl rfl rfl rfl rfl (xM_222 _) rfl (z_rcv2 rfl) rfl rfl (by omega) (w_222 (by omega) h5) rfl ?_
    cases h
    exact g_ret hM rfl rfl
/-- RelationFinderModel.check()I -/
def f_224 (s : zS) : Option (Int × zS) := if (gI s 177 19) = 0 then (j_224_13 1 s) else (j_224_13 0 s)
theorem w_224 {k : zK} {d : Nat} {x : am_H} {s : zS} {q : (Int × zS)} (hd : 8 ≤ d) (h : f_224 s = some q) : zgo k d 224 (0, [(0, .ref 177)], []) (hp s ++ x) (.inl (some (.int (Int32.ofInt q.1))), hp q.2 ++ x) := by
  unfold f_224 at h
  have hM := xM_224 k.1
  refine g_aload_n 1 hM rfl rfl rfl ?_
  refine g_aload_n 2 hM rfl rfl rfl ?_
  refine g_getI 5 19 (gI s 177 19) hM rfl rfl rfl rfl rfl rfl rfl ?_
  by_cases hc1 : (gI s 177 19) = 0
  · rw [if_pos hc1] at h
    refine g_if_ne_f 8 12 hM rfl rfl rfl (zR_gI _ _ _) hc1 ?_
    refine g_iconst 9 hM rfl rfl ?_
    refine g_goto 13 hM rfl rfl ?_
    refine g_lv [(0, .ref 177)] rfl ⟨rfl, trivial⟩ ?_
    exact wj_224_13 (by omega) h
  · rw [if_neg hc1] at h
    refine g_if_ne_t 12 hM rfl rfl (zR_gI _ _ _) hc1 ?_
    refine g_iconst 13 hM rfl rfl ?_
    refine g_lv [(0, .ref 177)] rfl ⟨rfl, trivial⟩ ?_
    exact wj_224_13 (by omega) h
def j_225_26 (v1 : Int) (v2 : Int) (t1 : Int) (s : zS) : Option (Int × zS) := if 0 < (gI (sI s 177 0 t1) 177 0) then (some (0, (sI s 177 0 t1))) else (zb (f_154 (sI s 177 0 t1)) (fun r3 s4 => zb (f_195 (gI s4 177 22) s4) (fun r6 s7 => zg (0 ≤ v1 ∧ v1 < 8) (zo (f_211 (gJ s7 196 v1) (gJ s7 197 v1) v2) (fun r10 => zg (r10 = 0 ∨ r10 = 1) (some (r10, s7)))))))
theorem wj_225_26 {k : zK} {d : Nat} {x : am_H} {v1 : Int} {v2 : Int} {t1 : Int} {s : zS} {q : (Int × zS)} (hd : 2 ≤ d) (h : j_225_26 v1 v2 t1 s = some q) : zgo k d 225 (26, [(0, .ref 177), (1, .int (Int32.ofInt v1)), (2, .int (Int32.ofInt v2))], [.int (Int32.ofInt t1), .ref 177]) (hp s ++ x) (.inl (some (.int (Int32.ofInt q.1))), hp q.2 ++ x) := by
  unfold j_225_26 at h
  have hM := xM_225 k.1
  refine g_putI 29 0 hM rfl rfl rfl rfl rfl rfl rfl ?_
  refine g_aload_n 30 hM rfl rfl rfl ?_
  refine g_getI 33 0 (gI (sI s 177 0 t1) 177 0) hM rfl rfl rfl rfl rfl rfl rfl ?_
  by_cases hc1 : 0 < (gI (sI s 177 0 t1) 177 0)
  · rw [if_pos hc1] at h
    refine g_if_le_f 36 38 hM rfl rfl rfl (zR_gI _ _ _) hc1 ?_
    refine g_iconst 37 hM rfl rfl ?_
    cases h
    exact g_ret hM rfl rfl
  · rw [if_neg hc1] at h
    refine g_if_le_t 38 hM rfl rfl (zR_gI _ _ _) hc1 ?_
    refine g_aload_n 39 hM rfl rfl rfl ?_
    obtain ⟨r3, s4, h2, h⟩ := zb_some h
    refine g_call 42 _ [] hM rfl rfl rfl rfl rfl (xM_154 _) rfl (z_rcv2 rfl) rfl rfl (by omega) (w_154 (by omega) h2) rfl ?_
    refine g_aload_n 43 hM rfl rfl rfl ?_
    refine g_aload_n 44 hM rfl rfl rfl ?_
    refine g_getI 47 22 (gI s4 177 22) hM rfl rfl rfl rfl rfl rfl rfl ?_
    obtain ⟨r6, s7, h5, h⟩ := zb_some h
    refine g_call 50 _ [] hM rfl rfl rfl rfl rfl (xM_195 _) rfl (z_rcv2 rfl) rfl rfl (by omega) (w_195 (by omega) h5) rfl ?_
    refine g_aload_n 51 hM rfl rfl rfl ?_
    refine g_getF 54 hM rfl rfl rfl rfl rfl ?_
    refine g_iload_n 55 hM rfl rfl rfl ?_
    obtain ⟨hg8, h⟩ := zg_some h
    refine g_laload 56 (gJ s7 196 v1) hM rfl rfl rfl rfl hg8 rfl ?_
    refine g_aload_n 57 hM rfl rfl rfl ?_
    refine g_getF 60 hM rfl rfl rfl rfl rfl ?_
    refine g_iload_n 61 hM rfl rfl rfl ?_
    refine g_laload 62 (gJ s7 197 v1) hM rfl rfl rfl rfl hg8 rfl ?_
    refine g_iload_n 63 hM rfl rfl rfl ?_
    obtain ⟨r10, h9, h⟩ := zo_some h
    refine g_call 66 _ [.int (Int32.ofInt r10)] hM rfl rfl rfl rfl rfl (xM_211 _) rfl rfl rfl rfl (by omega) (w_211 (by omega) h9) rfl ?_
    obtain ⟨hg11, h⟩ := zg_some h
    cases h
    exact g_ret hM rfl (z_retB hg11)
/-- RelationFinderModel.has(II)Z -/
def f_225 (v1 : Int) (v2 : Int) (s : zS) : Option (Int × zS) := zo (f_152 v1 v2 s) (fun r2 => zg (zR r2) (if r2 = 0 then (if (gI s 177 21) = 0 then (j_225_26 v1 v2 2 s) else (j_225_26 v1 v2 0 s)) else (j_225_26 v1 v2 1 s)))
theorem w_225 {k : zK} {d : Nat} {x : am_H} {v1 : Int} {v2 : Int} {s : zS} {q : (Int × zS)} (hd : 2 ≤ d) (h : f_225 v1 v2 s = some q) : zgo k d 225 (0, [(0, .ref 177), (1, .int (Int32.ofInt v1)), (2, .int (Int32.ofInt v2))], []) (hp s ++ x) (.inl (some (.int (Int32.ofInt q.1))), hp q.2 ++ x) := by
  unfold f_225 at h
  have hM := xM_225 k.1
  refine g_aload_n 1 hM rfl rfl rfl ?_
  refine g_aload_n 2 hM rfl rfl rfl ?_
  refine g_iload_n 3 hM rfl rfl rfl ?_
  refine g_iload_n 4 hM rfl rfl rfl ?_
  obtain ⟨r2, h1, h⟩ := zo_some h
  refine g_call 7 _ [.int (Int32.ofInt r2), .ref 177] hM rfl rfl rfl rfl rfl (xM_152 _) rfl (z_rcv2 rfl) rfl rfl (by omega) (w_152 (by omega) h1) rfl ?_
  obtain ⟨hg3, h⟩ := zg_some h
  by_cases hc4 : r2 = 0
  · rw [if_pos hc4] at h
    refine g_if_eq_t 14 hM rfl rfl hg3 hc4 ?_
    refine g_aload_n 15 hM rfl rfl rfl ?_
    refine g_getI 18 21 (gI s 177 21) hM rfl rfl rfl rfl rfl rfl rfl ?_
    by_cases hc5 : (gI s 177 21) = 0
    · rw [if_pos hc5] at h
      refine g_if_ne_f 21 25 hM rfl rfl rfl (zR_gI _ _ _) hc5 ?_
      refine g_iconst 22 hM rfl rfl ?_
      refine g_goto 26 hM rfl rfl ?_
      refine g_lv [(0, .ref 177), (1, .int (Int32.ofInt v1)), (2, .int (Int32.ofInt v2))] rfl ⟨rfl, rfl, rfl, trivial⟩ ?_
      exact wj_225_26 (by omega) h
    · rw [if_neg hc5] at h
      refine g_if_ne_t 25 hM rfl rfl (zR_gI _ _ _) hc5 ?_
      refine g_iconst 26 hM rfl rfl ?_
      refine g_lv [(0, .ref 177), (1, .int (Int32.ofInt v1)), (2, .int (Int32.ofInt v2))] rfl ⟨rfl, rfl, rfl, trivial⟩ ?_
      exact wj_225_26 (by omega) h
  · rw [if_neg hc4] at h
    refine g_if_eq_f 10 14 hM rfl rfl rfl hg3 hc4 ?_
    refine g_iconst 11 hM rfl rfl ?_
    refine g_goto 26 hM rfl rfl ?_
    refine g_lv [(0, .ref 177), (1, .int (Int32.ofInt v1)), (2, .int (Int32.ofInt v2))] rfl ⟨rfl, rfl, rfl, trivial⟩ ?_
    exact wj_225_26 (by omega) h
def G_226_13 (k : zK) (d : Nat) (x : am_H) (r : am_A × am_H) (e : (Int × Int × zS)) : Prop := zgo k d 226 (13, [(0, .ref 177), (1, .int (Int32.ofInt e.1)), (2, .int (Int32.ofInt e.2.1))], []) (hp e.2.2 ++ x) r
def K_226_13 (k : zK) (d : Nat) (x : am_H) (r : am_A × am_H) (t : (Int × zS)) : Prop := zgo k d 226 (48, [(1, .int (Int32.ofInt t.1))], []) (hp t.2 ++ x) r
def b_226_13 (v1 : Int) (v2 : Int) (s : zS) : Option ((Int × Int × zS) ⊕ (Int × zS)) := zg (zR v2) (zg (zR (1 * 2 ^ zsh (gI s 177 13))) (if v2 < (1 * 2 ^ zsh (gI s 177 13)) then (zb (f_194 v2 65535 s) (fun r5 s6 => zg (zR r5) (if r5 = 0 then (some (.inl (v1, (v2 + 1), s6))) else (some (.inl ((v1 + 1), (v2 + 1), s6)))))) else (some (.inr (v1, s)))))
theorem wb_226_13 {k : zK} {d : Nat} {x : am_H} {r : am_A × am_H} {v1 : Int} {v2 : Int} {s : zS} {q : (Int × Int × zS) ⊕ (Int × zS)} (hd : 7 ≤ d) (h : b_226_13 v1 v2 s = some q) (hK : Sum.elim (G_226_13 k d x r) (K_226_13 k d x r) q) : G_226_13 k d x r (v1, v2, s) := by
  unfold b_226_13 at h
  have hM := xM_226 k.1
  show zgo k d 226 (13, [(0, .ref 177), (1, .int (Int32.ofInt v1)), (2, .int (Int32.ofInt v2))], []) (hp s ++ x) r
  refine g_iload_n 14 hM rfl rfl rfl ?_
  refine g_iconst 15 hM rfl rfl ?_
  refine g_aload_n 16 hM rfl rfl rfl ?_
  refine g_getI 19 13 (gI s 177 13) hM rfl rfl rfl rfl rfl rfl rfl ?_
  refine g_ishl 20 hM rfl rfl ?_
  obtain ⟨hg1, h⟩ := zg_some h
  obtain ⟨hg2, h⟩ := zg_some h
  by_cases hc3 : v2 < (1 * 2 ^ zsh (gI s 177 13))
  · rw [if_pos hc3] at h
    refine g_ic_ge_f 23 48 hM rfl rfl rfl hg1 hg2 hc3 ?_
    refine g_aload_n 24 hM rfl rfl rfl ?_
    refine g_iload_n 25 hM rfl rfl rfl ?_
    refine g_ldcwI 28 65535 hM rfl rfl rfl (by decide) ?_
    obtain ⟨r5, s6, h4, h⟩ := zb_some h
    refine g_call 31 _ [.int (Int32.ofInt r5)] hM rfl rfl rfl rfl rfl (xM_194 _) rfl (z_rcv2 rfl) rfl rfl (by omega) (w_194 (by omega) h4) rfl ?_
    obtain ⟨hg7, h⟩ := zg_some h
    by_cases hc8 : r5 = 0
    · rw [if_pos hc8] at h
      refine g_if_eq_t 40 hM rfl rfl hg7 hc8 ?_
      refine g_iload_n 41 hM rfl rfl rfl ?_
      refine g_istore_n 42 hM rfl rfl rfl ?_
      refine g_iinc 45 hM rfl rfl rfl rfl ?_
      refine g_goto 13 hM rfl rfl ?_
      cases h
      exact g_lv [(0, .ref 177), (1, .int (Int32.ofInt v1)), (2, .int (Int32.ofInt (v2 + 1)))] rfl ⟨rfl, rfl, rfl, trivial⟩ hK
    · rw [if_neg hc8] at h
      refine g_if_eq_f 34 40 hM rfl rfl rfl hg7 hc8 ?_
      refine g_iload_n 35 hM rfl rfl rfl ?_
      refine g_iconst 36 hM rfl rfl ?_
      refine g_iadd 37 hM rfl rfl ?_
      refine g_goto 41 hM rfl rfl ?_
      refine g_istore_n 42 hM rfl rfl rfl ?_
      refine g_iinc 45 hM rfl rfl rfl rfl ?_
      refine g_goto 13 hM rfl rfl ?_
      cases h
      exact g_lv [(0, .ref 177), (1, .int (Int32.ofInt (v1 + 1))), (2, .int (Int32.ofInt (v2 + 1)))] rfl ⟨rfl, rfl, rfl, trivial⟩ hK
  · rw [if_neg hc3] at h
    refine g_ic_ge_t 48 hM rfl rfl hg1 hg2 hc3 ?_
    cases h
    exact g_lv [(1, .int (Int32.ofInt v1))] rfl ⟨rfl, trivial⟩ hK
theorem wl_226_13 {k : zK} {d : Nat} {x : am_H} {r : am_A × am_H} {n : Nat} {e : (Int × Int × zS)} {t : (Int × zS)} (hd : 7 ≤ d) (h : zlp (fun (q : Int × Int × zS) => b_226_13 q.1 q.2.1 q.2.2) n e = some t) (hK : K_226_13 k d x r t) : G_226_13 k d x r e := zlp_go (G := fun e => G_226_13 k d x r e) (K := K_226_13 k d x r) (fun e e1 h1 hg => wb_226_13 (q := .inl e1) hd h1 hg) (fun e t1 h1 hk => wb_226_13 (q := .inr t1) hd h1 hk) n e t h hK
/-- RelationFinderModel.count()I -/
def f_226 (s : zS) : Option (Int × zS) := zb (f_154 (sI s 177 0 0)) (fun r2 s3 => zo (zlp (fun (q : Int × Int × zS) => b_226_13 q.1 q.2.1 q.2.2) zF (0, 0, s3)) (fun e4 => some (e4.1, e4.2)))
theorem w_226 {k : zK} {d : Nat} {x : am_H} {s : zS} {q : (Int × zS)} (hd : 7 ≤ d) (h : f_226 s = some q) : zgo k d 226 (0, [(0, .ref 177)], []) (hp s ++ x) (.inl (some (.int (Int32.ofInt q.1))), hp q.2 ++ x) := by
  unfold f_226 at h
  have hM := xM_226 k.1
  refine g_aload_n 1 hM rfl rfl rfl ?_
  refine g_iconst 2 hM rfl rfl ?_
  refine g_putI 5 0 hM rfl rfl rfl rfl rfl rfl rfl ?_
  refine g_aload_n 6 hM rfl rfl rfl ?_
  obtain ⟨r2, s3, h1, h⟩ := zb_some h
  refine g_call 9 _ [] hM rfl rfl rfl rfl rfl (xM_154 _) rfl (z_rcv2 rfl) rfl rfl (by omega) (w_154 (by omega) h1) rfl ?_
  refine g_iconst 10 hM rfl rfl ?_
  refine g_istore_n 11 hM rfl rfl rfl ?_
  refine g_iconst 12 hM rfl rfl ?_
  refine g_istore_n 13 hM rfl rfl rfl ?_
  obtain ⟨e4, h5, h⟩ := zo_some h
  refine g_lv [(0, .ref 177), (1, .int (Int32.ofInt 0)), (2, .int (Int32.ofInt 0))] rfl ⟨rfl, rfl, rfl, trivial⟩ ?_
  refine wl_226_13 (by omega) h5 ?_
  show zgo k d 226 (48, [(1, .int (Int32.ofInt e4.1))], []) (hp e4.2 ++ x) (.inl (some (.int (Int32.ofInt q.1))), hp q.2 ++ x)
  refine g_iload_n 49 hM rfl rfl rfl ?_
  cases h
  exact g_ret hM rfl rfl
def G_228_8 (k : zK) (d : Nat) (x : am_H) (r : am_A × am_H) (e : (Int × Int × zS)) : Prop := zgo k d 228 (8, [(0, .ref 177), (1, .int (Int32.ofInt e.1)), (2, .int (Int32.ofInt e.2.1))], []) (hp e.2.2 ++ x) r
def K_228_8 (k : zK) (d : Nat) (x : am_H) (r : am_A × am_H) (t : (Int × zS)) : Prop := zgo k d 228 (51, [(1, .int (Int32.ofInt t.1))], []) (hp t.2 ++ x) r
def G_230_5 (k : zK) (d : Nat) (x : am_H) (r : am_A × am_H) (v1 : Int) (v2 : Int) (s : zS) (e : (Int × Int)) : Prop := zgo k d 230 (5, [(0, .ref 177), (1, .int (Int32.ofInt v1)), (2, .int (Int32.ofInt v2)), (3, .int (Int32.ofInt e.1)), (4, .int (Int32.ofInt e.2))], []) (hp s ++ x) r
def K_230_5 (k : zK) (d : Nat) (x : am_H) (r : am_A × am_H) (v1 : Int) (v2 : Int) (s : zS) (t : (Int)) : Prop := zgo k d 230 (27, [(0, .ref 177), (1, .int (Int32.ofInt v1)), (2, .int (Int32.ofInt v2)), (3, .int (Int32.ofInt t))], []) (hp s ++ x) r
def b_230_5 (v1 : Int) (v2 : Int) (s : zS) (v3 : Int) (v4 : Int) : Option ((Int × Int) ⊕ (Int)) := zg (zR v4) (if v4 < (gI s 177 1) then (some (.inl ((v3 * (gI s 177 1)), (v4 + 1)))) else (some (.inr v3)))
theorem wb_230_5 {k : zK} {d : Nat} {x : am_H} {r : am_A × am_H} {v1 : Int} {v2 : Int} {v3 : Int} {v4 : Int} {s : zS} {q : (Int × Int) ⊕ (Int)} (hd : 2 ≤ d) (h : b_230_5 v1 v2 s v3 v4 = some q) (hK : Sum.elim (G_230_5 k d x r v1 v2 s) (K_230_5 k d x r v1 v2 s) q) : G_230_5 k d x r v1 v2 s (v3, v4) := by
  unfold b_230_5 at h
  have hM := xM_230 k.1
  show zgo k d 230 (5, [(0, .ref 177), (1, .int (Int32.ofInt v1)), (2, .int (Int32.ofInt v2)), (3, .int (Int32.ofInt v3)), (4, .int (Int32.ofInt v4))], []) (hp s ++ x) r
  refine g_iload 7 hM rfl rfl rfl ?_
  refine g_aload_n 8 hM rfl rfl rfl ?_
  refine g_getI 11 1 (gI s 177 1) hM rfl rfl rfl rfl rfl rfl rfl ?_
  obtain ⟨hg1, h⟩ := zg_some h
  by_cases hc2 : v4 < (gI s 177 1)
  · rw [if_pos hc2] at h
    refine g_ic_ge_f 14 27 hM rfl rfl rfl hg1 (zR_gI _ _ _) hc2 ?_
    refine g_iload_n 15 hM rfl rfl rfl ?_
    refine g_aload_n 16 hM rfl rfl rfl ?_
    refine g_getI 19 1 (gI s 177 1) hM rfl rfl rfl rfl rfl rfl rfl ?_
    refine g_imul 20 hM rfl rfl ?_
    refine g_istore_n 21 hM rfl rfl rfl ?_
    refine g_iinc 24 hM rfl rfl rfl rfl ?_
    refine g_goto 5 hM rfl rfl ?_
    cases h
    exact g_lv [(0, .ref 177), (1, .int (Int32.ofInt v1)), (2, .int (Int32.ofInt v2)), (3, .int (Int32.ofInt (v3 * (gI s 177 1)))), (4, .int (Int32.ofInt (v4 + 1)))] rfl ⟨rfl, rfl, rfl, rfl, rfl, trivial⟩ hK
  · rw [if_neg hc2] at h
    refine g_ic_ge_t 27 hM rfl rfl hg1 (zR_gI _ _ _) hc2 ?_
    cases h
    exact g_lv [(0, .ref 177), (1, .int (Int32.ofInt v1)), (2, .int (Int32.ofInt v2)), (3, .int (Int32.ofInt v3))] rfl ⟨rfl, rfl, rfl, rfl, trivial⟩ hK
theorem wl_230_5 {k : zK} {d : Nat} {x : am_H} {r : am_A × am_H} {v1 : Int} {v2 : Int} {s : zS} {n : Nat} {e : (Int × Int)} {t : (Int)} (hd : 2 ≤ d) (h : zlp (fun (q : Int × Int) => b_230_5 v1 v2 s q.1 q.2) n e = some t) (hK : K_230_5 k d x r v1 v2 s t) : G_230_5 k d x r v1 v2 s e := zlp_go (G := fun e => G_230_5 k d x r v1 v2 s e) (K := K_230_5 k d x r v1 v2 s) (fun e e1 h1 hg => wb_230_5 (q := .inl e1) hd h1 hg) (fun e t1 h1 hk => wb_230_5 (q := .inr t1) hd h1 hk) n e t h hK
def G_230_33 (k : zK) (d : Nat) (x : am_H) (r : am_A × am_H) (v1 : Int) (v2 : Int) (v3 : Int) (e : (Int × Int × zS)) : Prop := zgo k d 230 (33, [(0, .ref 177), (1, .int (Int32.ofInt v1)), (2, .int (Int32.ofInt v2)), (3, .int (Int32.ofInt v3)), (4, .int (Int32.ofInt e.1)), (5, .int (Int32.ofInt e.2.1))], []) (hp e.2.2 ++ x) r
def K_230_33 (k : zK) (d : Nat) (x : am_H) (r : am_A × am_H) (v1 : Int) (v2 : Int) (v3 : Int) (t : (Int × zS)) : Prop := zgo k d 230 (145, [(4, .int (Int32.ofInt t.1))], []) (hp t.2 ++ x) r
def G_230_49 (k : zK) (d : Nat) (x : am_H) (r : am_A × am_H) (v1 : Int) (v2 : Int) (v3 : Int) (v4 : Int) (v5 : Int) (e : (Int × Int × Int × zS)) : Prop := zgo k d 230 (49, [(0, .ref 177), (1, .int (Int32.ofInt v1)), (2, .int (Int32.ofInt v2)), (3, .int (Int32.ofInt v3)), (4, .int (Int32.ofInt v4)), (5, .int (Int32.ofInt v5)), (6, .int (Int32.ofInt e.1)), (7, .int (Int32.ofInt e.2.1)), (8, .int (Int32.ofInt e.2.2.1))], []) (hp e.2.2.2 ++ x) r
def K_230_49 (k : zK) (d : Nat) (x : am_H) (r : am_A × am_H) (v1 : Int) (v2 : Int) (v3 : Int) (v4 : Int) (v5 : Int) (t : (Int × zS)) : Prop := zgo k d 230 (101, [(0, .ref 177), (1, .int (Int32.ofInt v1)), (2, .int (Int32.ofInt v2)), (3, .int (Int32.ofInt v3)), (4, .int (Int32.ofInt v4)), (5, .int (Int32.ofInt v5)), (7, .int (Int32.ofInt t.1))], []) (hp t.2 ++ x) r
def b_230_49 (v1 : Int) (v2 : Int) (v3 : Int) (v4 : Int) (v5 : Int) (v6 : Int) (v7 : Int) (v8 : Int) (s : zS) : Option ((Int × Int × Int × zS) ⊕ (Int × zS)) := zg (zR v8) (if v8 < (gI s 177 1) then (zg (0 ≤ v6 ∧ zR v6 ∧ 0 < (gI s 177 1) ∧ zR (gI s 177 1)) (zg (0 ≤ v8 ∧ v8 < 5) (some (.inl ((v6 / (gI s 177 1)), (zor v7 (1 * 2 ^ zsh (v6 % (gI s 177 1)))), (v8 + 1), (sI s 204 v8 (v6 % (gI s 177 1)))))))) else (some (.inr (v7, s))))
theorem wb_230_49 {k : zK} {d : Nat} {x : am_H} {r : am_A × am_H} {v1 : Int} {v2 : Int} {v3 : Int} {v4 : Int} {v5 : Int} {v6 : Int} {v7 : Int} {v8 : Int} {s : zS} {q : (Int × Int × Int × zS) ⊕ (Int × zS)} (hd : 2 ≤ d) (h : b_230_49 v1 v2 v3 v4 v5 v6 v7 v8 s = some q) (hK : Sum.elim (G_230_49 k d x r v1 v2 v3 v4 v5) (K_230_49 k d x r v1 v2 v3 v4 v5) q) : G_230_49 k d x r v1 v2 v3 v4 v5 (v6, v7, v8, s) := by
  unfold b_230_49 at h
  have hM := xM_230 k.1
  show zgo k d 230 (49, [(0, .ref 177), (1, .int (Int32.ofInt v1)), (2, .int (Int32.ofInt v2)), (3, .int (Int32.ofInt v3)), (4, .int (Int32.ofInt v4)), (5, .int (Int32.ofInt v5)), (6, .int (Int32.ofInt v6)), (7, .int (Int32.ofInt v7)), (8, .int (Int32.ofInt v8))], []) (hp s ++ x) r
  refine g_iload 51 hM rfl rfl rfl ?_
  refine g_aload_n 52 hM rfl rfl rfl ?_
  refine g_getI 55 1 (gI s 177 1) hM rfl rfl rfl rfl rfl rfl rfl ?_
  obtain ⟨hg1, h⟩ := zg_some h
  by_cases hc2 : v8 < (gI s 177 1)
  · rw [if_pos hc2] at h
    refine g_ic_ge_f 58 101 hM rfl rfl rfl hg1 (zR_gI _ _ _) hc2 ?_
    refine g_aload_n 59 hM rfl rfl rfl ?_
    refine g_getF 62 hM rfl rfl rfl rfl rfl ?_
    refine g_iload 64 hM rfl rfl rfl ?_
    refine g_iload 66 hM rfl rfl rfl ?_
    refine g_aload_n 67 hM rfl rfl rfl ?_
    refine g_getI 70 1 (gI s 177 1) hM rfl rfl rfl rfl rfl rfl rfl ?_
    obtain ⟨hg3, h⟩ := zg_some h
    refine g_irem 71 hM rfl rfl hg3 ?_
    obtain ⟨hg4, h⟩ := zg_some h
    refine g_iastore 72 hM rfl rfl rfl rfl hg4 ?_
    refine g_iload 74 hM rfl rfl rfl ?_
    refine g_iconst 75 hM rfl rfl ?_
    refine g_iload 77 hM rfl rfl rfl ?_
    refine g_aload_n 78 hM rfl rfl rfl ?_
    refine g_getI 81 1 (gI s 177 1) hM rfl rfl rfl rfl rfl rfl rfl ?_
    refine g_irem 82 hM rfl rfl hg3 ?_
    refine g_ishl 83 hM rfl rfl ?_
    refine g_ior 84 hM rfl rfl ?_
    refine g_istore 86 hM rfl rfl rfl ?_
    refine g_iload 88 hM rfl rfl rfl ?_
    refine g_aload_n 89 hM rfl rfl rfl ?_
    refine g_getI 92 1 (gI s 177 1) hM rfl rfl rfl rfl rfl rfl rfl ?_
    refine g_idiv 93 hM rfl rfl hg3 ?_
    refine g_istore 95 hM rfl rfl rfl ?_
    refine g_iinc 98 hM rfl rfl rfl rfl ?_
    refine g_goto 49 hM rfl rfl ?_
    cases h
    exact g_lv [(0, .ref 177), (1, .int (Int32.ofInt v1)), (2, .int (Int32.ofInt v2)), (3, .int (Int32.ofInt v3)), (4, .int (Int32.ofInt v4)), (5, .int (Int32.ofInt v5)), (6, .int (Int32.ofInt (v6 / (gI s 177 1)))), (7, .int (Int32.ofInt (zor v7 (1 * 2 ^ zsh (v6 % (gI s 177 1)))))), (8, .int (Int32.ofInt (v8 + 1)))] rfl ⟨rfl, rfl, rfl, rfl, rfl, rfl, rfl, rfl, rfl, trivial⟩ hK
  · rw [if_neg hc2] at h
    refine g_ic_ge_t 101 hM rfl rfl hg1 (zR_gI _ _ _) hc2 ?_
    cases h
    exact g_lv [(0, .ref 177), (1, .int (Int32.ofInt v1)), (2, .int (Int32.ofInt v2)), (3, .int (Int32.ofInt v3)), (4, .int (Int32.ofInt v4)), (5, .int (Int32.ofInt v5)), (7, .int (Int32.ofInt v7))] rfl ⟨rfl, rfl, rfl, rfl, rfl, rfl, rfl, trivial⟩ hK
theorem wl_230_49 {k : zK} {d : Nat} {x : am_H} {r : am_A × am_H} {v1 : Int} {v2 : Int} {v3 : Int} {v4 : Int} {v5 : Int} {n : Nat} {e : (Int × Int × Int × zS)} {t : (Int × zS)} (hd : 2 ≤ d) (h : zlp (fun (q : Int × Int × Int × zS) => b_230_49 v1 v2 v3 v4 v5 q.1 q.2.1 q.2.2.1 q.2.2.2) n e = some t) (hK : K_230_49 k d x r v1 v2 v3 v4 v5 t) : G_230_49 k d x r v1 v2 v3 v4 v5 e := zlp_go (G := fun e => G_230_49 k d x r v1 v2 v3 v4 v5 e) (K := K_230_49 k d x r v1 v2 v3 v4 v5) (fun e e1 h1 hg => wb_230_49 (q := .inl e1) hd h1 hg) (fun e t1 h1 hk => wb_230_49 (q := .inr t1) hd h1 hk) n e t h hK
def G_231_4 (k : zK) (d : Nat) (x : am_H) (r : am_A × am_H) (v1 : Int) (s : zS) (e : (Int × Int)) : Prop := zgo k d 231 (4, [(0, .ref 177), (1, .int (Int32.ofInt v1)), (2, .int (Int32.ofInt e.1)), (3, .int (Int32.ofInt e.2))], []) (hp s ++ x) r
def K_231_4 (k : zK) (d : Nat) (x : am_H) (r : am_A × am_H) (v1 : Int) (s : zS) (t : (Int)) : Prop := zgo k d 231 (89, [(2, .int (Int32.ofInt t))], []) (hp s ++ x) r
def G_231_19 (k : zK) (d : Nat) (x : am_H) (r : am_A × am_H) (v1 : Int) (v3 : Int) (s : zS) (e : (Int × Int)) : Prop := zgo k d 231 (19, [(0, .ref 177), (1, .int (Int32.ofInt v1)), (2, .int (Int32.ofInt e.1)), (3, .int (Int32.ofInt v3)), (4, .int (Int32.ofInt e.2))], []) (hp s ++ x) r
def K_231_19 (k : zK) (d : Nat) (x : am_H) (r : am_A × am_H) (v1 : Int) (v3 : Int) (s : zS) (t : (Int)) : Prop := zgo k d 231 (83, [(0, .ref 177), (1, .int (Int32.ofInt v1)), (2, .int (Int32.ofInt t)), (3, .int (Int32.ofInt v3))], []) (hp s ++ x) r
def G_232_12 (k : zK) (d : Nat) (x : am_H) (r : am_A × am_H) (v1 : Int) (v2 : Int) (s : zS) (e : (Int × Int × Int × Int)) : Prop := zgo k d 232 (12, [(0, .ref 177), (1, .int (Int32.ofInt v1)), (2, .int (Int32.ofInt v2)), (4, .int (Int32.ofInt e.1)), (5, .int (Int32.ofInt e.2.1)), (6, .int (Int32.ofInt e.2.2.1)), (7, .int (Int32.ofInt e.2.2.2))], []) (hp s ++ x) r
def K_232_12 (k : zK) (d : Nat) (x : am_H) (r : am_A × am_H) (v1 : Int) (v2 : Int) (s : zS) (t : (Int)) : Prop := zgo k d 232 (71, [(4, .int (Int32.ofInt t))], []) (hp s ++ x) r
def b_232_12 (v1 : Int) (v2 : Int) (s : zS) (v4 : Int) (v5 : Int) (v6 : Int) (v7 : Int) : Option ((Int × Int × Int × Int) ⊕ (Int)) := zg (0 ≤ v2 ∧ v2 < 8) (zg (zR v7) (if v7 < (gI s 180 v2) then (zg (0 ≤ v5 ∧ zR v5 ∧ 0 < (gI s 177 1) ∧ zR (gI s 177 1)) (zg (0 ≤ ((5 * v1) + (v5 % (gI s 177 1))) ∧ ((5 * v1) + (v5 % (gI s 177 1))) < 5) (some (.inl ((v4 + (v6 * (gI s 204 ((5 * v1) + (v5 % (gI s 177 1)))))), (v5 / (gI s 177 1)), (v6 * (gI s 177 1)), (v7 + 1)))))) else (some (.inr v4))))
theorem wb_232_12 {k : zK} {d : Nat} {x : am_H} {r : am_A × am_H} {v1 : Int} {v2 : Int} {v4 : Int} {v5 : Int} {v6 : Int} {v7 : Int} {s : zS} {q : (Int × Int × Int × Int) ⊕ (Int)} (hd : 0 ≤ d) (h : b_232_12 v1 v2 s v4 v5 v6 v7 = some q) (hK : Sum.elim (G_232_12 k d x r v1 v2 s) (K_232_12 k d x r v1 v2 s) q) : G_232_12 k d x r v1 v2 s (v4, v5, v6, v7) := by
  unfold b_232_12 at h
  have hM := xM_232 k.1
  show zgo k d 232 (12, [(0, .ref 177), (1, .int (Int32.ofInt v1)), (2, .int (Int32.ofInt v2)), (4, .int (Int32.ofInt v4)), (5, .int (Int32.ofInt v5)), (6, .int (Int32.ofInt v6)), (7, .int (Int32.ofInt v7))], []) (hp s ++ x) r
  refine g_iload 14 hM rfl rfl rfl ?_
  refine g_aload_n 15 hM rfl rfl rfl ?_
  refine g_getF 18 hM rfl rfl rfl rfl rfl ?_
  refine g_iload_n 19 hM rfl rfl rfl ?_
  obtain ⟨hg1, h⟩ := zg_some h
  refine g_iaload 20 (gI s 180 v2) hM rfl rfl rfl rfl hg1 rfl ?_
  obtain ⟨hg2, h⟩ := zg_some h
  by_cases hc3 : v7 < (gI s 180 v2)
  · rw [if_pos hc3] at h
    refine g_ic_ge_f 23 71 hM rfl rfl rfl hg2 (zR_gI _ _ _) hc3 ?_
    refine g_iload 25 hM rfl rfl rfl ?_
    refine g_iload 27 hM rfl rfl rfl ?_
    refine g_aload_n 28 hM rfl rfl rfl ?_
    refine g_getF 31 hM rfl rfl rfl rfl rfl ?_
    refine g_iconst 32 hM rfl rfl ?_
    refine g_iload_n 33 hM rfl rfl rfl ?_
    refine g_imul 34 hM rfl rfl ?_
    refine g_iload 36 hM rfl rfl rfl ?_
    refine g_aload_n 37 hM rfl rfl rfl ?_
    refine g_getI 40 1 (gI s 177 1) hM rfl rfl rfl rfl rfl rfl rfl ?_
    obtain ⟨hg4, h⟩ := zg_some h
    refine g_irem 41 hM rfl rfl hg4 ?_
    refine g_iadd 42 hM rfl rfl ?_
    obtain ⟨hg5, h⟩ := zg_some h
    refine g_iaload 43 (gI s 204 ((5 * v1) + (v5 % (gI s 177 1)))) hM rfl rfl rfl rfl hg5 rfl ?_
    refine g_imul 44 hM rfl rfl ?_
    refine g_iadd 45 hM rfl rfl ?_
    refine g_istore 47 hM rfl rfl rfl ?_
    refine g_iload 49 hM rfl rfl rfl ?_
    refine g_aload_n 50 hM rfl rfl rfl ?_
    refine g_getI 53 1 (gI s 177 1) hM rfl rfl rfl rfl rfl rfl rfl ?_
    refine g_idiv 54 hM rfl rfl hg4 ?_
    refine g_istore 56 hM rfl rfl rfl ?_
    refine g_iload 58 hM rfl rfl rfl ?_
    refine g_aload_n 59 hM rfl rfl rfl ?_
    refine g_getI 62 1 (gI s 177 1) hM rfl rfl rfl rfl rfl rfl rfl ?_
    refine g_imul 63 hM rfl rfl ?_
    refine g_istore 65 hM rfl rfl rfl ?_
    refine g_iinc 68 hM rfl rfl rfl rfl ?_
    refine g_goto 12 hM rfl rfl ?_
    cases h
    exact g_lv [(0, .ref 177), (1, .int (Int32.ofInt v1)), (2, .int (Int32.ofInt v2)), (4, .int (Int32.ofInt (v4 + (v6 * (gI s 204 ((5 * v1) + (v5 % (gI s 177 1)))))))), (5, .int (Int32.ofInt (v5 / (gI s 177 1)))), (6, .int (Int32.ofInt (v6 * (gI s 177 1)))), (7, .int (Int32.ofInt (v7 + 1)))] rfl ⟨rfl, rfl, rfl, rfl, rfl, rfl, rfl, trivial⟩ hK
  · rw [if_neg hc3] at h
    refine g_ic_ge_t 71 hM rfl rfl hg2 (zR_gI _ _ _) hc3 ?_
    cases h
    exact g_lv [(4, .int (Int32.ofInt v4))] rfl ⟨rfl, trivial⟩ hK
theorem wl_232_12 {k : zK} {d : Nat} {x : am_H} {r : am_A × am_H} {v1 : Int} {v2 : Int} {s : zS} {n : Nat} {e : (Int × Int × Int × Int)} {t : (Int)} (hd : 0 ≤ d) (h : zlp (fun (q : Int × Int × Int × Int) => b_232_12 v1 v2 s q.1 q.2.1 q.2.2.1 q.2.2.2) n e = some t) (hK : K_232_12 k d x r v1 v2 s t) : G_232_12 k d x r v1 v2 s e := zlp_go (G := fun e => G_232_12 k d x r v1 v2 s e) (K := K_232_12 k d x r v1 v2 s) (fun e e1 h1 hg => wb_232_12 (q := .inl e1) hd h1 hg) (fun e t1 h1 hk => wb_232_12 (q := .inr t1) hd h1 hk) n e t h hK
/-- RelationFinderModel.turned(III)I -/
def f_232 (v1 : Int) (v2 : Int) (v3 : Int) (s : zS) : Option Int := zo (zlp (fun (q : Int × Int × Int × Int) => b_232_12 v1 v2 s q.1 q.2.1 q.2.2.1 q.2.2.2) zF (0, v3, 1, 0)) (fun e1 => some e1)
theorem w_232 {k : zK} {d : Nat} {x : am_H} {v1 : Int} {v2 : Int} {v3 : Int} {s : zS} {q : Int} (hd : 0 ≤ d) (h : f_232 v1 v2 v3 s = some q) : zgo k d 232 (0, [(0, .ref 177), (1, .int (Int32.ofInt v1)), (2, .int (Int32.ofInt v2)), (3, .int (Int32.ofInt v3))], []) (hp s ++ x) (.inl (some (.int (Int32.ofInt q))), hp s ++ x) := by
  unfold f_232 at h
  have hM := xM_232 k.1
  refine g_iconst 1 hM rfl rfl ?_
  refine g_istore 3 hM rfl rfl rfl ?_
  refine g_iload_n 4 hM rfl rfl rfl ?_
  refine g_istore 6 hM rfl rfl rfl ?_
  refine g_iconst 7 hM rfl rfl ?_
  refine g_istore 9 hM rfl rfl rfl ?_
  refine g_iconst 10 hM rfl rfl ?_
  refine g_istore 12 hM rfl rfl rfl ?_
  obtain ⟨e1, h2, h⟩ := zo_some h
  refine g_lv [(0, .ref 177), (1, .int (Int32.ofInt v1)), (2, .int (Int32.ofInt v2)), (4, .int (Int32.ofInt 0)), (5, .int (Int32.ofInt v3)), (6, .int (Int32.ofInt 1)), (7, .int (Int32.ofInt 0))] rfl ⟨rfl, rfl, rfl, rfl, rfl, rfl, rfl, trivial⟩ ?_
  refine wl_232_12 (by omega) h2 ?_
  show zgo k d 232 (71, [(4, .int (Int32.ofInt e1))], []) (hp s ++ x) (.inl (some (.int (Int32.ofInt q))), hp s ++ x)
  refine g_iload 73 hM rfl rfl rfl ?_
  cases h
  exact g_ret hM rfl rfl
def b_231_19 (v1 : Int) (v3 : Int) (s : zS) (v2 : Int) (v4 : Int) : Option ((Int × Int) ⊕ (Int)) := zg (0 ≤ v3 ∧ v3 < 8) (zo (f_153 (gI s 180 v3) s) (fun r3 => zg (zR v4) (zg (zR r3) (if v4 < r3 then (zg (zR v2) (if v2 = 0 then (some (.inr v2)) else (zg (0 ≤ ((125 * v3) + v4) ∧ ((125 * v3) + v4) < 1000) (zo (f_232 v1 v3 v4 s) (fun r11 => zg (0 ≤ ((125 * v3) + r11) ∧ ((125 * v3) + r11) < 1000) (if (gI s 181 ((125 * v3) + v4)) = (gI s 181 ((125 * v3) + r11)) then (some (.inl (1, (v4 + 1)))) else (some (.inl (0, (v4 + 1)))))))))) else (some (.inr v2))))))
theorem wb_231_19 {k : zK} {d : Nat} {x : am_H} {r : am_A × am_H} {v1 : Int} {v3 : Int} {v2 : Int} {v4 : Int} {s : zS} {q : (Int × Int) ⊕ (Int)} (hd : 1 ≤ d) (h : b_231_19 v1 v3 s v2 v4 = some q) (hK : Sum.elim (G_231_19 k d x r v1 v3 s) (K_231_19 k d x r v1 v3 s) q) : G_231_19 k d x r v1 v3 s (v2, v4) := by
  unfold b_231_19 at h
  have hM := xM_231 k.1
  show zgo k d 231 (19, [(0, .ref 177), (1, .int (Int32.ofInt v1)), (2, .int (Int32.ofInt v2)), (3, .int (Int32.ofInt v3)), (4, .int (Int32.ofInt v4))], []) (hp s ++ x) r
  refine g_iload 21 hM rfl rfl rfl ?_
  refine g_aload_n 22 hM rfl rfl rfl ?_
  refine g_aload_n 23 hM rfl rfl rfl ?_
  refine g_getF 26 hM rfl rfl rfl rfl rfl ?_
  refine g_iload_n 27 hM rfl rfl rfl ?_
  obtain ⟨hg1, h⟩ := zg_some h
  refine g_iaload 28 (gI s 180 v3) hM rfl rfl rfl rfl hg1 rfl ?_
  obtain ⟨r3, h2, h⟩ := zo_some h
  refine g_call 31 _ [.int (Int32.ofInt r3), .int (Int32.ofInt v4)] hM rfl rfl rfl rfl rfl (xM_153 _) rfl (z_rcv2 rfl) rfl rfl (by omega) (w_153 (by omega) h2) rfl ?_
  obtain ⟨hg4, h⟩ := zg_some h
  obtain ⟨hg5, h⟩ := zg_some h
  by_cases hc6 : v4 < r3
  · rw [if_pos hc6] at h
    refine g_ic_ge_f 34 83 hM rfl rfl rfl hg4 hg5 hc6 ?_
    refine g_iload_n 35 hM rfl rfl rfl ?_
    obtain ⟨hg7, h⟩ := zg_some h
    by_cases hc8 : v2 = 0
    · rw [if_pos hc8] at h
      refine g_if_eq_t 83 hM rfl rfl hg7 hc8 ?_
      cases h
      exact g_lv [(0, .ref 177), (1, .int (Int32.ofInt v1)), (2, .int (Int32.ofInt v2)), (3, .int (Int32.ofInt v3))] rfl ⟨rfl, rfl, rfl, rfl, trivial⟩ hK
    · rw [if_neg hc8] at h
      refine g_if_eq_f 38 83 hM rfl rfl rfl hg7 hc8 ?_
      refine g_aload_n 39 hM rfl rfl rfl ?_
      refine g_getF 42 hM rfl rfl rfl rfl rfl ?_
      refine g_bipush 44 hM rfl rfl rfl ?_
      refine g_iload_n 45 hM rfl rfl rfl ?_
      refine g_imul 46 hM rfl rfl ?_
      refine g_iload 48 hM rfl rfl rfl ?_
      refine g_iadd 49 hM rfl rfl ?_
      obtain ⟨hg9, h⟩ := zg_some h
      refine g_iaload 50 (gI s 181 ((125 * v3) + v4)) hM rfl rfl rfl rfl hg9 rfl ?_
      refine g_aload_n 51 hM rfl rfl rfl ?_
      refine g_getF 54 hM rfl rfl rfl rfl rfl ?_
      refine g_bipush 56 hM rfl rfl rfl ?_
      refine g_iload_n 57 hM rfl rfl rfl ?_
      refine g_imul 58 hM rfl rfl ?_
      refine g_aload_n 59 hM rfl rfl rfl ?_
      refine g_iload_n 60 hM rfl rfl rfl ?_
      refine g_iload_n 61 hM rfl rfl rfl ?_
      refine g_iload 63 hM rfl rfl rfl ?_
      obtain ⟨r11, h10, h⟩ := zo_some h
      refine g_call 66 _ [.int (Int32.ofInt r11), .int (Int32.ofInt (125 * v3)), .ref 181, .int (Int32.ofInt (gI s 181 ((125 * v3) + v4)))] hM rfl rfl rfl rfl rfl (xM_232 _) rfl (z_rcv2 rfl) rfl rfl (by omega) (w_232 (by omega) h10) rfl ?_
      refine g_iadd 67 hM rfl rfl ?_
      obtain ⟨hg12, h⟩ := zg_some h
      refine g_iaload 68 (gI s 181 ((125 * v3) + r11)) hM rfl rfl rfl rfl hg12 rfl ?_
      by_cases hc13 : (gI s 181 ((125 * v3) + v4)) = (gI s 181 ((125 * v3) + r11))
      · rw [if_pos hc13] at h
        refine g_ic_ne_f 71 75 hM rfl rfl rfl (zR_gI _ _ _) (zR_gI _ _ _) hc13 ?_
        refine g_iconst 72 hM rfl rfl ?_
        refine g_goto 76 hM rfl rfl ?_
        refine g_istore_n 77 hM rfl rfl rfl ?_
        refine g_iinc 80 hM rfl rfl rfl rfl ?_
        refine g_goto 19 hM rfl rfl ?_
        cases h
        exact g_lv [(0, .ref 177), (1, .int (Int32.ofInt v1)), (2, .int (Int32.ofInt 1)), (3, .int (Int32.ofInt v3)), (4, .int (Int32.ofInt (v4 + 1)))] rfl ⟨rfl, rfl, rfl, rfl, rfl, trivial⟩ hK
      · rw [if_neg hc13] at h
        refine g_ic_ne_t 75 hM rfl rfl (zR_gI _ _ _) (zR_gI _ _ _) hc13 ?_
        refine g_iconst 76 hM rfl rfl ?_
        refine g_istore_n 77 hM rfl rfl rfl ?_
        refine g_iinc 80 hM rfl rfl rfl rfl ?_
        refine g_goto 19 hM rfl rfl ?_
        cases h
        exact g_lv [(0, .ref 177), (1, .int (Int32.ofInt v1)), (2, .int (Int32.ofInt 0)), (3, .int (Int32.ofInt v3)), (4, .int (Int32.ofInt (v4 + 1)))] rfl ⟨rfl, rfl, rfl, rfl, rfl, trivial⟩ hK
  · rw [if_neg hc6] at h
    refine g_ic_ge_t 83 hM rfl rfl hg4 hg5 hc6 ?_
    cases h
    exact g_lv [(0, .ref 177), (1, .int (Int32.ofInt v1)), (2, .int (Int32.ofInt v2)), (3, .int (Int32.ofInt v3))] rfl ⟨rfl, rfl, rfl, rfl, trivial⟩ hK
theorem wl_231_19 {k : zK} {d : Nat} {x : am_H} {r : am_A × am_H} {v1 : Int} {v3 : Int} {s : zS} {n : Nat} {e : (Int × Int)} {t : (Int)} (hd : 1 ≤ d) (h : zlp (fun (q : Int × Int) => b_231_19 v1 v3 s q.1 q.2) n e = some t) (hK : K_231_19 k d x r v1 v3 s t) : G_231_19 k d x r v1 v3 s e := zlp_go (G := fun e => G_231_19 k d x r v1 v3 s e) (K := K_231_19 k d x r v1 v3 s) (fun e e1 h1 hg => wb_231_19 (q := .inl e1) hd h1 hg) (fun e t1 h1 hk => wb_231_19 (q := .inr t1) hd h1 hk) n e t h hK
def b_231_4 (v1 : Int) (s : zS) (v2 : Int) (v3 : Int) : Option ((Int × Int) ⊕ (Int)) := zg (zR v3) (if v3 < (gI s 177 10) then (zg (zR v2) (if v2 = 0 then (some (.inr v2)) else (zo (zlp (fun (q : Int × Int) => b_231_19 v1 v3 s q.1 q.2) zF (v2, 0)) (fun e5 => some (.inl (e5, (v3 + 1))))))) else (some (.inr v2)))
theorem wb_231_4 {k : zK} {d : Nat} {x : am_H} {r : am_A × am_H} {v1 : Int} {v2 : Int} {v3 : Int} {s : zS} {q : (Int × Int) ⊕ (Int)} (hd : 1 ≤ d) (h : b_231_4 v1 s v2 v3 = some q) (hK : Sum.elim (G_231_4 k d x r v1 s) (K_231_4 k d x r v1 s) q) : G_231_4 k d x r v1 s (v2, v3) := by
  unfold b_231_4 at h
  have hM := xM_231 k.1
  show zgo k d 231 (4, [(0, .ref 177), (1, .int (Int32.ofInt v1)), (2, .int (Int32.ofInt v2)), (3, .int (Int32.ofInt v3))], []) (hp s ++ x) r
  refine g_iload_n 5 hM rfl rfl rfl ?_
  refine g_aload_n 6 hM rfl rfl rfl ?_
  refine g_getI 9 10 (gI s 177 10) hM rfl rfl rfl rfl rfl rfl rfl ?_
  obtain ⟨hg1, h⟩ := zg_some h
  by_cases hc2 : v3 < (gI s 177 10)
  · rw [if_pos hc2] at h
    refine g_ic_ge_f 12 89 hM rfl rfl rfl hg1 (zR_gI _ _ _) hc2 ?_
    refine g_iload_n 13 hM rfl rfl rfl ?_
    obtain ⟨hg3, h⟩ := zg_some h
    by_cases hc4 : v2 = 0
    · rw [if_pos hc4] at h
      refine g_if_eq_t 89 hM rfl rfl hg3 hc4 ?_
      cases h
      exact g_lv [(2, .int (Int32.ofInt v2))] rfl ⟨rfl, trivial⟩ hK
    · rw [if_neg hc4] at h
      refine g_if_eq_f 16 89 hM rfl rfl rfl hg3 hc4 ?_
      refine g_iconst 17 hM rfl rfl ?_
      refine g_istore 19 hM rfl rfl rfl ?_
      obtain ⟨e5, h6, h⟩ := zo_some h
      refine g_lv [(0, .ref 177), (1, .int (Int32.ofInt v1)), (2, .int (Int32.ofInt v2)), (3, .int (Int32.ofInt v3)), (4, .int (Int32.ofInt 0))] rfl ⟨rfl, rfl, rfl, rfl, rfl, trivial⟩ ?_
      refine wl_231_19 (by omega) h6 ?_
      show zgo k d 231 (83, [(0, .ref 177), (1, .int (Int32.ofInt v1)), (2, .int (Int32.ofInt e5)), (3, .int (Int32.ofInt v3))], []) (hp s ++ x) r
      refine g_iinc 86 hM rfl rfl rfl rfl ?_
      refine g_goto 4 hM rfl rfl ?_
      cases h
      exact g_lv [(0, .ref 177), (1, .int (Int32.ofInt v1)), (2, .int (Int32.ofInt e5)), (3, .int (Int32.ofInt (v3 + 1)))] rfl ⟨rfl, rfl, rfl, rfl, trivial⟩ hK
  · rw [if_neg hc2] at h
    refine g_ic_ge_t 89 hM rfl rfl hg1 (zR_gI _ _ _) hc2 ?_
    cases h
    exact g_lv [(2, .int (Int32.ofInt v2))] rfl ⟨rfl, trivial⟩ hK
theorem wl_231_4 {k : zK} {d : Nat} {x : am_H} {r : am_A × am_H} {v1 : Int} {s : zS} {n : Nat} {e : (Int × Int)} {t : (Int)} (hd : 1 ≤ d) (h : zlp (fun (q : Int × Int) => b_231_4 v1 s q.1 q.2) n e = some t) (hK : K_231_4 k d x r v1 s t) : G_231_4 k d x r v1 s e := zlp_go (G := fun e => G_231_4 k d x r v1 s e) (K := K_231_4 k d x r v1 s) (fun e e1 h1 hg => wb_231_4 (q := .inl e1) hd h1 hg) (fun e t1 h1 hk => wb_231_4 (q := .inr t1) hd h1 hk) n e t h hK
/-- RelationFinderModel.isFair(I)Z -/
def f_231 (v1 : Int) (s : zS) : Option Int := zo (zlp (fun (q : Int × Int) => b_231_4 v1 s q.1 q.2) zF (1, 0)) (fun e1 => zg (e1 = 0 ∨ e1 = 1) (some e1))
theorem w_231 {k : zK} {d : Nat} {x : am_H} {v1 : Int} {s : zS} {q : Int} (hd : 1 ≤ d) (h : f_231 v1 s = some q) : zgo k d 231 (0, [(0, .ref 177), (1, .int (Int32.ofInt v1))], []) (hp s ++ x) (.inl (some (.int (Int32.ofInt q))), hp s ++ x) := by
  unfold f_231 at h
  have hM := xM_231 k.1
  refine g_iconst 1 hM rfl rfl ?_
  refine g_istore_n 2 hM rfl rfl rfl ?_
  refine g_iconst 3 hM rfl rfl ?_
  refine g_istore_n 4 hM rfl rfl rfl ?_
  obtain ⟨e1, h2, h⟩ := zo_some h
  refine g_lv [(0, .ref 177), (1, .int (Int32.ofInt v1)), (2, .int (Int32.ofInt 1)), (3, .int (Int32.ofInt 0))] rfl ⟨rfl, rfl, rfl, rfl, trivial⟩ ?_
  refine wl_231_4 (by omega) h2 ?_
  show zgo k d 231 (89, [(2, .int (Int32.ofInt e1))], []) (hp s ++ x) (.inl (some (.int (Int32.ofInt q))), hp s ++ x)
  refine g_iload_n 90 hM rfl rfl rfl ?_
  obtain ⟨hg3, h⟩ := zg_some h
  cases h
  exact g_ret hM rfl (z_retB hg3)
def G_233_5 (k : zK) (d : Nat) (x : am_H) (r : am_A × am_H) (v1 : Int) (v2 : Int) (s : zS) (e : (Int × Int)) : Prop := zgo k d 233 (5, [(0, .ref 177), (1, .int (Int32.ofInt v1)), (2, .int (Int32.ofInt v2)), (3, .int (Int32.ofInt e.1)), (4, .int (Int32.ofInt e.2))], []) (hp s ++ x) r
def K_233_5 (k : zK) (d : Nat) (x : am_H) (r : am_A × am_H) (v1 : Int) (v2 : Int) (s : zS) (t : (Int)) : Prop := zgo k d 233 (76, [(3, .int (Int32.ofInt t))], []) (hp s ++ x) r
def G_234_2 (k : zK) (d : Nat) (x : am_H) (r : am_A × am_H) (v1 : Int) (v2 : Int) (s : zS) (e : (Int)) : Prop := zgo k d 234 (2, [(0, .ref 177), (1, .int (Int32.ofInt v1)), (2, .int (Int32.ofInt v2)), (3, .int (Int32.ofInt e))], []) (hp s ++ x) r
def K_234_2 (k : zK) (d : Nat) (x : am_H) (r : am_A × am_H) (v1 : Int) (v2 : Int) (s : zS) (t : ((Unit) ⊕ Int)) : Prop := Sum.elim (fun e => zgo k d 234 (38, [], []) (hp s ++ x) r) (fun q => r = (.inl (some (.int (Int32.ofInt q))), hp s ++ x)) t
def b_234_2 (v1 : Int) (v2 : Int) (s : zS) (v3 : Int) : Option ((Int) ⊕ ((Unit) ⊕ Int)) := zg (zR v3) (if v3 < (gI s 177 13) then (zg (0 ≤ v3 ∧ v3 < 12) (zg (zR v1) (if (gI s 182 v3) = v1 then (zg (zR v2) (if (gI s 183 v3) = v2 then (some (.inr (.inr v3))) else (some (.inl (v3 + 1))))) else (some (.inl (v3 + 1)))))) else (some (.inr (.inl ()))))
theorem wb_234_2 {k : zK} {d : Nat} {x : am_H} {r : am_A × am_H} {v1 : Int} {v2 : Int} {v3 : Int} {s : zS} {q : (Int) ⊕ ((Unit) ⊕ Int)} (hd : 0 ≤ d) (h : b_234_2 v1 v2 s v3 = some q) (hK : Sum.elim (G_234_2 k d x r v1 v2 s) (K_234_2 k d x r v1 v2 s) q) : G_234_2 k d x r v1 v2 s v3 := by
  unfold b_234_2 at h
  have hM := xM_234 k.1
  show zgo k d 234 (2, [(0, .ref 177), (1, .int (Int32.ofInt v1)), (2, .int (Int32.ofInt v2)), (3, .int (Int32.ofInt v3))], []) (hp s ++ x) r
  refine g_iload_n 3 hM rfl rfl rfl ?_
  refine g_aload_n 4 hM rfl rfl rfl ?_
  refine g_getI 7 13 (gI s 177 13) hM rfl rfl rfl rfl rfl rfl rfl ?_
  obtain ⟨hg1, h⟩ := zg_some h
  by_cases hc2 : v3 < (gI s 177 13)
  · rw [if_pos hc2] at h
    refine g_ic_ge_f 10 38 hM rfl rfl rfl hg1 (zR_gI _ _ _) hc2 ?_
    refine g_aload_n 11 hM rfl rfl rfl ?_
    refine g_getF 14 hM rfl rfl rfl rfl rfl ?_
    refine g_iload_n 15 hM rfl rfl rfl ?_
    obtain ⟨hg3, h⟩ := zg_some h
    refine g_iaload 16 (gI s 182 v3) hM rfl rfl rfl rfl hg3 rfl ?_
    refine g_iload_n 17 hM rfl rfl rfl ?_
    obtain ⟨hg4, h⟩ := zg_some h
    by_cases hc5 : (gI s 182 v3) = v1
    · rw [if_pos hc5] at h
      refine g_ic_ne_f 20 32 hM rfl rfl rfl (zR_gI _ _ _) hg4 hc5 ?_
      refine g_aload_n 21 hM rfl rfl rfl ?_
      refine g_getF 24 hM rfl rfl rfl rfl rfl ?_
      refine g_iload_n 25 hM rfl rfl rfl ?_
      refine g_iaload 26 (gI s 183 v3) hM rfl rfl rfl rfl hg3 rfl ?_
      refine g_iload_n 27 hM rfl rfl rfl ?_
      obtain ⟨hg6, h⟩ := zg_some h
      by_cases hc7 : (gI s 183 v3) = v2
      · rw [if_pos hc7] at h
        refine g_ic_ne_f 30 32 hM rfl rfl rfl (zR_gI _ _ _) hg6 hc7 ?_
        refine g_iload_n 31 hM rfl rfl rfl ?_
        cases h
        rw [show r = _ from hK]
        exact g_ret hM rfl rfl
      · rw [if_neg hc7] at h
        refine g_ic_ne_t 32 hM rfl rfl (zR_gI _ _ _) hg6 hc7 ?_
        refine g_iinc 35 hM rfl rfl rfl rfl ?_
        refine g_goto 2 hM rfl rfl ?_
        cases h
        exact g_lv [(0, .ref 177), (1, .int (Int32.ofInt v1)), (2, .int (Int32.ofInt v2)), (3, .int (Int32.ofInt (v3 + 1)))] rfl ⟨rfl, rfl, rfl, rfl, trivial⟩ hK
    · rw [if_neg hc5] at h
      refine g_ic_ne_t 32 hM rfl rfl (zR_gI _ _ _) hg4 hc5 ?_
      refine g_iinc 35 hM rfl rfl rfl rfl ?_
      refine g_goto 2 hM rfl rfl ?_
      cases h
      exact g_lv [(0, .ref 177), (1, .int (Int32.ofInt v1)), (2, .int (Int32.ofInt v2)), (3, .int (Int32.ofInt (v3 + 1)))] rfl ⟨rfl, rfl, rfl, rfl, trivial⟩ hK
  · rw [if_neg hc2] at h
    refine g_ic_ge_t 38 hM rfl rfl hg1 (zR_gI _ _ _) hc2 ?_
    cases h
    exact g_lv [] rfl trivial hK
theorem wl_234_2 {k : zK} {d : Nat} {x : am_H} {r : am_A × am_H} {v1 : Int} {v2 : Int} {s : zS} {n : Nat} {e : (Int)} {t : ((Unit) ⊕ Int)} (hd : 0 ≤ d) (h : zlp (fun (q : Int) => b_234_2 v1 v2 s q) n e = some t) (hK : K_234_2 k d x r v1 v2 s t) : G_234_2 k d x r v1 v2 s e := zlp_go (G := fun e => G_234_2 k d x r v1 v2 s e) (K := K_234_2 k d x r v1 v2 s) (fun e e1 h1 hg => wb_234_2 (q := .inl e1) hd h1 hg) (fun e t1 h1 hk => wb_234_2 (q := .inr t1) hd h1 hk) n e t h hK
/-- RelationFinderModel.freeAt(II)I -/
def f_234 (v1 : Int) (v2 : Int) (s : zS) : Option Int := zo (zlp (fun (q : Int) => b_234_2 v1 v2 s q) zF 0) (fun e1 => Sum.elim (fun e3 => some (-1)) (fun q4 => some q4) e1)
theorem w_234 {k : zK} {d : Nat} {x : am_H} {v1 : Int} {v2 : Int} {s : zS} {q : Int} (hd : 0 ≤ d) (h : f_234 v1 v2 s = some q) : zgo k d 234 (0, [(0, .ref 177), (1, .int (Int32.ofInt v1)), (2, .int (Int32.ofInt v2))], []) (hp s ++ x) (.inl (some (.int (Int32.ofInt q))), hp s ++ x) := by
  unfold f_234 at h
  have hM := xM_234 k.1
  refine g_iconst 1 hM rfl rfl ?_
  refine g_istore_n 2 hM rfl rfl rfl ?_
  obtain ⟨e1, h2, h⟩ := zo_some h
  refine g_lv [(0, .ref 177), (1, .int (Int32.ofInt v1)), (2, .int (Int32.ofInt v2)), (3, .int (Int32.ofInt 0))] rfl ⟨rfl, rfl, rfl, rfl, trivial⟩ ?_
  refine wl_234_2 (by omega) h2 ?_
  rcases e1 with e3 | q4
  · simp only [ze_l] at h
    show zgo k d 234 (38, [], []) (hp s ++ x) (.inl (some (.int (Int32.ofInt q))), hp s ++ x)
    refine g_iconst 39 hM rfl rfl ?_
    cases h
    exact g_ret hM rfl rfl
  · cases h
    rfl
def b_233_5 (v1 : Int) (v2 : Int) (s : zS) (v3 : Int) (v4 : Int) : Option ((Int × Int) ⊕ (Int)) := zg (zR v4) (if v4 < (gI s 177 13) then (zo (f_197 v2 v4 s) (fun r4 => zg (zR r4) (if r4 = 0 then (some (.inl (v3, (v4 + 1)))) else (zg (0 ≤ v4 ∧ v4 < 12) (zo (f_232 v1 (gI s 182 v4) (gI s 183 v4) s) (fun r9 => zo (f_234 (gI s 182 v4) r9 s) (fun r11 => some (.inl ((zor v3 (1 * 2 ^ zsh (((gI s 177 13) - 1) - r11))), (v4 + 1)))))))))) else (some (.inr v3)))
theorem wb_233_5 {k : zK} {d : Nat} {x : am_H} {r : am_A × am_H} {v1 : Int} {v2 : Int} {v3 : Int} {v4 : Int} {s : zS} {q : (Int × Int) ⊕ (Int)} (hd : 1 ≤ d) (h : b_233_5 v1 v2 s v3 v4 = some q) (hK : Sum.elim (G_233_5 k d x r v1 v2 s) (K_233_5 k d x r v1 v2 s) q) : G_233_5 k d x r v1 v2 s (v3, v4) := by
  unfold b_233_5 at h
  have hM := xM_233 k.1
  show zgo k d 233 (5, [(0, .ref 177), (1, .int (Int32.ofInt v1)), (2, .int (Int32.ofInt v2)), (3, .int (Int32.ofInt v3)), (4, .int (Int32.ofInt v4))], []) (hp s ++ x) r
  refine g_iload 7 hM rfl rfl rfl ?_
  refine g_aload_n 8 hM rfl rfl rfl ?_
  refine g_getI 11 13 (gI s 177 13) hM rfl rfl rfl rfl rfl rfl rfl ?_
  obtain ⟨hg1, h⟩ := zg_some h
  by_cases hc2 : v4 < (gI s 177 13)
  · rw [if_pos hc2] at h
    refine g_ic_ge_f 14 76 hM rfl rfl rfl hg1 (zR_gI _ _ _) hc2 ?_
    refine g_aload_n 15 hM rfl rfl rfl ?_
    refine g_iload_n 16 hM rfl rfl rfl ?_
    refine g_iload 18 hM rfl rfl rfl ?_
    obtain ⟨r4, h3, h⟩ := zo_some h
    refine g_call 21 _ [.int (Int32.ofInt r4)] hM rfl rfl rfl rfl rfl (xM_197 _) rfl (z_rcv2 rfl) rfl rfl (by omega) (w_197 (by omega) h3) rfl ?_
    obtain ⟨hg5, h⟩ := zg_some h
    by_cases hc6 : r4 = 0
    · rw [if_pos hc6] at h
      refine g_if_eq_t 70 hM rfl rfl hg5 hc6 ?_
      refine g_iinc 73 hM rfl rfl rfl rfl ?_
      refine g_goto 5 hM rfl rfl ?_
      cases h
      exact g_lv [(0, .ref 177), (1, .int (Int32.ofInt v1)), (2, .int (Int32.ofInt v2)), (3, .int (Int32.ofInt v3)), (4, .int (Int32.ofInt (v4 + 1)))] rfl ⟨rfl, rfl, rfl, rfl, rfl, trivial⟩ hK
    · rw [if_neg hc6] at h
      refine g_if_eq_f 24 70 hM rfl rfl rfl hg5 hc6 ?_
      refine g_aload_n 25 hM rfl rfl rfl ?_
      refine g_aload_n 26 hM rfl rfl rfl ?_
      refine g_getF 29 hM rfl rfl rfl rfl rfl ?_
      refine g_iload 31 hM rfl rfl rfl ?_
      obtain ⟨hg7, h⟩ := zg_some h
      refine g_iaload 32 (gI s 182 v4) hM rfl rfl rfl rfl hg7 rfl ?_
      refine g_aload_n 33 hM rfl rfl rfl ?_
      refine g_iload_n 34 hM rfl rfl rfl ?_
      refine g_aload_n 35 hM rfl rfl rfl ?_
      refine g_getF 38 hM rfl rfl rfl rfl rfl ?_
      refine g_iload 40 hM rfl rfl rfl ?_
      refine g_iaload 41 (gI s 182 v4) hM rfl rfl rfl rfl hg7 rfl ?_
      refine g_aload_n 42 hM rfl rfl rfl ?_
      refine g_getF 45 hM rfl rfl rfl rfl rfl ?_
      refine g_iload 47 hM rfl rfl rfl ?_
      refine g_iaload 48 (gI s 183 v4) hM rfl rfl rfl rfl hg7 rfl ?_
      obtain ⟨r9, h8, h⟩ := zo_some h
      refine g_call 51 _ [.int (Int32.ofInt r9), .int (Int32.ofInt (gI s 182 v4)), .ref 177] hM rfl rfl rfl rfl rfl (xM_232 _) rfl (z_rcv2 rfl) rfl rfl (by omega) (w_232 (by omega) h8) rfl ?_
      obtain ⟨r11, h10, h⟩ := zo_some h
      refine g_call 54 _ [.int (Int32.ofInt r11)] hM rfl rfl rfl rfl rfl (xM_234 _) rfl (z_rcv2 rfl) rfl rfl (by omega) (w_234 (by omega) h10) rfl ?_
      refine g_istore 56 hM rfl rfl rfl ?_
      refine g_iload_n 57 hM rfl rfl rfl ?_
      refine g_iconst 58 hM rfl rfl ?_
      refine g_aload_n 59 hM rfl rfl rfl ?_
      refine g_getI 62 13 (gI s 177 13) hM rfl rfl rfl rfl rfl rfl rfl ?_
      refine g_iconst 63 hM rfl rfl ?_
      refine g_isub 64 hM rfl rfl ?_
      refine g_iload 66 hM rfl rfl rfl ?_
      refine g_isub 67 hM rfl rfl ?_
      refine g_ishl 68 hM rfl rfl ?_
      refine g_ior 69 hM rfl rfl ?_
      refine g_istore_n 70 hM rfl rfl rfl ?_
      refine g_iinc 73 hM rfl rfl rfl rfl ?_
      refine g_goto 5 hM rfl rfl ?_
      cases h
      exact g_lv [(0, .ref 177), (1, .int (Int32.ofInt v1)), (2, .int (Int32.ofInt v2)), (3, .int (Int32.ofInt (zor v3 (1 * 2 ^ zsh (((gI s 177 13) - 1) - r11))))), (4, .int (Int32.ofInt (v4 + 1)))] rfl ⟨rfl, rfl, rfl, rfl, rfl, trivial⟩ hK
  · rw [if_neg hc2] at h
    refine g_ic_ge_t 76 hM rfl rfl hg1 (zR_gI _ _ _) hc2 ?_
    cases h
    exact g_lv [(3, .int (Int32.ofInt v3))] rfl ⟨rfl, trivial⟩ hK
theorem wl_233_5 {k : zK} {d : Nat} {x : am_H} {r : am_A × am_H} {v1 : Int} {v2 : Int} {s : zS} {n : Nat} {e : (Int × Int)} {t : (Int)} (hd : 1 ≤ d) (h : zlp (fun (q : Int × Int) => b_233_5 v1 v2 s q.1 q.2) n e = some t) (hK : K_233_5 k d x r v1 v2 s t) : G_233_5 k d x r v1 v2 s e := zlp_go (G := fun e => G_233_5 k d x r v1 v2 s e) (K := K_233_5 k d x r v1 v2 s) (fun e e1 h1 hg => wb_233_5 (q := .inl e1) hd h1 hg) (fun e t1 h1 hk => wb_233_5 (q := .inr t1) hd h1 hk) n e t h hK
/-- RelationFinderModel.image(II)I -/
def f_233 (v1 : Int) (v2 : Int) (s : zS) : Option Int := zo (zlp (fun (q : Int × Int) => b_233_5 v1 v2 s q.1 q.2) zF (0, 0)) (fun e1 => some e1)
theorem w_233 {k : zK} {d : Nat} {x : am_H} {v1 : Int} {v2 : Int} {s : zS} {q : Int} (hd : 1 ≤ d) (h : f_233 v1 v2 s = some q) : zgo k d 233 (0, [(0, .ref 177), (1, .int (Int32.ofInt v1)), (2, .int (Int32.ofInt v2))], []) (hp s ++ x) (.inl (some (.int (Int32.ofInt q))), hp s ++ x) := by
  unfold f_233 at h
  have hM := xM_233 k.1
  refine g_iconst 1 hM rfl rfl ?_
  refine g_istore_n 2 hM rfl rfl rfl ?_
  refine g_iconst 3 hM rfl rfl ?_
  refine g_istore 5 hM rfl rfl rfl ?_
  obtain ⟨e1, h2, h⟩ := zo_some h
  refine g_lv [(0, .ref 177), (1, .int (Int32.ofInt v1)), (2, .int (Int32.ofInt v2)), (3, .int (Int32.ofInt 0)), (4, .int (Int32.ofInt 0))] rfl ⟨rfl, rfl, rfl, rfl, rfl, trivial⟩ ?_
  refine wl_233_5 (by omega) h2 ?_
  show zgo k d 233 (76, [(3, .int (Int32.ofInt e1))], []) (hp s ++ x) (.inl (some (.int (Int32.ofInt q))), hp s ++ x)
  refine g_iload_n 77 hM rfl rfl rfl ?_
  cases h
  exact g_ret hM rfl rfl
def b_230_33 (v1 : Int) (v2 : Int) (v3 : Int) (v4 : Int) (v5 : Int) (s : zS) : Option ((Int × Int × zS) ⊕ (Int × zS)) := zg (zR v5) (zg (zR v3) (if v5 < v3 then (zo (zlp (fun (q : Int × Int × Int × zS) => b_230_49 v1 v2 v3 v4 v5 q.1 q.2.1 q.2.2.1 q.2.2.2) zF (v5, 0, 0, s)) (fun e4 => zg (zR e4.1) (zg (zR ((1 * 2 ^ zsh (gI e4.2 177 1)) - 1)) (if e4.1 = ((1 * 2 ^ zsh (gI e4.2 177 1)) - 1) then (zo (f_231 0 e4.2) (fun r10 => zg (zR r10) (if r10 = 0 then (some (.inl (v4, (v5 + 1), e4.2))) else (zg (zR v2) (if v2 = 0 then (zo (f_233 0 v1 e4.2) (fun r16 => zg (zR r16) (zg (zR v1) (if r16 < v1 then (some (.inl ((v4 + 1), (v5 + 1), e4.2))) else (some (.inl (v4, (v5 + 1), e4.2))))))) else (some (.inl ((v4 + 1), (v5 + 1), e4.2)))))))) else (some (.inl (v4, (v5 + 1), e4.2))))))) else (some (.inr (v4, s)))))
theorem wb_230_33 {k : zK} {d : Nat} {x : am_H} {r : am_A × am_H} {v1 : Int} {v2 : Int} {v3 : Int} {v4 : Int} {v5 : Int} {s : zS} {q : (Int × Int × zS) ⊕ (Int × zS)} (hd : 2 ≤ d) (h : b_230_33 v1 v2 v3 v4 v5 s = some q) (hK : Sum.elim (G_230_33 k d x r v1 v2 v3) (K_230_33 k d x r v1 v2 v3) q) : G_230_33 k d x r v1 v2 v3 (v4, v5, s) := by
  unfold b_230_33 at h
  have hM := xM_230 k.1
  show zgo k d 230 (33, [(0, .ref 177), (1, .int (Int32.ofInt v1)), (2, .int (Int32.ofInt v2)), (3, .int (Int32.ofInt v3)), (4, .int (Int32.ofInt v4)), (5, .int (Int32.ofInt v5))], []) (hp s ++ x) r
  refine g_iload 35 hM rfl rfl rfl ?_
  refine g_iload_n 36 hM rfl rfl rfl ?_
  obtain ⟨hg1, h⟩ := zg_some h
  obtain ⟨hg2, h⟩ := zg_some h
  by_cases hc3 : v5 < v3
  · rw [if_pos hc3] at h
    refine g_ic_ge_f 39 145 hM rfl rfl rfl hg1 hg2 hc3 ?_
    refine g_iload 41 hM rfl rfl rfl ?_
    refine g_istore 43 hM rfl rfl rfl ?_
    refine g_iconst 44 hM rfl rfl ?_
    refine g_istore 46 hM rfl rfl rfl ?_
    refine g_iconst 47 hM rfl rfl ?_
    refine g_istore 49 hM rfl rfl rfl ?_
    obtain ⟨e4, h5, h⟩ := zo_some h
    refine g_lv [(0, .ref 177), (1, .int (Int32.ofInt v1)), (2, .int (Int32.ofInt v2)), (3, .int (Int32.ofInt v3)), (4, .int (Int32.ofInt v4)), (5, .int (Int32.ofInt v5)), (6, .int (Int32.ofInt v5)), (7, .int (Int32.ofInt 0)), (8, .int (Int32.ofInt 0))] rfl ⟨rfl, rfl, rfl, rfl, rfl, rfl, rfl, rfl, rfl, trivial⟩ ?_
    refine wl_230_49 (by omega) h5 ?_
    show zgo k d 230 (101, [(0, .ref 177), (1, .int (Int32.ofInt v1)), (2, .int (Int32.ofInt v2)), (3, .int (Int32.ofInt v3)), (4, .int (Int32.ofInt v4)), (5, .int (Int32.ofInt v5)), (7, .int (Int32.ofInt e4.1))], []) (hp e4.2 ++ x) r
    refine g_iload 103 hM rfl rfl rfl ?_
    refine g_iconst 104 hM rfl rfl ?_
    refine g_aload_n 105 hM rfl rfl rfl ?_
    refine g_getI 108 1 (gI e4.2 177 1) hM rfl rfl rfl rfl rfl rfl rfl ?_
    refine g_ishl 109 hM rfl rfl ?_
    refine g_iconst 110 hM rfl rfl ?_
    refine g_isub 111 hM rfl rfl ?_
    obtain ⟨hg6, h⟩ := zg_some h
    obtain ⟨hg7, h⟩ := zg_some h
    by_cases hc8 : e4.1 = ((1 * 2 ^ zsh (gI e4.2 177 1)) - 1)
    · rw [if_pos hc8] at h
      refine g_ic_ne_f 114 139 hM rfl rfl rfl hg6 hg7 hc8 ?_
      refine g_aload_n 115 hM rfl rfl rfl ?_
      refine g_iconst 116 hM rfl rfl ?_
      obtain ⟨r10, h9, h⟩ := zo_some h
      refine g_call 119 _ [.int (Int32.ofInt r10)] hM rfl rfl rfl rfl rfl (xM_231 _) rfl (z_rcv2 rfl) rfl rfl (by omega) (w_231 (by omega) h9) rfl ?_
      obtain ⟨hg11, h⟩ := zg_some h
      by_cases hc12 : r10 = 0
      · rw [if_pos hc12] at h
        refine g_if_eq_t 139 hM rfl rfl hg11 hc12 ?_
        refine g_iinc 142 hM rfl rfl rfl rfl ?_
        refine g_goto 33 hM rfl rfl ?_
        cases h
        exact g_lv [(0, .ref 177), (1, .int (Int32.ofInt v1)), (2, .int (Int32.ofInt v2)), (3, .int (Int32.ofInt v3)), (4, .int (Int32.ofInt v4)), (5, .int (Int32.ofInt (v5 + 1)))] rfl ⟨rfl, rfl, rfl, rfl, rfl, rfl, trivial⟩ hK
      · rw [if_neg hc12] at h
        refine g_if_eq_f 122 139 hM rfl rfl rfl hg11 hc12 ?_
        refine g_iload_n 123 hM rfl rfl rfl ?_
        obtain ⟨hg13, h⟩ := zg_some h
        by_cases hc14 : v2 = 0
        · rw [if_pos hc14] at h
          refine g_if_ne_f 126 136 hM rfl rfl rfl hg13 hc14 ?_
          refine g_aload_n 127 hM rfl rfl rfl ?_
          refine g_iconst 128 hM rfl rfl ?_
          refine g_iload_n 129 hM rfl rfl rfl ?_
          obtain ⟨r16, h15, h⟩ := zo_some h
          refine g_call 132 _ [.int (Int32.ofInt r16)] hM rfl rfl rfl rfl rfl (xM_233 _) rfl (z_rcv2 rfl) rfl rfl (by omega) (w_233 (by omega) h15) rfl ?_
          refine g_iload_n 133 hM rfl rfl rfl ?_
          obtain ⟨hg17, h⟩ := zg_some h
          obtain ⟨hg18, h⟩ := zg_some h
          by_cases hc19 : r16 < v1
          · rw [if_pos hc19] at h
            refine g_ic_ge_f 136 139 hM rfl rfl rfl hg17 hg18 hc19 ?_
            refine g_iinc 139 hM rfl rfl rfl rfl ?_
            refine g_iinc 142 hM rfl rfl rfl rfl ?_
            refine g_goto 33 hM rfl rfl ?_
            cases h
            exact g_lv [(0, .ref 177), (1, .int (Int32.ofInt v1)), (2, .int (Int32.ofInt v2)), (3, .int (Int32.ofInt v3)), (4, .int (Int32.ofInt (v4 + 1))), (5, .int (Int32.ofInt (v5 + 1)))] rfl ⟨rfl, rfl, rfl, rfl, rfl, rfl, trivial⟩ hK
          · rw [if_neg hc19] at h
            refine g_ic_ge_t 139 hM rfl rfl hg17 hg18 hc19 ?_
            refine g_iinc 142 hM rfl rfl rfl rfl ?_
            refine g_goto 33 hM rfl rfl ?_
            cases h
            exact g_lv [(0, .ref 177), (1, .int (Int32.ofInt v1)), (2, .int (Int32.ofInt v2)), (3, .int (Int32.ofInt v3)), (4, .int (Int32.ofInt v4)), (5, .int (Int32.ofInt (v5 + 1)))] rfl ⟨rfl, rfl, rfl, rfl, rfl, rfl, trivial⟩ hK
        · rw [if_neg hc14] at h
          refine g_if_ne_t 136 hM rfl rfl hg13 hc14 ?_
          refine g_iinc 139 hM rfl rfl rfl rfl ?_
          refine g_iinc 142 hM rfl rfl rfl rfl ?_
          refine g_goto 33 hM rfl rfl ?_
          cases h
          exact g_lv [(0, .ref 177), (1, .int (Int32.ofInt v1)), (2, .int (Int32.ofInt v2)), (3, .int (Int32.ofInt v3)), (4, .int (Int32.ofInt (v4 + 1))), (5, .int (Int32.ofInt (v5 + 1)))] rfl ⟨rfl, rfl, rfl, rfl, rfl, rfl, trivial⟩ hK
    · rw [if_neg hc8] at h
      refine g_ic_ne_t 139 hM rfl rfl hg6 hg7 hc8 ?_
      refine g_iinc 142 hM rfl rfl rfl rfl ?_
      refine g_goto 33 hM rfl rfl ?_
      cases h
      exact g_lv [(0, .ref 177), (1, .int (Int32.ofInt v1)), (2, .int (Int32.ofInt v2)), (3, .int (Int32.ofInt v3)), (4, .int (Int32.ofInt v4)), (5, .int (Int32.ofInt (v5 + 1)))] rfl ⟨rfl, rfl, rfl, rfl, rfl, rfl, trivial⟩ hK
  · rw [if_neg hc3] at h
    refine g_ic_ge_t 145 hM rfl rfl hg1 hg2 hc3 ?_
    cases h
    exact g_lv [(4, .int (Int32.ofInt v4))] rfl ⟨rfl, trivial⟩ hK
theorem wl_230_33 {k : zK} {d : Nat} {x : am_H} {r : am_A × am_H} {v1 : Int} {v2 : Int} {v3 : Int} {n : Nat} {e : (Int × Int × zS)} {t : (Int × zS)} (hd : 2 ≤ d) (h : zlp (fun (q : Int × Int × zS) => b_230_33 v1 v2 v3 q.1 q.2.1 q.2.2) n e = some t) (hK : K_230_33 k d x r v1 v2 v3 t) : G_230_33 k d x r v1 v2 v3 e := zlp_go (G := fun e => G_230_33 k d x r v1 v2 v3 e) (K := K_230_33 k d x r v1 v2 v3) (fun e e1 h1 hg => wb_230_33 (q := .inl e1) hd h1 hg) (fun e t1 h1 hk => wb_230_33 (q := .inr t1) hd h1 hk) n e t h hK
/-- RelationFinderModel.least(IZ)I -/
def f_230 (v1 : Int) (v2 : Int) (s : zS) : Option (Int × zS) := zo (zlp (fun (q : Int × Int) => b_230_5 v1 v2 s q.1 q.2) zF (1, 0)) (fun e1 => zo (zlp (fun (q : Int × Int × zS) => b_230_33 v1 v2 e1 q.1 q.2.1 q.2.2) zF (0, 0, s)) (fun e3 => some (e3.1, e3.2)))
theorem w_230 {k : zK} {d : Nat} {x : am_H} {v1 : Int} {v2 : Int} {s : zS} {q : (Int × zS)} (hd : 2 ≤ d) (h : f_230 v1 v2 s = some q) : zgo k d 230 (0, [(0, .ref 177), (1, .int (Int32.ofInt v1)), (2, .int (Int32.ofInt v2))], []) (hp s ++ x) (.inl (some (.int (Int32.ofInt q.1))), hp q.2 ++ x) := by
  unfold f_230 at h
  have hM := xM_230 k.1
  refine g_iconst 1 hM rfl rfl ?_
  refine g_istore_n 2 hM rfl rfl rfl ?_
  refine g_iconst 3 hM rfl rfl ?_
  refine g_istore 5 hM rfl rfl rfl ?_
  obtain ⟨e1, h2, h⟩ := zo_some h
  refine g_lv [(0, .ref 177), (1, .int (Int32.ofInt v1)), (2, .int (Int32.ofInt v2)), (3, .int (Int32.ofInt 1)), (4, .int (Int32.ofInt 0))] rfl ⟨rfl, rfl, rfl, rfl, rfl, trivial⟩ ?_
  refine wl_230_5 (by omega) h2 ?_
  show zgo k d 230 (27, [(0, .ref 177), (1, .int (Int32.ofInt v1)), (2, .int (Int32.ofInt v2)), (3, .int (Int32.ofInt e1))], []) (hp s ++ x) (.inl (some (.int (Int32.ofInt q.1))), hp q.2 ++ x)
  refine g_iconst 28 hM rfl rfl ?_
  refine g_istore 30 hM rfl rfl rfl ?_
  refine g_iconst 31 hM rfl rfl ?_
  refine g_istore 33 hM rfl rfl rfl ?_
  obtain ⟨e3, h4, h⟩ := zo_some h
  refine g_lv [(0, .ref 177), (1, .int (Int32.ofInt v1)), (2, .int (Int32.ofInt v2)), (3, .int (Int32.ofInt e1)), (4, .int (Int32.ofInt 0)), (5, .int (Int32.ofInt 0))] rfl ⟨rfl, rfl, rfl, rfl, rfl, rfl, trivial⟩ ?_
  refine wl_230_33 (by omega) h4 ?_
  show zgo k d 230 (145, [(4, .int (Int32.ofInt e3.1))], []) (hp e3.2 ++ x) (.inl (some (.int (Int32.ofInt q.1))), hp q.2 ++ x)
  refine g_iload 147 hM rfl rfl rfl ?_
  cases h
  exact g_ret hM rfl rfl
/-- RelationFinderModel.isLeast(I)Z -/
def f_229 (v1 : Int) (s : zS) : Option (Int × zS) := zb (f_230 v1 0 s) (fun r2 s3 => zg (zR r2) (if r2 = 0 then (some (1, s3)) else (some (0, s3))))
theorem w_229 {k : zK} {d : Nat} {x : am_H} {v1 : Int} {s : zS} {q : (Int × zS)} (hd : 3 ≤ d) (h : f_229 v1 s = some q) : zgo k d 229 (0, [(0, .ref 177), (1, .int (Int32.ofInt v1))], []) (hp s ++ x) (.inl (some (.int (Int32.ofInt q.1))), hp q.2 ++ x) := by
  unfold f_229 at h
  have hM := xM_229 k.1
  refine g_aload_n 1 hM rfl rfl rfl ?_
  refine g_iload_n 2 hM rfl rfl rfl ?_
  refine g_iconst 3 hM rfl rfl ?_
  obtain ⟨r2, s3, h1, h⟩ := zb_some h
  refine g_call 6 _ [.int (Int32.ofInt r2)] hM rfl rfl rfl rfl rfl (xM_230 _) rfl (z_rcv2 rfl) rfl rfl (by omega) (w_230 (by omega) h1) rfl ?_
  obtain ⟨hg4, h⟩ := zg_some h
  by_cases hc5 : r2 = 0
  · rw [if_pos hc5] at h
    refine g_if_ne_f 9 13 hM rfl rfl rfl hg4 hc5 ?_
    refine g_iconst 10 hM rfl rfl ?_
    refine g_goto 14 hM rfl rfl ?_
    cases h
    exact g_ret hM rfl rfl
  · rw [if_neg hc5] at h
    refine g_if_ne_t 13 hM rfl rfl hg4 hc5 ?_
    refine g_iconst 14 hM rfl rfl ?_
    cases h
    exact g_ret hM rfl rfl
def b_228_8 (v1 : Int) (v2 : Int) (s : zS) : Option ((Int × Int × zS) ⊕ (Int × zS)) := zg (zR v2) (zg (zR (1 * 2 ^ zsh (gI s 177 13))) (if v2 < (1 * 2 ^ zsh (gI s 177 13)) then (zb (f_194 v2 65535 s) (fun r5 s6 => zg (zR r5) (if r5 = 0 then (some (.inl (v1, (v2 + 1), s6))) else (zb (f_229 v2 s6) (fun r10 s11 => zg (zR r10) (if r10 = 0 then (some (.inl (v1, (v2 + 1), s11))) else (some (.inl ((v1 + 1), (v2 + 1), s11))))))))) else (some (.inr (v1, s)))))
theorem wb_228_8 {k : zK} {d : Nat} {x : am_H} {r : am_A × am_H} {v1 : Int} {v2 : Int} {s : zS} {q : (Int × Int × zS) ⊕ (Int × zS)} (hd : 7 ≤ d) (h : b_228_8 v1 v2 s = some q) (hK : Sum.elim (G_228_8 k d x r) (K_228_8 k d x r) q) : G_228_8 k d x r (v1, v2, s) := by
  unfold b_228_8 at h
  have hM := xM_228 k.1
  show zgo k d 228 (8, [(0, .ref 177), (1, .int (Int32.ofInt v1)), (2, .int (Int32.ofInt v2))], []) (hp s ++ x) r
  refine g_iload_n 9 hM rfl rfl rfl ?_
  refine g_iconst 10 hM rfl rfl ?_
  refine g_aload_n 11 hM rfl rfl rfl ?_
  refine g_getI 14 13 (gI s 177 13) hM rfl rfl rfl rfl rfl rfl rfl ?_
  refine g_ishl 15 hM rfl rfl ?_
  obtain ⟨hg1, h⟩ := zg_some h
  obtain ⟨hg2, h⟩ := zg_some h
  by_cases hc3 : v2 < (1 * 2 ^ zsh (gI s 177 13))
  · rw [if_pos hc3] at h
    refine g_ic_ge_f 18 51 hM rfl rfl rfl hg1 hg2 hc3 ?_
    refine g_aload_n 19 hM rfl rfl rfl ?_
    refine g_iload_n 20 hM rfl rfl rfl ?_
    refine g_ldcwI 23 65535 hM rfl rfl rfl (by decide) ?_
    obtain ⟨r5, s6, h4, h⟩ := zb_some h
    refine g_call 26 _ [.int (Int32.ofInt r5)] hM rfl rfl rfl rfl rfl (xM_194 _) rfl (z_rcv2 rfl) rfl rfl (by omega) (w_194 (by omega) h4) rfl ?_
    obtain ⟨hg7, h⟩ := zg_some h
    by_cases hc8 : r5 = 0
    · rw [if_pos hc8] at h
      refine g_if_eq_t 43 hM rfl rfl hg7 hc8 ?_
      refine g_iload_n 44 hM rfl rfl rfl ?_
      refine g_istore_n 45 hM rfl rfl rfl ?_
      refine g_iinc 48 hM rfl rfl rfl rfl ?_
      refine g_goto 8 hM rfl rfl ?_
      cases h
      exact g_lv [(0, .ref 177), (1, .int (Int32.ofInt v1)), (2, .int (Int32.ofInt (v2 + 1)))] rfl ⟨rfl, rfl, rfl, trivial⟩ hK
    · rw [if_neg hc8] at h
      refine g_if_eq_f 29 43 hM rfl rfl rfl hg7 hc8 ?_
      refine g_aload_n 30 hM rfl rfl rfl ?_
      refine g_iload_n 31 hM rfl rfl rfl ?_
      obtain ⟨r10, s11, h9, h⟩ := zb_some h
      refine g_call 34 _ [.int (Int32.ofInt r10)] hM rfl rfl rfl rfl rfl (xM_229 _) rfl (z_rcv2 rfl) rfl rfl (by omega) (w_229 (by omega) h9) rfl ?_
      obtain ⟨hg12, h⟩ := zg_some h
      by_cases hc13 : r10 = 0
      · rw [if_pos hc13] at h
        refine g_if_eq_t 43 hM rfl rfl hg12 hc13 ?_
        refine g_iload_n 44 hM rfl rfl rfl ?_
        refine g_istore_n 45 hM rfl rfl rfl ?_
        refine g_iinc 48 hM rfl rfl rfl rfl ?_
        refine g_goto 8 hM rfl rfl ?_
        cases h
        exact g_lv [(0, .ref 177), (1, .int (Int32.ofInt v1)), (2, .int (Int32.ofInt (v2 + 1)))] rfl ⟨rfl, rfl, rfl, trivial⟩ hK
      · rw [if_neg hc13] at h
        refine g_if_eq_f 37 43 hM rfl rfl rfl hg12 hc13 ?_
        refine g_iload_n 38 hM rfl rfl rfl ?_
        refine g_iconst 39 hM rfl rfl ?_
        refine g_iadd 40 hM rfl rfl ?_
        refine g_goto 44 hM rfl rfl ?_
        refine g_istore_n 45 hM rfl rfl rfl ?_
        refine g_iinc 48 hM rfl rfl rfl rfl ?_
        refine g_goto 8 hM rfl rfl ?_
        cases h
        exact g_lv [(0, .ref 177), (1, .int (Int32.ofInt (v1 + 1))), (2, .int (Int32.ofInt (v2 + 1)))] rfl ⟨rfl, rfl, rfl, trivial⟩ hK
  · rw [if_neg hc3] at h
    refine g_ic_ge_t 51 hM rfl rfl hg1 hg2 hc3 ?_
    cases h
    exact g_lv [(1, .int (Int32.ofInt v1))] rfl ⟨rfl, trivial⟩ hK
theorem wl_228_8 {k : zK} {d : Nat} {x : am_H} {r : am_A × am_H} {n : Nat} {e : (Int × Int × zS)} {t : (Int × zS)} (hd : 7 ≤ d) (h : zlp (fun (q : Int × Int × zS) => b_228_8 q.1 q.2.1 q.2.2) n e = some t) (hK : K_228_8 k d x r t) : G_228_8 k d x r e := zlp_go (G := fun e => G_228_8 k d x r e) (K := K_228_8 k d x r) (fun e e1 h1 hg => wb_228_8 (q := .inl e1) hd h1 hg) (fun e t1 h1 hk => wb_228_8 (q := .inr t1) hd h1 hk) n e t h hK
/-- RelationFinderModel.leastOnes()I -/
def f_228 (s : zS) : Option (Int × zS) := zb (f_154 s) (fun r2 s3 => zo (zlp (fun (q : Int × Int × zS) => b_228_8 q.1 q.2.1 q.2.2) zF (0, 0, s3)) (fun e4 => some (e4.1, e4.2)))
theorem w_228 {k : zK} {d : Nat} {x : am_H} {s : zS} {q : (Int × zS)} (hd : 7 ≤ d) (h : f_228 s = some q) : zgo k d 228 (0, [(0, .ref 177)], []) (hp s ++ x) (.inl (some (.int (Int32.ofInt q.1))), hp q.2 ++ x) := by
  unfold f_228 at h
  have hM := xM_228 k.1
  refine g_aload_n 1 hM rfl rfl rfl ?_
  obtain ⟨r2, s3, h1, h⟩ := zb_some h
  refine g_call 4 _ [] hM rfl rfl rfl rfl rfl (xM_154 _) rfl (z_rcv2 rfl) rfl rfl (by omega) (w_154 (by omega) h1) rfl ?_
  refine g_iconst 5 hM rfl rfl ?_
  refine g_istore_n 6 hM rfl rfl rfl ?_
  refine g_iconst 7 hM rfl rfl ?_
  refine g_istore_n 8 hM rfl rfl rfl ?_
  obtain ⟨e4, h5, h⟩ := zo_some h
  refine g_lv [(0, .ref 177), (1, .int (Int32.ofInt 0)), (2, .int (Int32.ofInt 0))] rfl ⟨rfl, rfl, rfl, trivial⟩ ?_
  refine wl_228_8 (by omega) h5 ?_
  show zgo k d 228 (51, [(1, .int (Int32.ofInt e4.1))], []) (hp e4.2 ++ x) (.inl (some (.int (Int32.ofInt q.1))), hp q.2 ++ x)
  refine g_iload_n 52 hM rfl rfl rfl ?_
  cases h
  exact g_ret hM rfl rfl
/-- RelationFinderModel.unlike()I -/
def f_227 (s : zS) : Option (Int × zS) := zb (f_228 (sI s 177 0 0)) (fun r2 s3 => some (r2, s3))
theorem w_227 {k : zK} {d : Nat} {x : am_H} {s : zS} {q : (Int × zS)} (hd : 8 ≤ d) (h : f_227 s = some q) : zgo k d 227 (0, [(0, .ref 177)], []) (hp s ++ x) (.inl (some (.int (Int32.ofInt q.1))), hp q.2 ++ x) := by
  unfold f_227 at h
  have hM := xM_227 k.1
  refine g_aload_n 1 hM rfl rfl rfl ?_
  refine g_iconst 2 hM rfl rfl ?_
  refine g_putI 5 0 hM rfl rfl rfl rfl rfl rfl rfl ?_
  refine g_aload_n 6 hM rfl rfl rfl ?_
  obtain ⟨r2, s3, h1, h⟩ := zb_some h
  refine g_call 9 _ [.int (Int32.ofInt r2)] hM rfl rfl rfl rfl rfl (xM_228 _) rfl (z_rcv2 rfl) rfl rfl (by omega) (w_228 (by omega) h1) rfl ?_
  cases h
  exact g_ret hM rfl rfl
/-- RelationFinderModel.fair()I -/
def f_235 (s : zS) : Option (Int × zS) := zb (f_154 (sI s 177 0 0)) (fun r2 s3 => zb (f_230 0 1 s3) (fun r5 s6 => some (r5, s6)))
theorem w_235 {k : zK} {d : Nat} {x : am_H} {s : zS} {q : (Int × zS)} (hd : 3 ≤ d) (h : f_235 s = some q) : zgo k d 235 (0, [(0, .ref 177)], []) (hp s ++ x) (.inl (some (.int (Int32.ofInt q.1))), hp q.2 ++ x) := by
  unfold f_235 at h
  have hM := xM_235 k.1
  refine g_aload_n 1 hM rfl rfl rfl ?_
  refine g_iconst 2 hM rfl rfl ?_
  refine g_putI 5 0 hM rfl rfl rfl rfl rfl rfl rfl ?_
  refine g_aload_n 6 hM rfl rfl rfl ?_
  obtain ⟨r2, s3, h1, h⟩ := zb_some h
  refine g_call 9 _ [] hM rfl rfl rfl rfl rfl (xM_154 _) rfl (z_rcv2 rfl) rfl rfl (by omega) (w_154 (by omega) h1) rfl ?_
  refine g_aload_n 10 hM rfl rfl rfl ?_
  refine g_iconst 11 hM rfl rfl ?_
  refine g_iconst 12 hM rfl rfl ?_
  obtain ⟨r5, s6, h4, h⟩ := zb_some h
  refine g_call 15 _ [.int (Int32.ofInt r5)] hM rfl rfl rfl rfl rfl (xM_230 _) rfl (z_rcv2 rfl) rfl rfl (by omega) (w_230 (by omega) h4) rfl ?_
  cases h
  exact g_ret hM rfl rfl
def G_236_42 (k : zK) (d : Nat) (x : am_H) (r : am_A × am_H) (e : (Int × Int × zS)) : Prop := zgo k d 236 (42, [(0, .ref 177), (1, .int (Int32.ofInt e.1)), (2, .int (Int32.ofInt e.2.1))], []) (hp e.2.2 ++ x) r
def K_236_42 (k : zK) (d : Nat) (x : am_H) (r : am_A × am_H) (t : (Int × zS)) : Prop := zgo k d 236 (85, [(0, .ref 177), (1, .int (Int32.ofInt t.1))], []) (hp t.2 ++ x) r
def b_236_42 (v1 : Int) (v2 : Int) (s : zS) : Option ((Int × Int × zS) ⊕ (Int × zS)) := zg (zR v2) (if v2 < (gI s 177 18) then (zb (f_193 0 (zand v1 (zxor (1 * 2 ^ zsh v2) (-1))) 0 s) (fun r4 s5 => zg (zR r4) (if r4 = (-1) then (some (.inl ((zand v1 (zxor (1 * 2 ^ zsh v2) (-1))), (v2 + 1), s5))) else (some (.inl (v1, (v2 + 1), s5)))))) else (some (.inr (v1, s))))
theorem wb_236_42 {k : zK} {d : Nat} {x : am_H} {r : am_A × am_H} {v1 : Int} {v2 : Int} {s : zS} {q : (Int × Int × zS) ⊕ (Int × zS)} (hd : 8 ≤ d) (h : b_236_42 v1 v2 s = some q) (hK : Sum.elim (G_236_42 k d x r) (K_236_42 k d x r) q) : G_236_42 k d x r (v1, v2, s) := by
  unfold b_236_42 at h
  have hM := xM_236 k.1
  show zgo k d 236 (42, [(0, .ref 177), (1, .int (Int32.ofInt v1)), (2, .int (Int32.ofInt v2))], []) (hp s ++ x) r
  refine g_iload_n 43 hM rfl rfl rfl ?_
  refine g_aload_n 44 hM rfl rfl rfl ?_
  refine g_getI 47 18 (gI s 177 18) hM rfl rfl rfl rfl rfl rfl rfl ?_
  obtain ⟨hg1, h⟩ := zg_some h
  by_cases hc2 : v2 < (gI s 177 18)
  · rw [if_pos hc2] at h
    refine g_ic_ge_f 50 85 hM rfl rfl rfl hg1 (zR_gI _ _ _) hc2 ?_
    refine g_aload_n 51 hM rfl rfl rfl ?_
    refine g_iconst 52 hM rfl rfl ?_
    refine g_iload_n 53 hM rfl rfl rfl ?_
    refine g_iconst 54 hM rfl rfl ?_
    refine g_iload_n 55 hM rfl rfl rfl ?_
    refine g_ishl 56 hM rfl rfl ?_
    refine g_iconst 57 hM rfl rfl ?_
    refine g_ixor 58 hM rfl rfl ?_
    refine g_iand 59 hM rfl rfl ?_
    refine g_iconst 60 hM rfl rfl ?_
    obtain ⟨r4, s5, h3, h⟩ := zb_some h
    refine g_call 63 _ [.int (Int32.ofInt r4)] hM rfl rfl rfl rfl rfl (xM_193 _) rfl (z_rcv2 rfl) rfl rfl (by omega) (w_193 (by omega) h3) rfl ?_
    refine g_iconst 64 hM rfl rfl ?_
    obtain ⟨hg6, h⟩ := zg_some h
    by_cases hc7 : r4 = (-1)
    · rw [if_pos hc7] at h
      refine g_ic_ne_f 67 77 hM rfl rfl rfl hg6 (zR_lit rfl) hc7 ?_
      refine g_iload_n 68 hM rfl rfl rfl ?_
      refine g_iconst 69 hM rfl rfl ?_
      refine g_iload_n 70 hM rfl rfl rfl ?_
      refine g_ishl 71 hM rfl rfl ?_
      refine g_iconst 72 hM rfl rfl ?_
      refine g_ixor 73 hM rfl rfl ?_
      refine g_iand 74 hM rfl rfl ?_
      refine g_goto 78 hM rfl rfl ?_
      refine g_istore_n 79 hM rfl rfl rfl ?_
      refine g_iinc 82 hM rfl rfl rfl rfl ?_
      refine g_goto 42 hM rfl rfl ?_
      cases h
      exact g_lv [(0, .ref 177), (1, .int (Int32.ofInt (zand v1 (zxor (1 * 2 ^ zsh v2) (-1))))), (2, .int (Int32.ofInt (v2 + 1)))] rfl ⟨rfl, rfl, rfl, trivial⟩ hK
    · rw [if_neg hc7] at h
      refine g_ic_ne_t 77 hM rfl rfl hg6 (zR_lit rfl) hc7 ?_
      refine g_iload_n 78 hM rfl rfl rfl ?_
      refine g_istore_n 79 hM rfl rfl rfl ?_
      refine g_iinc 82 hM rfl rfl rfl rfl ?_
      refine g_goto 42 hM rfl rfl ?_
      cases h
      exact g_lv [(0, .ref 177), (1, .int (Int32.ofInt v1)), (2, .int (Int32.ofInt (v2 + 1)))] rfl ⟨rfl, rfl, rfl, trivial⟩ hK
  · rw [if_neg hc2] at h
    refine g_ic_ge_t 85 hM rfl rfl hg1 (zR_gI _ _ _) hc2 ?_
    cases h
    exact g_lv [(0, .ref 177), (1, .int (Int32.ofInt v1))] rfl ⟨rfl, rfl, trivial⟩ hK
theorem wl_236_42 {k : zK} {d : Nat} {x : am_H} {r : am_A × am_H} {n : Nat} {e : (Int × Int × zS)} {t : (Int × zS)} (hd : 8 ≤ d) (h : zlp (fun (q : Int × Int × zS) => b_236_42 q.1 q.2.1 q.2.2) n e = some t) (hK : K_236_42 k d x r t) : G_236_42 k d x r e := zlp_go (G := fun e => G_236_42 k d x r e) (K := K_236_42 k d x r) (fun e e1 h1 hg => wb_236_42 (q := .inl e1) hd h1 hg) (fun e t1 h1 hk => wb_236_42 (q := .inr t1) hd h1 hk) n e t h hK
def G_236_89 (k : zK) (d : Nat) (x : am_H) (r : am_A × am_H) (v1 : Int) (e : (Int × Int × zS)) : Prop := zgo k d 236 (89, [(0, .ref 177), (1, .int (Int32.ofInt v1)), (2, .int (Int32.ofInt e.1)), (3, .int (Int32.ofInt e.2.1))], []) (hp e.2.2 ++ x) r
def K_236_89 (k : zK) (d : Nat) (x : am_H) (r : am_A × am_H) (v1 : Int) (t : (Int × zS)) : Prop := zgo k d 236 (138, [(2, .int (Int32.ofInt t.1))], []) (hp t.2 ++ x) r
def j_236_89_114 (v1 : Int) (v2 : Int) (v3 : Int) (t1 : Int) (t2 : Int) (s : zS) : Option ((Int × Int × zS) ⊕ (Int × zS)) := zg (0 ≤ t1 ∧ t1 < 16) (zg (t2 = 0 ∨ t2 = 1) (zg (0 ≤ v3 ∧ v3 < 16) (if (gI (sI s 188 t1 t2) 188 v3) = 0 then (some (.inl (v2, (v3 + 1), (sI s 188 t1 t2)))) else (some (.inl ((v2 + 1), (v3 + 1), (sI s 188 t1 t2)))))))
theorem wj_236_89_114 {k : zK} {d : Nat} {x : am_H} {r : am_A × am_H} {v1 : Int} {v2 : Int} {v3 : Int} {t1 : Int} {t2 : Int} {s : zS} {q : (Int × Int × zS) ⊕ (Int × zS)} (hd : 8 ≤ d) (h : j_236_89_114 v1 v2 v3 t1 t2 s = some q) (hK : Sum.elim (G_236_89 k d x r v1) (K_236_89 k d x r v1) q) : zgo k d 236 (114, [(0, .ref 177), (1, .int (Int32.ofInt v1)), (2, .int (Int32.ofInt v2)), (3, .int (Int32.ofInt v3))], [.int (Int32.ofInt t2), .int (Int32.ofInt t1), .ref 188]) (hp s ++ x) r := by
  unfold j_236_89_114 at h
  have hM := xM_236 k.1
  obtain ⟨hg1, h⟩ := zg_some h
  obtain ⟨hg2, h⟩ := zg_some h
  refine g_bastore 115 hM rfl rfl rfl rfl hg1 hg2 ?_
  refine g_aload_n 116 hM rfl rfl rfl ?_
  refine g_getF 119 hM rfl rfl rfl rfl rfl ?_
  refine g_iload_n 120 hM rfl rfl rfl ?_
  obtain ⟨hg3, h⟩ := zg_some h
  refine g_baload 121 (gI (sI s 188 t1 t2) 188 v3) hM rfl rfl rfl rfl hg3 rfl ?_
  by_cases hc4 : (gI (sI s 188 t1 t2) 188 v3) = 0
  · rw [if_pos hc4] at h
    refine g_if_eq_t 130 hM rfl rfl (zR_gI _ _ _) hc4 ?_
    refine g_iload_n 131 hM rfl rfl rfl ?_
    refine g_istore_n 132 hM rfl rfl rfl ?_
    refine g_iinc 135 hM rfl rfl rfl rfl ?_
    refine g_goto 89 hM rfl rfl ?_
    cases h
    exact g_lv [(0, .ref 177), (1, .int (Int32.ofInt v1)), (2, .int (Int32.ofInt v2)), (3, .int (Int32.ofInt (v3 + 1)))] rfl ⟨rfl, rfl, rfl, rfl, trivial⟩ hK
  · rw [if_neg hc4] at h
    refine g_if_eq_f 124 130 hM rfl rfl rfl (zR_gI _ _ _) hc4 ?_
    refine g_iload_n 125 hM rfl rfl rfl ?_
    refine g_iconst 126 hM rfl rfl ?_
    refine g_iadd 127 hM rfl rfl ?_
    refine g_goto 131 hM rfl rfl ?_
    refine g_istore_n 132 hM rfl rfl rfl ?_
    refine g_iinc 135 hM rfl rfl rfl rfl ?_
    refine g_goto 89 hM rfl rfl ?_
    cases h
    exact g_lv [(0, .ref 177), (1, .int (Int32.ofInt v1)), (2, .int (Int32.ofInt (v2 + 1))), (3, .int (Int32.ofInt (v3 + 1)))] rfl ⟨rfl, rfl, rfl, rfl, trivial⟩ hK
def b_236_89 (v1 : Int) (v2 : Int) (v3 : Int) (s : zS) : Option ((Int × Int × zS) ⊕ (Int × zS)) := zg (zR v3) (if v3 < 16 then (zg (0 ≤ v1 ∧ zR v1) (if (zand (v1 / 2 ^ zsh v3) 1) = 1 then (j_236_89_114 v1 v2 v3 v3 1 s) else (j_236_89_114 v1 v2 v3 v3 0 s))) else (some (.inr (v2, s))))
theorem wb_236_89 {k : zK} {d : Nat} {x : am_H} {r : am_A × am_H} {v1 : Int} {v2 : Int} {v3 : Int} {s : zS} {q : (Int × Int × zS) ⊕ (Int × zS)} (hd : 8 ≤ d) (h : b_236_89 v1 v2 v3 s = some q) (hK : Sum.elim (G_236_89 k d x r v1) (K_236_89 k d x r v1) q) : G_236_89 k d x r v1 (v2, v3, s) := by
  unfold b_236_89 at h
  have hM := xM_236 k.1
  show zgo k d 236 (89, [(0, .ref 177), (1, .int (Int32.ofInt v1)), (2, .int (Int32.ofInt v2)), (3, .int (Int32.ofInt v3))], []) (hp s ++ x) r
  refine g_iload_n 90 hM rfl rfl rfl ?_
  refine g_bipush 92 hM rfl rfl rfl ?_
  obtain ⟨hg1, h⟩ := zg_some h
  by_cases hc2 : v3 < 16
  · rw [if_pos hc2] at h
    refine g_ic_ge_f 95 138 hM rfl rfl rfl hg1 (zR_lit rfl) hc2 ?_
    refine g_aload_n 96 hM rfl rfl rfl ?_
    refine g_getF 99 hM rfl rfl rfl rfl rfl ?_
    refine g_iload_n 100 hM rfl rfl rfl ?_
    refine g_iload_n 101 hM rfl rfl rfl ?_
    refine g_iload_n 102 hM rfl rfl rfl ?_
    obtain ⟨hg3, h⟩ := zg_some h
    refine g_ishr 103 hM rfl rfl hg3 ?_
    refine g_iconst 104 hM rfl rfl ?_
    refine g_iand 105 hM rfl rfl ?_
    refine g_iconst 106 hM rfl rfl ?_
    by_cases hc4 : (zand (v1 / 2 ^ zsh v3) 1) = 1
    · rw [if_pos hc4] at h
      refine g_ic_ne_f 109 113 hM rfl rfl rfl (zR_and _ _) (zR_lit rfl) hc4 ?_
      refine g_iconst 110 hM rfl rfl ?_
      refine g_goto 114 hM rfl rfl ?_
      refine g_lv [(0, .ref 177), (1, .int (Int32.ofInt v1)), (2, .int (Int32.ofInt v2)), (3, .int (Int32.ofInt v3))] rfl ⟨rfl, rfl, rfl, rfl, trivial⟩ ?_
      exact wj_236_89_114 (by omega) h hK
    · rw [if_neg hc4] at h
      refine g_ic_ne_t 113 hM rfl rfl (zR_and _ _) (zR_lit rfl) hc4 ?_
      refine g_iconst 114 hM rfl rfl ?_
      refine g_lv [(0, .ref 177), (1, .int (Int32.ofInt v1)), (2, .int (Int32.ofInt v2)), (3, .int (Int32.ofInt v3))] rfl ⟨rfl, rfl, rfl, rfl, trivial⟩ ?_
      exact wj_236_89_114 (by omega) h hK
  · rw [if_neg hc2] at h
    refine g_ic_ge_t 138 hM rfl rfl hg1 (zR_lit rfl) hc2 ?_
    cases h
    exact g_lv [(2, .int (Int32.ofInt v2))] rfl ⟨rfl, trivial⟩ hK
theorem wl_236_89 {k : zK} {d : Nat} {x : am_H} {r : am_A × am_H} {v1 : Int} {n : Nat} {e : (Int × Int × zS)} {t : (Int × zS)} (hd : 8 ≤ d) (h : zlp (fun (q : Int × Int × zS) => b_236_89 v1 q.1 q.2.1 q.2.2) n e = some t) (hK : K_236_89 k d x r v1 t) : G_236_89 k d x r v1 e := zlp_go (G := fun e => G_236_89 k d x r v1 e) (K := K_236_89 k d x r v1) (fun e e1 h1 hg => wb_236_89 (q := .inl e1) hd h1 hg) (fun e t1 h1 hk => wb_236_89 (q := .inr t1) hd h1 hk) n e t h hK
def j_236_19 (t1 : Int) (s : zS) : Option (Int × zS) := if 0 < (gI (sI s 177 0 t1) 177 0) then (some (0, (sI s 177 0 t1))) else (zo (zlp (fun (q : Int × Int × zS) => b_236_42 q.1 q.2.1 q.2.2) zF (((1 * 2 ^ zsh (gI s 177 18)) - 1), 0, (sI s 177 0 t1))) (fun e2 => zo (zlp (fun (q : Int × Int × zS) => b_236_89 e2.1 q.1 q.2.1 q.2.2) zF (0, 0, e2.2)) (fun e4 => some (e4.1, e4.2))))
theorem wj_236_19 {k : zK} {d : Nat} {x : am_H} {t1 : Int} {s : zS} {q : (Int × zS)} (hd : 8 ≤ d) (h : j_236_19 t1 s = some q) : zgo k d 236 (19, [(0, .ref 177)], [.int (Int32.ofInt t1), .ref 177]) (hp s ++ x) (.inl (some (.int (Int32.ofInt q.1))), hp q.2 ++ x) := by
  unfold j_236_19 at h
  have hM := xM_236 k.1
  refine g_putI 22 0 hM rfl rfl rfl rfl rfl rfl rfl ?_
  refine g_aload_n 23 hM rfl rfl rfl ?_
  refine g_getI 26 0 (gI (sI s 177 0 t1) 177 0) hM rfl rfl rfl rfl rfl rfl rfl ?_
  by_cases hc1 : 0 < (gI (sI s 177 0 t1) 177 0)
  · rw [if_pos hc1] at h
    refine g_if_le_f 29 31 hM rfl rfl rfl (zR_gI _ _ _) hc1 ?_
    refine g_iconst 30 hM rfl rfl ?_
    cases h
    exact g_ret hM rfl rfl
  · rw [if_neg hc1] at h
    refine g_if_le_t 31 hM rfl rfl (zR_gI _ _ _) hc1 ?_
    refine g_iconst 32 hM rfl rfl ?_
    refine g_aload_n 33 hM rfl rfl rfl ?_
    refine g_getI 36 18 (gI s 177 18) hM rfl rfl rfl rfl rfl rfl rfl ?_
    refine g_ishl 37 hM rfl rfl ?_
    refine g_iconst 38 hM rfl rfl ?_
    refine g_isub 39 hM rfl rfl ?_
    refine g_istore_n 40 hM rfl rfl rfl ?_
    refine g_iconst 41 hM rfl rfl ?_
    refine g_istore_n 42 hM rfl rfl rfl ?_
    obtain ⟨e2, h3, h⟩ := zo_some h
    refine g_lv [(0, .ref 177), (1, .int (Int32.ofInt ((1 * 2 ^ zsh (gI s 177 18)) - 1))), (2, .int (Int32.ofInt 0))] rfl ⟨rfl, rfl, rfl, trivial⟩ ?_
    refine wl_236_42 (by omega) h3 ?_
    show zgo k d 236 (85, [(0, .ref 177), (1, .int (Int32.ofInt e2.1))], []) (hp e2.2 ++ x) (.inl (some (.int (Int32.ofInt q.1))), hp q.2 ++ x)
    refine g_iconst 86 hM rfl rfl ?_
    refine g_istore_n 87 hM rfl rfl rfl ?_
    refine g_iconst 88 hM rfl rfl ?_
    refine g_istore_n 89 hM rfl rfl rfl ?_
    obtain ⟨e4, h5, h⟩ := zo_some h
    refine g_lv [(0, .ref 177), (1, .int (Int32.ofInt e2.1)), (2, .int (Int32.ofInt 0)), (3, .int (Int32.ofInt 0))] rfl ⟨rfl, rfl, rfl, rfl, trivial⟩ ?_
    refine wl_236_89 (by omega) h5 ?_
    show zgo k d 236 (138, [(2, .int (Int32.ofInt e4.1))], []) (hp e4.2 ++ x) (.inl (some (.int (Int32.ofInt q.1))), hp q.2 ++ x)
    refine g_iload_n 139 hM rfl rfl rfl ?_
    cases h
    exact g_ret hM rfl rfl
/-- RelationFinderModel.core()I -/
def f_236 (s : zS) : Option (Int × zS) := zb (f_193 0 65535 0 s) (fun r2 s3 => zg (zR r2) (if r2 = (-1) then (j_236_19 0 s3) else (j_236_19 1 s3)))
theorem w_236 {k : zK} {d : Nat} {x : am_H} {s : zS} {q : (Int × zS)} (hd : 8 ≤ d) (h : f_236 s = some q) : zgo k d 236 (0, [(0, .ref 177)], []) (hp s ++ x) (.inl (some (.int (Int32.ofInt q.1))), hp q.2 ++ x) := by
  unfold f_236 at h
  have hM := xM_236 k.1
  refine g_aload_n 1 hM rfl rfl rfl ?_
  refine g_aload_n 2 hM rfl rfl rfl ?_
  refine g_iconst 3 hM rfl rfl ?_
  refine g_ldcwI 6 65535 hM rfl rfl rfl (by decide) ?_
  refine g_iconst 7 hM rfl rfl ?_
  obtain ⟨r2, s3, h1, h⟩ := zb_some h
  refine g_call 10 _ [.int (Int32.ofInt r2), .ref 177] hM rfl rfl rfl rfl rfl (xM_193 _) rfl (z_rcv2 rfl) rfl rfl (by omega) (w_193 (by omega) h1) rfl ?_
  refine g_iconst 11 hM rfl rfl ?_
  obtain ⟨hg4, h⟩ := zg_some h
  by_cases hc5 : r2 = (-1)
  · rw [if_pos hc5] at h
    refine g_ic_eq_t 18 hM rfl rfl hg4 (zR_lit rfl) hc5 ?_
    refine g_iconst 19 hM rfl rfl ?_
    refine g_lv [(0, .ref 177)] rfl ⟨rfl, trivial⟩ ?_
    exact wj_236_19 (by omega) h
  · rw [if_neg hc5] at h
    refine g_ic_eq_f 14 18 hM rfl rfl rfl hg4 (zR_lit rfl) hc5 ?_
    refine g_iconst 15 hM rfl rfl ?_
    refine g_goto 19 hM rfl rfl ?_
    refine g_lv [(0, .ref 177)] rfl ⟨rfl, trivial⟩ ?_
    exact wj_236_19 (by omega) h
def j_237_13 (v1 : Int) (s : zS) : Option (Int × zS) := if (gI (sI s 177 0 1) 177 0) = 0 then (zg (0 ≤ v1 ∧ v1 < 16) (if (gI s 188 v1) = 0 then (some (0, (sI s 177 0 1))) else (some (1, (sI s 177 0 1))))) else (some (0, (sI s 177 0 1)))
theorem wj_237_13 {k : zK} {d : Nat} {x : am_H} {v1 : Int} {s : zS} {q : (Int × zS)} (hd : 0 ≤ d) (h : j_237_13 v1 s = some q) : zgo k d 237 (13, [(0, .ref 177), (1, .int (Int32.ofInt v1))], [.ref 177]) (hp s ++ x) (.inl (some (.int (Int32.ofInt q.1))), hp q.2 ++ x) := by
  unfold j_237_13 at h
  have hM := xM_237 k.1
  refine g_iconst 14 hM rfl rfl ?_
  refine g_goto 18 hM rfl rfl ?_
  refine g_putI 21 0 hM rfl rfl rfl rfl rfl rfl rfl ?_
  refine g_aload_n 22 hM rfl rfl rfl ?_
  refine g_getI 25 0 (gI (sI s 177 0 1) 177 0) hM rfl rfl rfl rfl rfl rfl rfl ?_
  by_cases hc1 : (gI (sI s 177 0 1) 177 0) = 0
  · rw [if_pos hc1] at h
    refine g_if_ne_f 28 41 hM rfl rfl rfl (zR_gI _ _ _) hc1 ?_
    refine g_aload_n 29 hM rfl rfl rfl ?_
    refine g_getF 32 hM rfl rfl rfl rfl rfl ?_
    refine g_iload_n 33 hM rfl rfl rfl ?_
    obtain ⟨hg2, h⟩ := zg_some h
    refine g_baload 34 (gI s 188 v1) hM rfl rfl rfl rfl hg2 rfl ?_
    by_cases hc3 : (gI s 188 v1) = 0
    · rw [if_pos hc3] at h
      refine g_if_eq_t 41 hM rfl rfl (zR_gI _ _ _) hc3 ?_
      refine g_iconst 42 hM rfl rfl ?_
      cases h
      exact g_ret hM rfl rfl
    · rw [if_neg hc3] at h
      refine g_if_eq_f 37 41 hM rfl rfl rfl (zR_gI _ _ _) hc3 ?_
      refine g_iconst 38 hM rfl rfl ?_
      refine g_goto 42 hM rfl rfl ?_
      cases h
      exact g_ret hM rfl rfl
  · rw [if_neg hc1] at h
    refine g_if_ne_t 41 hM rfl rfl (zR_gI _ _ _) hc1 ?_
    refine g_iconst 42 hM rfl rfl ?_
    cases h
    exact g_ret hM rfl rfl
/-- RelationFinderModel.isInCore(I)Z -/
def f_237 (v1 : Int) (s : zS) : Option (Int × zS) := zg (zR v1) (if v1 < 0 then (j_237_13 v1 s) else (if v1 < (gI s 177 18) then (if (gI (sI s 177 0 0) 177 0) = 0 then (zg (0 ≤ v1 ∧ v1 < 16) (if (gI s 188 v1) = 0 then (some (0, (sI s 177 0 0))) else (some (1, (sI s 177 0 0))))) else (some (0, (sI s 177 0 0)))) else (j_237_13 v1 s)))
theorem w_237 {k : zK} {d : Nat} {x : am_H} {v1 : Int} {s : zS} {q : (Int × zS)} (hd : 0 ≤ d) (h : f_237 v1 s = some q) : zgo k d 237 (0, [(0, .ref 177), (1, .int (Int32.ofInt v1))], []) (hp s ++ x) (.inl (some (.int (Int32.ofInt q.1))), hp q.2 ++ x) := by
  unfold f_237 at h
  have hM := xM_237 k.1
  refine g_aload_n 1 hM rfl rfl rfl ?_
  refine g_iload_n 2 hM rfl rfl rfl ?_
  obtain ⟨hg1, h⟩ := zg_some h
  by_cases hc2 : v1 < 0
  · rw [if_pos hc2] at h
    refine g_if_lt_t 13 hM rfl rfl hg1 hc2 ?_
    refine g_lv [(0, .ref 177), (1, .int (Int32.ofInt v1))] rfl ⟨rfl, rfl, trivial⟩ ?_
    exact wj_237_13 (by omega) h
  · rw [if_neg hc2] at h
    refine g_if_lt_f 5 13 hM rfl rfl rfl hg1 hc2 ?_
    refine g_iload_n 6 hM rfl rfl rfl ?_
    refine g_aload_n 7 hM rfl rfl rfl ?_
    refine g_getI 10 18 (gI s 177 18) hM rfl rfl rfl rfl rfl rfl rfl ?_
    by_cases hc3 : v1 < (gI s 177 18)
    · rw [if_pos hc3] at h
      refine g_ic_lt_t 17 hM rfl rfl hg1 (zR_gI _ _ _) hc3 ?_
      refine g_iconst 18 hM rfl rfl ?_
      refine g_putI 21 0 hM rfl rfl rfl rfl rfl rfl rfl ?_
      refine g_aload_n 22 hM rfl rfl rfl ?_
      refine g_getI 25 0 (gI (sI s 177 0 0) 177 0) hM rfl rfl rfl rfl rfl rfl rfl ?_
      by_cases hc4 : (gI (sI s 177 0 0) 177 0) = 0
      · rw [if_pos hc4] at h
        refine g_if_ne_f 28 41 hM rfl rfl rfl (zR_gI _ _ _) hc4 ?_
        refine g_aload_n 29 hM rfl rfl rfl ?_
        refine g_getF 32 hM rfl rfl rfl rfl rfl ?_
        refine g_iload_n 33 hM rfl rfl rfl ?_
        obtain ⟨hg5, h⟩ := zg_some h
        refine g_baload 34 (gI s 188 v1) hM rfl rfl rfl rfl hg5 rfl ?_
        by_cases hc6 : (gI s 188 v1) = 0
        · rw [if_pos hc6] at h
          refine g_if_eq_t 41 hM rfl rfl (zR_gI _ _ _) hc6 ?_
          refine g_iconst 42 hM rfl rfl ?_
          cases h
          exact g_ret hM rfl rfl
        · rw [if_neg hc6] at h
          refine g_if_eq_f 37 41 hM rfl rfl rfl (zR_gI _ _ _) hc6 ?_
          refine g_iconst 38 hM rfl rfl ?_
          refine g_goto 42 hM rfl rfl ?_
          cases h
          exact g_ret hM rfl rfl
      · rw [if_neg hc4] at h
        refine g_if_ne_t 41 hM rfl rfl (zR_gI _ _ _) hc4 ?_
        refine g_iconst 42 hM rfl rfl ?_
        cases h
        exact g_ret hM rfl rfl
    · rw [if_neg hc3] at h
      refine g_ic_lt_f 13 17 hM rfl rfl rfl hg1 (zR_gI _ _ _) hc3 ?_
      refine g_lv [(0, .ref 177), (1, .int (Int32.ofInt v1))] rfl ⟨rfl, rfl, trivial⟩ ?_
      exact wj_237_13 (by omega) h
def j_239_13 (t1 : Int) (s : zS) : Option (Int × zS) := if 0 < (gI (sI s 177 0 t1) 177 0) then (if (gI (sI s 177 0 t1) 177 0) = 0 then (some (1, (sI (sI s 177 0 t1) 177 3 0))) else (some (0, (sI (sI s 177 0 t1) 177 3 0)))) else (if (gI (sI s 177 0 t1) 177 0) = 0 then (some (1, (sI s 177 0 t1))) else (some (0, (sI s 177 0 t1))))
theorem wj_239_13 {k : zK} {d : Nat} {x : am_H} {t1 : Int} {s : zS} {q : (Int × zS)} (hd : 0 ≤ d) (h : j_239_13 t1 s = some q) : zgo k d 239 (13, [(0, .ref 177)], [.int (Int32.ofInt t1), .ref 177]) (hp s ++ x) (.inl (some (.int (Int32.ofInt q.1))), hp q.2 ++ x) := by
  unfold j_239_13 at h
  have hM := xM_239 k.1
  refine g_putI 16 0 hM rfl rfl rfl rfl rfl rfl rfl ?_
  refine g_aload_n 17 hM rfl rfl rfl ?_
  refine g_getI 20 0 (gI (sI s 177 0 t1) 177 0) hM rfl rfl rfl rfl rfl rfl rfl ?_
  by_cases hc1 : 0 < (gI (sI s 177 0 t1) 177 0)
  · rw [if_pos hc1] at h
    refine g_if_le_f 23 28 hM rfl rfl rfl (zR_gI _ _ _) hc1 ?_
    refine g_aload_n 24 hM rfl rfl rfl ?_
    refine g_iconst 25 hM rfl rfl ?_
    refine g_putI 28 3 hM rfl rfl rfl rfl rfl rfl rfl ?_
    refine g_aload_n 29 hM rfl rfl rfl ?_
    refine g_getI 32 0 (gI (sI s 177 0 t1) 177 0) hM rfl rfl rfl rfl rfl rfl rfl ?_
    by_cases hc2 : (gI (sI s 177 0 t1) 177 0) = 0
    · rw [if_pos hc2] at h
      refine g_if_ne_f 35 39 hM rfl rfl rfl (zR_gI _ _ _) hc2 ?_
      refine g_iconst 36 hM rfl rfl ?_
      refine g_goto 40 hM rfl rfl ?_
      cases h
      exact g_ret hM rfl rfl
    · rw [if_neg hc2] at h
      refine g_if_ne_t 39 hM rfl rfl (zR_gI _ _ _) hc2 ?_
      refine g_iconst 40 hM rfl rfl ?_
      cases h
      exact g_ret hM rfl rfl
  · rw [if_neg hc1] at h
    refine g_if_le_t 28 hM rfl rfl (zR_gI _ _ _) hc1 ?_
    refine g_aload_n 29 hM rfl rfl rfl ?_
    refine g_getI 32 0 (gI (sI s 177 0 t1) 177 0) hM rfl rfl rfl rfl rfl rfl rfl ?_
    by_cases hc3 : (gI (sI s 177 0 t1) 177 0) = 0
    · rw [if_pos hc3] at h
      refine g_if_ne_f 35 39 hM rfl rfl rfl (zR_gI _ _ _) hc3 ?_
      refine g_iconst 36 hM rfl rfl ?_
      refine g_goto 40 hM rfl rfl ?_
      cases h
      exact g_ret hM rfl rfl
    · rw [if_neg hc3] at h
      refine g_if_ne_t 39 hM rfl rfl (zR_gI _ _ _) hc3 ?_
      refine g_iconst 40 hM rfl rfl ?_
      cases h
      exact g_ret hM rfl rfl
/-- RelationFinderModel.mayAsk()Z -/
def f_239 (s : zS) : Option (Int × zS) := if (gI s 177 21) = 0 then (j_239_13 1 s) else (j_239_13 0 s)
theorem w_239 {k : zK} {d : Nat} {x : am_H} {s : zS} {q : (Int × zS)} (hd : 0 ≤ d) (h : f_239 s = some q) : zgo k d 239 (0, [(0, .ref 177)], []) (hp s ++ x) (.inl (some (.int (Int32.ofInt q.1))), hp q.2 ++ x) := by
  unfold f_239 at h
  have hM := xM_239 k.1
  refine g_aload_n 1 hM rfl rfl rfl ?_
  refine g_aload_n 2 hM rfl rfl rfl ?_
  refine g_getI 5 21 (gI s 177 21) hM rfl rfl rfl rfl rfl rfl rfl ?_
  by_cases hc1 : (gI s 177 21) = 0
  · rw [if_pos hc1] at h
    refine g_if_ne_f 8 12 hM rfl rfl rfl (zR_gI _ _ _) hc1 ?_
    refine g_iconst 9 hM rfl rfl ?_
    refine g_goto 13 hM rfl rfl ?_
    refine g_lv [(0, .ref 177)] rfl ⟨rfl, trivial⟩ ?_
    exact wj_239_13 (by omega) h
  · rw [if_neg hc1] at h
    refine g_if_ne_t 12 hM rfl rfl (zR_gI _ _ _) hc1 ?_
    refine g_iconst 13 hM rfl rfl ?_
    refine g_lv [(0, .ref 177)] rfl ⟨rfl, trivial⟩ ?_
    exact wj_239_13 (by omega) h
/-- RelationFinderModel.value()I -/
def f_238 (s : zS) : Option (Int × zS) := zb (f_239 s) (fun r2 s3 => zg (zR r2) (if r2 = 0 then (some (0, s3)) else (zb (f_156 0 s3) (fun r7 s8 => zg (zR r7) (if r7 = 0 then (some (((-1) - (gI s8 177 5)), s8)) else (zb (f_154 (sI s8 177 25 (gI s8 195 0))) (fun r12 s13 => zb (f_195 (gI s13 177 22) s13) (fun r15 s16 => zb (f_199 17 s16) (fun r18 s19 => zo (f_221 (gJ (sJ s19 177 23 (gJ s19 198 0)) 177 23) (gJ (sJ (sJ s19 177 23 (gJ s19 198 0)) 177 24 (gJ s19 199 0)) 177 24) (sJ (sJ s19 177 23 (gJ s19 198 0)) 177 24 (gJ s19 199 0))) (fun r21 => some (r21, (sJ (sJ s19 177 23 (gJ s19 198 0)) 177 24 (gJ s19 199 0)))))))))))))
theorem w_238 {k : zK} {d : Nat} {x : am_H} {s : zS} {q : (Int × zS)} (hd : 9 ≤ d) (h : f_238 s = some q) : zgo k d 238 (0, [(0, .ref 177)], []) (hp s ++ x) (.inl (some (.int (Int32.ofInt q.1))), hp q.2 ++ x) := by
  unfold f_238 at h
  have hM := xM_238 k.1
  refine g_aload_n 1 hM rfl rfl rfl ?_
  obtain ⟨r2, s3, h1, h⟩ := zb_some h
  refine g_call 4 _ [.int (Int32.ofInt r2)] hM rfl rfl rfl rfl rfl (xM_239 _) rfl (z_rcv2 rfl) rfl rfl (by omega) (w_239 (by omega) h1) rfl ?_
  obtain ⟨hg4, h⟩ := zg_some h
  by_cases hc5 : r2 = 0
  · rw [if_pos hc5] at h
    refine g_if_ne_f 7 9 hM rfl rfl rfl hg4 hc5 ?_
    refine g_iconst 8 hM rfl rfl ?_
    cases h
    exact g_ret hM rfl rfl
  · rw [if_neg hc5] at h
    refine g_if_ne_t 9 hM rfl rfl hg4 hc5 ?_
    refine g_aload_n 10 hM rfl rfl rfl ?_
    refine g_iconst 11 hM rfl rfl ?_
    obtain ⟨r7, s8, h6, h⟩ := zb_some h
    refine g_call 14 _ [.int (Int32.ofInt r7)] hM rfl rfl rfl rfl rfl (xM_156 _) rfl (z_rcv2 rfl) rfl rfl (by omega) (w_156 (by omega) h6) rfl ?_
    obtain ⟨hg9, h⟩ := zg_some h
    by_cases hc10 : r7 = 0
    · rw [if_pos hc10] at h
      refine g_if_ne_f 17 24 hM rfl rfl rfl hg9 hc10 ?_
      refine g_iconst 18 hM rfl rfl ?_
      refine g_aload_n 19 hM rfl rfl rfl ?_
      refine g_getI 22 5 (gI s8 177 5) hM rfl rfl rfl rfl rfl rfl rfl ?_
      refine g_isub 23 hM rfl rfl ?_
      cases h
      exact g_ret hM rfl rfl
    · rw [if_neg hc10] at h
      refine g_if_ne_t 24 hM rfl rfl hg9 hc10 ?_
      refine g_aload_n 25 hM rfl rfl rfl ?_
      refine g_aload_n 26 hM rfl rfl rfl ?_
      refine g_getF 29 hM rfl rfl rfl rfl rfl ?_
      refine g_iconst 30 hM rfl rfl ?_
      refine g_iaload 31 (gI s8 195 0) hM rfl rfl rfl rfl ⟨by decide, by decide⟩ rfl ?_
      refine g_putI 34 25 hM rfl rfl rfl rfl rfl rfl rfl ?_
      refine g_aload_n 35 hM rfl rfl rfl ?_
      obtain ⟨r12, s13, h11, h⟩ := zb_some h
      refine g_call 38 _ [] hM rfl rfl rfl rfl rfl (xM_154 _) rfl (z_rcv2 rfl) rfl rfl (by omega) (w_154 (by omega) h11) rfl ?_
      refine g_aload_n 39 hM rfl rfl rfl ?_
      refine g_aload_n 40 hM rfl rfl rfl ?_
      refine g_getI 43 22 (gI s13 177 22) hM rfl rfl rfl rfl rfl rfl rfl ?_
      obtain ⟨r15, s16, h14, h⟩ := zb_some h
      refine g_call 46 _ [] hM rfl rfl rfl rfl rfl (xM_195 _) rfl (z_rcv2 rfl) rfl rfl (by omega) (w_195 (by omega) h14) rfl ?_
      refine g_aload_n 47 hM rfl rfl rfl ?_
      refine g_bipush 49 hM rfl rfl rfl ?_
      obtain ⟨r18, s19, h17, h⟩ := zb_some h
      refine g_call 52 _ [] hM rfl rfl rfl rfl rfl (xM_199 _) rfl (z_rcv2 rfl) rfl rfl (by omega) (w_199 (by omega) h17) rfl ?_
      refine g_aload_n 53 hM rfl rfl rfl ?_
      refine g_aload_n 54 hM rfl rfl rfl ?_
      refine g_getF 57 hM rfl rfl rfl rfl rfl ?_
      refine g_iconst 58 hM rfl rfl ?_
      refine g_laload 59 (gJ s19 198 0) hM rfl rfl rfl rfl ⟨by decide, by decide⟩ rfl ?_
      refine g_putJ 62 23 hM rfl rfl rfl rfl rfl rfl rfl ?_
      refine g_aload_n 63 hM rfl rfl rfl ?_
      refine g_aload_n 64 hM rfl rfl rfl ?_
      refine g_getF 67 hM rfl rfl rfl rfl rfl ?_
      refine g_iconst 68 hM rfl rfl ?_
      refine g_laload 69 (gJ s19 199 0) hM rfl rfl rfl rfl ⟨by decide, by decide⟩ rfl ?_
      refine g_putJ 72 24 hM rfl rfl rfl rfl rfl rfl rfl ?_
      refine g_aload_n 73 hM rfl rfl rfl ?_
      refine g_getJ 76 23 (gJ (sJ s19 177 23 (gJ s19 198 0)) 177 23) hM rfl rfl rfl rfl rfl rfl rfl ?_
      refine g_aload_n 77 hM rfl rfl rfl ?_
      refine g_getJ 80 24 (gJ (sJ (sJ s19 177 23 (gJ s19 198 0)) 177 24 (gJ s19 199 0)) 177 24) hM rfl rfl rfl rfl rfl rfl rfl ?_
      obtain ⟨r21, h20, h⟩ := zo_some h
      refine g_call 83 _ [.int (Int32.ofInt r21)] hM rfl rfl rfl rfl rfl (xM_221 _) rfl rfl rfl rfl (by omega) (w_221 (by omega) h20) rfl ?_
      cases h
      exact g_ret hM rfl rfl
/-- RelationFinderModel.isIn(I)Z -/
def f_240 (v1 : Int) (s : zS) : Option (Int × zS) := zg (zR v1) (if v1 < 0 then (some (0, (sI s 177 0 0))) else (if v1 < 125 then (zo (f_211 (gJ s 177 23) (gJ s 177 24) v1) (fun r5 => zg (zR r5) (if r5 = 0 then (some (0, (sI s 177 0 0))) else (some (1, (sI s 177 0 0)))))) else (some (0, (sI s 177 0 0)))))
theorem w_240 {k : zK} {d : Nat} {x : am_H} {v1 : Int} {s : zS} {q : (Int × zS)} (hd : 1 ≤ d) (h : f_240 v1 s = some q) : zgo k d 240 (0, [(0, .ref 177), (1, .int (Int32.ofInt v1))], []) (hp s ++ x) (.inl (some (.int (Int32.ofInt q.1))), hp q.2 ++ x) := by
  unfold f_240 at h
  have hM := xM_240 k.1
  refine g_aload_n 1 hM rfl rfl rfl ?_
  refine g_iconst 2 hM rfl rfl ?_
  refine g_putI 5 0 hM rfl rfl rfl rfl rfl rfl rfl ?_
  refine g_iload_n 6 hM rfl rfl rfl ?_
  obtain ⟨hg1, h⟩ := zg_some h
  by_cases hc2 : v1 < 0
  · rw [if_pos hc2] at h
    refine g_if_lt_t 34 hM rfl rfl hg1 hc2 ?_
    refine g_iconst 35 hM rfl rfl ?_
    cases h
    exact g_ret hM rfl rfl
  · rw [if_neg hc2] at h
    refine g_if_lt_f 9 34 hM rfl rfl rfl hg1 hc2 ?_
    refine g_iload_n 10 hM rfl rfl rfl ?_
    refine g_bipush 12 hM rfl rfl rfl ?_
    by_cases hc3 : v1 < 125
    · rw [if_pos hc3] at h
      refine g_ic_ge_f 15 34 hM rfl rfl rfl hg1 (zR_lit rfl) hc3 ?_
      refine g_aload_n 16 hM rfl rfl rfl ?_
      refine g_getJ 19 23 (gJ s 177 23) hM rfl rfl rfl rfl rfl rfl rfl ?_
      refine g_aload_n 20 hM rfl rfl rfl ?_
      refine g_getJ 23 24 (gJ s 177 24) hM rfl rfl rfl rfl rfl rfl rfl ?_
      refine g_iload_n 24 hM rfl rfl rfl ?_
      obtain ⟨r5, h4, h⟩ := zo_some h
      refine g_call 27 _ [.int (Int32.ofInt r5)] hM rfl rfl rfl rfl rfl (xM_211 _) rfl rfl rfl rfl (by omega) (w_211 (by omega) h4) rfl ?_
      obtain ⟨hg6, h⟩ := zg_some h
      by_cases hc7 : r5 = 0
      · rw [if_pos hc7] at h
        refine g_if_eq_t 34 hM rfl rfl hg6 hc7 ?_
        refine g_iconst 35 hM rfl rfl ?_
        cases h
        exact g_ret hM rfl rfl
      · rw [if_neg hc7] at h
        refine g_if_eq_f 30 34 hM rfl rfl rfl hg6 hc7 ?_
        refine g_iconst 31 hM rfl rfl ?_
        refine g_goto 35 hM rfl rfl ?_
        cases h
        exact g_ret hM rfl rfl
    · rw [if_neg hc3] at h
      refine g_ic_ge_t 34 hM rfl rfl hg1 (zR_lit rfl) hc3 ?_
      refine g_iconst 35 hM rfl rfl ?_
      cases h
      exact g_ret hM rfl rfl
