/-! THE PURE LAYER: methods as functions, and runs that do what they say (9). By program. -/
def G_43_71 (k : zK) (d : Nat) (x : am_H) (r : am_A × am_H) (v2 : Int) (e : (Int × Int × zS)) : Prop := zgo k d 43 (71, [(0, .ref 0), (2, .int (Int32.ofInt v2)), (3, .int (Int32.ofInt e.1)), (4, .int (Int32.ofInt e.2.1))], []) (hp e.2.2 ++ x) r
def K_43_71 (k : zK) (d : Nat) (x : am_H) (r : am_A × am_H) (v2 : Int) (t : (Int × zS)) : Prop := zgo k d 43 (137, [(3, .int (Int32.ofInt t.1))], []) (hp t.2 ++ x) r
/-- RelationFinder.isThere(J)Z -/
def f_45 (w1 : BitVec 64) (s : zS) : Option Int := zg (0 ≤ (gI s 0 12) ∧ zR (gI s 0 12) ∧ (0 : Int) < 64 ∧ zR 64) (zg (zR ((gI s 0 12) % 64)) (if ((w1 >>> zshl ((gI s 0 12) % 64)) &&& (1#64)) = (0#64) then (some 0) else (some 1)))
theorem w_45 {k : zK} {d : Nat} {x : am_H} {w1 : BitVec 64} {s : zS} {q : Int} (hd : 0 ≤ d) (h : f_45 w1 s = some q) : zgo k d 45 (0, [(0, .ref 0), (1, .long (Int64.ofBitVec w1))], []) (hp s ++ x) (.inl (some (.int (Int32.ofInt q))), hp s ++ x) := by
  unfold f_45 at h
  have hM := xM_45 k.1
  refine g_lload_n 1 hM rfl rfl rfl ?_
  refine g_aload_n 2 hM rfl rfl rfl ?_
  refine g_getI 5 12 (gI s 0 12) hM rfl rfl rfl rfl rfl rfl rfl ?_
  refine g_bipush 7 hM rfl rfl rfl ?_
  obtain ⟨hg1, h⟩ := zg_some h
  refine g_irem 8 hM rfl rfl hg1 ?_
  obtain ⟨hg2, h⟩ := zg_some h
  refine g_lushr 9 hM rfl rfl hg2 ?_
  refine g_lconst 10 (1#64) hM rfl rfl rfl ?_
  refine g_land 11 hM rfl rfl ?_
  refine g_lconst 12 (0#64) hM rfl rfl rfl ?_
  by_cases hc3 : ((w1 >>> zshl ((gI s 0 12) % 64)) &&& (1#64)) = (0#64)
  · rw [if_pos hc3] at h
    refine g_lc_eq_t 13 20 hM rfl rfl rfl rfl hc3 ?_
    refine g_iconst 21 hM rfl rfl ?_
    cases h
    exact g_ret hM rfl rfl
  · rw [if_neg hc3] at h
    refine g_lc_eq_f 13 16 20 hM rfl rfl rfl rfl rfl hc3 ?_
    refine g_iconst 17 hM rfl rfl ?_
    refine g_goto 21 hM rfl rfl ?_
    cases h
    exact g_ret hM rfl rfl
def j_43_71_112 (v2 : Int) (v3 : Int) (v4 : Int) (t1 : Int) (t2 : Int) (s : zS) : Option ((Int × Int × zS) ⊕ (Int × zS)) := zg (0 ≤ t1 ∧ t1 < 125) (zg (t2 = 0 ∨ t2 = 1) (zg (0 ≤ v4 ∧ v4 < 125) (if (gI (sI s 176 t1 t2) 176 v4) = 0 then (some (.inl ((v3 + 0), (v4 + 1), (sI s 176 t1 t2)))) else (some (.inl ((v3 + 1), (v4 + 1), (sI s 176 t1 t2)))))))
theorem wj_43_71_112 {k : zK} {d : Nat} {x : am_H} {r : am_A × am_H} {v2 : Int} {v3 : Int} {v4 : Int} {t1 : Int} {t2 : Int} {s : zS} {q : (Int × Int × zS) ⊕ (Int × zS)} (hd : 99 ≤ d) (h : j_43_71_112 v2 v3 v4 t1 t2 s = some q) (hK : Sum.elim (G_43_71 k d x r v2) (K_43_71 k d x r v2) q) : zgo k d 43 (112, [(0, .ref 0), (2, .int (Int32.ofInt v2)), (3, .int (Int32.ofInt v3)), (4, .int (Int32.ofInt v4))], [.int (Int32.ofInt t2), .int (Int32.ofInt t1), .ref 176]) (hp s ++ x) r := by
  unfold j_43_71_112 at h
  have hM := xM_43 k.1
  obtain ⟨hg1, h⟩ := zg_some h
  obtain ⟨hg2, h⟩ := zg_some h
  refine g_bastore 113 hM rfl rfl rfl rfl hg1 hg2 ?_
  refine g_iload_n 114 hM rfl rfl rfl ?_
  refine g_aload_n 115 hM rfl rfl rfl ?_
  refine g_getF 118 hM rfl rfl rfl rfl rfl ?_
  refine g_iload 120 hM rfl rfl rfl ?_
  obtain ⟨hg3, h⟩ := zg_some h
  refine g_baload 121 (gI (sI s 176 t1 t2) 176 v4) hM rfl rfl rfl rfl hg3 rfl ?_
  by_cases hc4 : (gI (sI s 176 t1 t2) 176 v4) = 0
  · rw [if_pos hc4] at h
    refine g_if_eq_t 128 hM rfl rfl (zR_gI _ _ _) hc4 ?_
    refine g_iconst 129 hM rfl rfl ?_
    refine g_iadd 130 hM rfl rfl ?_
    refine g_istore_n 131 hM rfl rfl rfl ?_
    refine g_iinc 134 hM rfl rfl rfl rfl ?_
    refine g_goto 71 hM rfl rfl ?_
    cases h
    exact g_lv [(0, .ref 0), (2, .int (Int32.ofInt v2)), (3, .int (Int32.ofInt (v3 + 0))), (4, .int (Int32.ofInt (v4 + 1)))] rfl ⟨rfl, rfl, rfl, rfl, trivial⟩ hK
  · rw [if_neg hc4] at h
    refine g_if_eq_f 124 128 hM rfl rfl rfl (zR_gI _ _ _) hc4 ?_
    refine g_iconst 125 hM rfl rfl ?_
    refine g_goto 129 hM rfl rfl ?_
    refine g_iadd 130 hM rfl rfl ?_
    refine g_istore_n 131 hM rfl rfl rfl ?_
    refine g_iinc 134 hM rfl rfl rfl rfl ?_
    refine g_goto 71 hM rfl rfl ?_
    cases h
    exact g_lv [(0, .ref 0), (2, .int (Int32.ofInt v2)), (3, .int (Int32.ofInt (v3 + 1))), (4, .int (Int32.ofInt (v4 + 1)))] rfl ⟨rfl, rfl, rfl, rfl, trivial⟩ hK
def j_43_71_111 (v2 : Int) (v3 : Int) (v4 : Int) (t1 : Int) (s : zS) : Option ((Int × Int × zS) ⊕ (Int × zS)) := j_43_71_112 v2 v3 v4 t1 0 s
theorem wj_43_71_111 {k : zK} {d : Nat} {x : am_H} {r : am_A × am_H} {v2 : Int} {v3 : Int} {v4 : Int} {t1 : Int} {s : zS} {q : (Int × Int × zS) ⊕ (Int × zS)} (hd : 99 ≤ d) (h : j_43_71_111 v2 v3 v4 t1 s = some q) (hK : Sum.elim (G_43_71 k d x r v2) (K_43_71 k d x r v2) q) : zgo k d 43 (111, [(0, .ref 0), (2, .int (Int32.ofInt v2)), (3, .int (Int32.ofInt v3)), (4, .int (Int32.ofInt v4))], [.int (Int32.ofInt t1), .ref 176]) (hp s ++ x) r := by
  unfold j_43_71_111 at h
  have hM := xM_43 k.1
  refine g_iconst 112 hM rfl rfl ?_
  refine g_lv [(0, .ref 0), (2, .int (Int32.ofInt v2)), (3, .int (Int32.ofInt v3)), (4, .int (Int32.ofInt v4))] rfl ⟨rfl, rfl, rfl, rfl, trivial⟩ ?_
  exact wj_43_71_112 (by omega) h hK
def b_43_71 (v2 : Int) (v3 : Int) (v4 : Int) (s : zS) : Option ((Int × Int × zS) ⊕ (Int × zS)) := zg (zR v4) (if v4 < 125 then (zg (zR v2) (if v4 < v2 then (zg (0 ≤ v4 ∧ v4 < 2750) (zo (f_45 (gJ s 18 v4) s) (fun r7 => zg (zR r7) (if r7 = 0 then (j_43_71_111 v2 v3 v4 v4 s) else (j_43_71_112 v2 v3 v4 v4 1 s))))) else (j_43_71_111 v2 v3 v4 v4 s))) else (some (.inr (v3, s))))
theorem wb_43_71 {k : zK} {d : Nat} {x : am_H} {r : am_A × am_H} {v2 : Int} {v3 : Int} {v4 : Int} {s : zS} {q : (Int × Int × zS) ⊕ (Int × zS)} (hd : 99 ≤ d) (h : b_43_71 v2 v3 v4 s = some q) (hK : Sum.elim (G_43_71 k d x r v2) (K_43_71 k d x r v2) q) : G_43_71 k d x r v2 (v3, v4, s) := by
  unfold b_43_71 at h
  have hM := xM_43 k.1
  show zgo k d 43 (71, [(0, .ref 0), (2, .int (Int32.ofInt v2)), (3, .int (Int32.ofInt v3)), (4, .int (Int32.ofInt v4))], []) (hp s ++ x) r
  refine g_iload 73 hM rfl rfl rfl ?_
  refine g_bipush 75 hM rfl rfl rfl ?_
  obtain ⟨hg1, h⟩ := zg_some h
  by_cases hc2 : v4 < 125
  · rw [if_pos hc2] at h
    refine g_ic_ge_f 78 137 hM rfl rfl rfl hg1 (zR_lit rfl) hc2 ?_
    refine g_aload_n 79 hM rfl rfl rfl ?_
    refine g_getF 82 hM rfl rfl rfl rfl rfl ?_
    refine g_iload 84 hM rfl rfl rfl ?_
    refine g_iload 86 hM rfl rfl rfl ?_
    refine g_iload_n 87 hM rfl rfl rfl ?_
    obtain ⟨hg3, h⟩ := zg_some h
    by_cases hc4 : v4 < v2
    · rw [if_pos hc4] at h
      refine g_ic_ge_f 90 111 hM rfl rfl rfl hg1 hg3 hc4 ?_
      refine g_aload_n 91 hM rfl rfl rfl ?_
      refine g_aload_n 92 hM rfl rfl rfl ?_
      refine g_getF 95 hM rfl rfl rfl rfl rfl ?_
      refine g_getF 98 hM rfl rfl rfl rfl rfl ?_
      refine g_iload 100 hM rfl rfl rfl ?_
      obtain ⟨hg5, h⟩ := zg_some h
      refine g_laload 101 (gJ s 18 v4) hM rfl rfl rfl rfl hg5 rfl ?_
      obtain ⟨r7, h6, h⟩ := zo_some h
      refine g_call 104 _ [.int (Int32.ofInt r7), .int (Int32.ofInt v4), .ref 176] hM rfl rfl rfl rfl rfl (xM_45 _) rfl (z_rcv2 rfl) rfl rfl (by omega) (w_45 (by omega) h6) rfl ?_
      obtain ⟨hg8, h⟩ := zg_some h
      by_cases hc9 : r7 = 0
      · rw [if_pos hc9] at h
        refine g_if_eq_t 111 hM rfl rfl hg8 hc9 ?_
        refine g_lv [(0, .ref 0), (2, .int (Int32.ofInt v2)), (3, .int (Int32.ofInt v3)), (4, .int (Int32.ofInt v4))] rfl ⟨rfl, rfl, rfl, rfl, trivial⟩ ?_
        exact wj_43_71_111 (by omega) h hK
      · rw [if_neg hc9] at h
        refine g_if_eq_f 107 111 hM rfl rfl rfl hg8 hc9 ?_
        refine g_iconst 108 hM rfl rfl ?_
        refine g_goto 112 hM rfl rfl ?_
        refine g_lv [(0, .ref 0), (2, .int (Int32.ofInt v2)), (3, .int (Int32.ofInt v3)), (4, .int (Int32.ofInt v4))] rfl ⟨rfl, rfl, rfl, rfl, trivial⟩ ?_
        exact wj_43_71_112 (by omega) h hK
    · rw [if_neg hc4] at h
      refine g_ic_ge_t 111 hM rfl rfl hg1 hg3 hc4 ?_
      refine g_lv [(0, .ref 0), (2, .int (Int32.ofInt v2)), (3, .int (Int32.ofInt v3)), (4, .int (Int32.ofInt v4))] rfl ⟨rfl, rfl, rfl, rfl, trivial⟩ ?_
      exact wj_43_71_111 (by omega) h hK
  · rw [if_neg hc2] at h
    refine g_ic_ge_t 137 hM rfl rfl hg1 (zR_lit rfl) hc2 ?_
    cases h
    exact g_lv [(3, .int (Int32.ofInt v3))] rfl ⟨rfl, trivial⟩ hK
theorem wl_43_71 {k : zK} {d : Nat} {x : am_H} {r : am_A × am_H} {v2 : Int} {n : Nat} {e : (Int × Int × zS)} {t : (Int × zS)} (hd : 99 ≤ d) (h : zlp (fun (q : Int × Int × zS) => b_43_71 v2 q.1 q.2.1 q.2.2) n e = some t) (hK : K_43_71 k d x r v2 t) : G_43_71 k d x r v2 e := zlp_go (G := fun e => G_43_71 k d x r v2 e) (K := K_43_71 k d x r v2) (fun e e1 h1 hg => wb_43_71 (q := .inl e1) hd h1 hg) (fun e t1 h1 hk => wb_43_71 (q := .inr t1) hd h1 hk) n e t h hK
/-- RelationFinder.value()I -/
def f_43 (s : zS) : Option ((Int ⊕ Nat) × zS) := if (gI s 0 12) = (-1) then (zb (f_70 s) (fun r3 s4 => some (Sum.inr 11, s4))) else (zb (f_17 0 s) (fun r6 s7 => zg (zR r6) (if r6 = 0 then (zb (f_44 s7) (fun r11 s12 => zo (f_52 (gI (sI s12 0 17 (gI s12 19 0)) 0 17) (sI s12 0 17 (gI s12 19 0))) (fun r14 => zo (zlp (fun (q : Int × Int × zS) => b_43_71 r14 q.1 q.2.1 q.2.2) zF (0, 0, (sI s12 0 17 (gI s12 19 0)))) (fun e15 => some ((Sum.inl e15.1), e15.2))))) else (some ((Sum.inl r6), s7)))))
theorem w_43 {k : zK} {d : Nat} {x : am_H} {s : zS} {q : ((Int ⊕ Nat) × zS)} (hd : 99 ≤ d) (hxl : x.length < 100000) (h : f_43 s = some q) : zgo k d 43 (0, [(0, .ref 0)], []) (hp s ++ x) (zires q.1 x, hp q.2 ++ zext q.1 x) := by
  unfold f_43 at h
  have hM := xM_43 k.1
  refine g_aload_n 1 hM rfl rfl rfl ?_
  refine g_getI 4 12 (gI s 0 12) hM rfl rfl rfl rfl rfl rfl rfl ?_
  refine g_iconst 5 hM rfl rfl ?_
  by_cases hc1 : (gI s 0 12) = (-1)
  · rw [if_pos hc1] at h
    refine g_ic_ne_f 8 25 hM rfl rfl rfl (zR_gI _ _ _) (zR_lit rfl) hc1 ?_
    refine g_aload_n 9 hM rfl rfl rfl ?_
    refine g_getF 12 hM rfl rfl rfl rfl rfl ?_
    obtain ⟨r3, s4, h2, h⟩ := zb_some h
    refine g_call 15 _ [] hM rfl rfl rfl rfl rfl (xM_70 _) rfl (z_rcv2 rfl) rfl rfl (by omega) (w_70 (by omega) h2) rfl ?_
    cases h
    exact g_throw hM rfl rfl rfl hxl (by omega) rfl
  · rw [if_neg hc1] at h
    refine g_ic_ne_t 25 hM rfl rfl (zR_gI _ _ _) (zR_lit rfl) hc1 ?_
    refine g_aload_n 26 hM rfl rfl rfl ?_
    refine g_iconst 27 hM rfl rfl ?_
    obtain ⟨r6, s7, h5, h⟩ := zb_some h
    refine g_call 30 _ [.int (Int32.ofInt r6)] hM rfl rfl rfl rfl rfl (xM_17 _) rfl (z_rcv2 rfl) rfl rfl (by omega) (w_17 (by omega) h5) rfl ?_
    refine g_istore_n 31 hM rfl rfl rfl ?_
    refine g_iload_n 32 hM rfl rfl rfl ?_
    obtain ⟨hg8, h⟩ := zg_some h
    by_cases hc9 : r6 = 0
    · rw [if_pos hc9] at h
      refine g_if_eq_t 37 hM rfl rfl hg8 hc9 ?_
      refine g_aload_n 38 hM rfl rfl rfl ?_
      obtain ⟨r11, s12, h10, h⟩ := zb_some h
      refine g_call 41 _ [] hM rfl rfl rfl rfl rfl (xM_44 _) rfl (z_rcv2 rfl) rfl rfl (by omega) (w_44 (by omega) h10) rfl ?_
      refine g_aload_n 42 hM rfl rfl rfl ?_
      refine g_aload_n 43 hM rfl rfl rfl ?_
      refine g_getF 46 hM rfl rfl rfl rfl rfl ?_
      refine g_getF 49 hM rfl rfl rfl rfl rfl ?_
      refine g_iconst 50 hM rfl rfl ?_
      refine g_iaload 51 (gI s12 19 0) hM rfl rfl rfl rfl ⟨by decide, by decide⟩ rfl ?_
      refine g_putI 54 17 hM rfl rfl rfl rfl rfl rfl rfl ?_
      refine g_aload_n 55 hM rfl rfl rfl ?_
      refine g_getF 58 hM rfl rfl rfl rfl rfl ?_
      refine g_aload_n 59 hM rfl rfl rfl ?_
      refine g_getI 62 17 (gI (sI s12 0 17 (gI s12 19 0)) 0 17) hM rfl rfl rfl rfl rfl rfl rfl ?_
      obtain ⟨r14, h13, h⟩ := zo_some h
      refine g_call 65 _ [.int (Int32.ofInt r14)] hM rfl rfl rfl rfl rfl (xM_52 _) rfl (z_rcv2 rfl) rfl rfl (by omega) (w_52 (by omega) h13) rfl ?_
      refine g_istore_n 66 hM rfl rfl rfl ?_
      refine g_iconst 67 hM rfl rfl ?_
      refine g_istore_n 68 hM rfl rfl rfl ?_
      refine g_iconst 69 hM rfl rfl ?_
      refine g_istore 71 hM rfl rfl rfl ?_
      obtain ⟨e15, h16, h⟩ := zo_some h
      refine g_lv [(0, .ref 0), (2, .int (Int32.ofInt r14)), (3, .int (Int32.ofInt 0)), (4, .int (Int32.ofInt 0))] rfl ⟨rfl, rfl, rfl, rfl, trivial⟩ ?_
      refine wl_43_71 (by omega) h16 ?_
      show zgo k d 43 (137, [(3, .int (Int32.ofInt e15.1))], []) (hp e15.2 ++ x) (zires q.1 x, hp q.2 ++ zext q.1 x)
      refine g_iload_n 138 hM rfl rfl rfl ?_
      cases h
      exact g_ret hM rfl rfl
    · rw [if_neg hc9] at h
      refine g_if_eq_f 35 37 hM rfl rfl rfl hg8 hc9 ?_
      refine g_iload_n 36 hM rfl rfl rfl ?_
      cases h
      exact g_ret hM rfl rfl
/-- RelationFinderLaw.value(LRelationFinder;[J)I -/
def f_12 (s : zS) : Option (Int × zS) := zb (f_43 s) (fun r2 s3 => Sum.elim (fun v4 => zg (zR v4) (some (0, (sJ s3 205 0 (BitVec.ofInt 64 v4))))) (fun c5 => if c5 = 11 then (some (1, s3)) else (none)) r2)
theorem w_12 {k : zK} {d : Nat} {x : am_H} {s s' : zS} {r : Int} (hd : 100 ≤ d) (hxl : x.length < 100000) (h : f_12 s = some (r, s')) : ∃ x', zgrow x x' ∧ zgo k d 12 (0, [(0, .ref 0), (1, .ref 205)], []) (hp s ++ x) (.inl (some (.int (Int32.ofInt r))), hp s' ++ x') := by
  unfold f_12 at h
  have hM := xM_12 k.1
  obtain ⟨r2, s3, h1, h⟩ := zb_some h
  have hwh1 := w_43 (k := k) (d := d - 1) (by omega) hxl h1
  rcases r2 with v4 | c5
  · simp only [ze_l] at h
    refine ⟨x, Or.inl rfl, ?_⟩
    refine g_aload_n 1 hM rfl rfl rfl ?_
    refine g_iconst 2 hM rfl rfl ?_
    refine g_aload_n 3 hM rfl rfl rfl ?_
    refine g_call 6 _ [.int (Int32.ofInt v4), .int (Int32.ofInt 0), .ref 205] hM rfl rfl rfl rfl rfl (xM_43 _) rfl (z_rcv2 rfl) rfl rfl (by omega) hwh1 rfl ?_
    obtain ⟨hg6, h⟩ := zg_some h
    refine g_i2l 7 hM rfl rfl hg6 ?_
    refine g_lastore 8 hM rfl rfl rfl rfl ⟨by decide, by decide⟩ ?_
    refine g_goto 14 hM rfl rfl ?_
    refine g_iconst 15 hM rfl rfl ?_
    cases h
    exact g_ret hM rfl rfl
  · simp only [ze_r] at h
    refine ⟨x ++ [.inr (c5, am_six)], Or.inr ⟨_, rfl⟩, ?_⟩
    refine g_aload_n 1 hM rfl rfl rfl ?_
    refine g_iconst 2 hM rfl rfl ?_
    refine g_aload_n 3 hM rfl rfl rfl ?_
    by_cases hc7 : c5 = 11
    · rw [if_pos hc7] at h
      subst hc7
      refine g_callx (h := 11) _ hM rfl rfl rfl rfl rfl (xM_43 _) rfl (z_rcv2 rfl) rfl (by omega) hwh1 (z_atx hxl) rfl ?_
      refine g_astore_n 12 hM rfl rfl rfl ?_
      refine g_iconst 13 hM rfl rfl ?_
      cases h
      exact g_ret hM rfl rfl
    · rw [if_neg hc7] at h
      cases h
/-- RelationFinder.holds()I -/
def f_46 (s : zS) : Option ((Int ⊕ Nat) × zS) := if (gI s 0 12) = (-1) then (zb (f_70 s) (fun r3 s4 => some (Sum.inr 11, s4))) else (zb (f_17 1 s) (fun r6 s7 => zg (zR r6) (if r6 = 0 then (zb (f_44 s7) (fun r11 s12 => zo (f_45 (gJ s12 18 0) s12) (fun r14 => zg (zR r14) (if r14 = 0 then (some ((Sum.inl 0), s12)) else (some ((Sum.inl 1), s12)))))) else (some ((Sum.inl r6), s7)))))
theorem w_46 {k : zK} {d : Nat} {x : am_H} {s : zS} {q : ((Int ⊕ Nat) × zS)} (hd : 99 ≤ d) (hxl : x.length < 100000) (h : f_46 s = some q) : zgo k d 46 (0, [(0, .ref 0)], []) (hp s ++ x) (zires q.1 x, hp q.2 ++ zext q.1 x) := by
  unfold f_46 at h
  have hM := xM_46 k.1
  refine g_aload_n 1 hM rfl rfl rfl ?_
  refine g_getI 4 12 (gI s 0 12) hM rfl rfl rfl rfl rfl rfl rfl ?_
  refine g_iconst 5 hM rfl rfl ?_
  by_cases hc1 : (gI s 0 12) = (-1)
  · rw [if_pos hc1] at h
    refine g_ic_ne_f 8 25 hM rfl rfl rfl (zR_gI _ _ _) (zR_lit rfl) hc1 ?_
    refine g_aload_n 9 hM rfl rfl rfl ?_
    refine g_getF 12 hM rfl rfl rfl rfl rfl ?_
    obtain ⟨r3, s4, h2, h⟩ := zb_some h
    refine g_call 15 _ [] hM rfl rfl rfl rfl rfl (xM_70 _) rfl (z_rcv2 rfl) rfl rfl (by omega) (w_70 (by omega) h2) rfl ?_
    cases h
    exact g_throw hM rfl rfl rfl hxl (by omega) rfl
  · rw [if_neg hc1] at h
    refine g_ic_ne_t 25 hM rfl rfl (zR_gI _ _ _) (zR_lit rfl) hc1 ?_
    refine g_aload_n 26 hM rfl rfl rfl ?_
    refine g_iconst 27 hM rfl rfl ?_
    obtain ⟨r6, s7, h5, h⟩ := zb_some h
    refine g_call 30 _ [.int (Int32.ofInt r6)] hM rfl rfl rfl rfl rfl (xM_17 _) rfl (z_rcv2 rfl) rfl rfl (by omega) (w_17 (by omega) h5) rfl ?_
    refine g_istore_n 31 hM rfl rfl rfl ?_
    refine g_iload_n 32 hM rfl rfl rfl ?_
    obtain ⟨hg8, h⟩ := zg_some h
    by_cases hc9 : r6 = 0
    · rw [if_pos hc9] at h
      refine g_if_eq_t 37 hM rfl rfl hg8 hc9 ?_
      refine g_aload_n 38 hM rfl rfl rfl ?_
      obtain ⟨r11, s12, h10, h⟩ := zb_some h
      refine g_call 41 _ [] hM rfl rfl rfl rfl rfl (xM_44 _) rfl (z_rcv2 rfl) rfl rfl (by omega) (w_44 (by omega) h10) rfl ?_
      refine g_aload_n 42 hM rfl rfl rfl ?_
      refine g_aload_n 43 hM rfl rfl rfl ?_
      refine g_getF 46 hM rfl rfl rfl rfl rfl ?_
      refine g_getF 49 hM rfl rfl rfl rfl rfl ?_
      refine g_iconst 50 hM rfl rfl ?_
      refine g_laload 51 (gJ s12 18 0) hM rfl rfl rfl rfl ⟨by decide, by decide⟩ rfl ?_
      obtain ⟨r14, h13, h⟩ := zo_some h
      refine g_call 54 _ [.int (Int32.ofInt r14)] hM rfl rfl rfl rfl rfl (xM_45 _) rfl (z_rcv2 rfl) rfl rfl (by omega) (w_45 (by omega) h13) rfl ?_
      obtain ⟨hg15, h⟩ := zg_some h
      by_cases hc16 : r14 = 0
      · rw [if_pos hc16] at h
        refine g_if_eq_t 61 hM rfl rfl hg15 hc16 ?_
        refine g_iconst 62 hM rfl rfl ?_
        cases h
        exact g_ret hM rfl rfl
      · rw [if_neg hc16] at h
        refine g_if_eq_f 57 61 hM rfl rfl rfl hg15 hc16 ?_
        refine g_iconst 58 hM rfl rfl ?_
        refine g_goto 62 hM rfl rfl ?_
        cases h
        exact g_ret hM rfl rfl
    · rw [if_neg hc9] at h
      refine g_if_eq_f 35 37 hM rfl rfl rfl hg8 hc9 ?_
      refine g_iload_n 36 hM rfl rfl rfl ?_
      cases h
      exact g_ret hM rfl rfl
/-- RelationFinderLaw.holds(LRelationFinder;[J)I -/
def f_13 (s : zS) : Option (Int × zS) := zb (f_46 s) (fun r2 s3 => Sum.elim (fun v4 => zg (zR v4) (some (0, (sJ s3 205 0 (BitVec.ofInt 64 v4))))) (fun c5 => if c5 = 11 then (some (1, s3)) else (none)) r2)
theorem w_13 {k : zK} {d : Nat} {x : am_H} {s s' : zS} {r : Int} (hd : 100 ≤ d) (hxl : x.length < 100000) (h : f_13 s = some (r, s')) : ∃ x', zgrow x x' ∧ zgo k d 13 (0, [(0, .ref 0), (1, .ref 205)], []) (hp s ++ x) (.inl (some (.int (Int32.ofInt r))), hp s' ++ x') := by
  unfold f_13 at h
  have hM := xM_13 k.1
  obtain ⟨r2, s3, h1, h⟩ := zb_some h
  have hwh1 := w_46 (k := k) (d := d - 1) (by omega) hxl h1
  rcases r2 with v4 | c5
  · simp only [ze_l] at h
    refine ⟨x, Or.inl rfl, ?_⟩
    refine g_aload_n 1 hM rfl rfl rfl ?_
    refine g_iconst 2 hM rfl rfl ?_
    refine g_aload_n 3 hM rfl rfl rfl ?_
    refine g_call 6 _ [.int (Int32.ofInt v4), .int (Int32.ofInt 0), .ref 205] hM rfl rfl rfl rfl rfl (xM_46 _) rfl (z_rcv2 rfl) rfl rfl (by omega) hwh1 rfl ?_
    obtain ⟨hg6, h⟩ := zg_some h
    refine g_i2l 7 hM rfl rfl hg6 ?_
    refine g_lastore 8 hM rfl rfl rfl rfl ⟨by decide, by decide⟩ ?_
    refine g_goto 14 hM rfl rfl ?_
    refine g_iconst 15 hM rfl rfl ?_
    cases h
    exact g_ret hM rfl rfl
  · simp only [ze_r] at h
    refine ⟨x ++ [.inr (c5, am_six)], Or.inr ⟨_, rfl⟩, ?_⟩
    refine g_aload_n 1 hM rfl rfl rfl ?_
    refine g_iconst 2 hM rfl rfl ?_
    refine g_aload_n 3 hM rfl rfl rfl ?_
    by_cases hc7 : c5 = 11
    · rw [if_pos hc7] at h
      subst hc7
      refine g_callx (h := 11) _ hM rfl rfl rfl rfl rfl (xM_46 _) rfl (z_rcv2 rfl) rfl (by omega) hwh1 (z_atx hxl) rfl ?_
      refine g_astore_n 12 hM rfl rfl rfl ?_
      refine g_iconst 13 hM rfl rfl ?_
      cases h
      exact g_ret hM rfl rfl
    · rw [if_neg hc7] at h
      cases h
