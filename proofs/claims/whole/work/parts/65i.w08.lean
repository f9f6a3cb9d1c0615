/-! THE PURE LAYER: methods as functions, and runs that do what they say (8). By program. -/
theorem wl_131_31 {k : zK} {d : Nat} {x : am_H} {r : am_A × am_H} {v1 : Int} {v2 : Int} {v3 : Int} {s : zS} {n : Nat} {e : (Int)} {t : ((Unit) ⊕ Int)} (hd : 1 ≤ d) (h : zlp (fun (q : Int) => b_131_31 v1 v2 v3 s q) n e = some t) (hK : K_131_31 k d x r v1 v2 v3 s t) : G_131_31 k d x r v1 v2 v3 s e := zlp_go (G := fun e => G_131_31 k d x r v1 v2 v3 s e) (K := K_131_31 k d x r v1 v2 v3 s) (fun e e1 h1 hg => wb_131_31 (q := .inl e1) hd h1 hg) (fun e t1 h1 hk => wb_131_31 (q := .inr t1) hd h1 hk) n e t h hK
def b_131_2 (s : zS) (v1 : Int) : Option ((Int) ⊕ ((Unit) ⊕ Int)) := zg (zR v1) (if v1 < (gI s 1 4) then (zg (0 ≤ v1 ∧ v1 < 8) (zo (zlp (fun (q : Int) => b_131_31 v1 (v1 * 125) (gI s 4 v1) s q) zF 0) (fun e4 => Sum.elim (fun e6 => some (.inl (v1 + 1))) (fun q7 => some (.inr (.inr q7))) e4))) else (some (.inr (.inl ()))))
theorem wb_131_2 {k : zK} {d : Nat} {x : am_H} {r : am_A × am_H} {v1 : Int} {s : zS} {q : (Int) ⊕ ((Unit) ⊕ Int)} (hd : 1 ≤ d) (h : b_131_2 s v1 = some q) (hK : Sum.elim (G_131_2 k d x r s) (K_131_2 k d x r s) q) : G_131_2 k d x r s v1 := by
  unfold b_131_2 at h
  have hM := xM_131 k.1
  show zgo k d 131 (2, [(0, .ref 25), (1, .int (Int32.ofInt v1))], []) (hp s ++ x) r
  refine g_iload_n 3 hM rfl rfl rfl ?_
  refine g_aload_n 4 hM rfl rfl rfl ?_
  refine g_getF 7 hM rfl rfl rfl rfl rfl ?_
  refine g_getI 10 4 (gI s 1 4) hM rfl rfl rfl rfl rfl rfl rfl ?_
  obtain ⟨hg1, h⟩ := zg_some h
  by_cases hc2 : v1 < (gI s 1 4)
  · rw [if_pos hc2] at h
    refine g_ic_ge_f 13 99 hM rfl rfl rfl hg1 (zR_gI _ _ _) hc2 ?_
    refine g_iload_n 14 hM rfl rfl rfl ?_
    refine g_bipush 16 hM rfl rfl rfl ?_
    refine g_imul 17 hM rfl rfl ?_
    refine g_istore_n 18 hM rfl rfl rfl ?_
    refine g_aload_n 19 hM rfl rfl rfl ?_
    refine g_getF 22 hM rfl rfl rfl rfl rfl ?_
    refine g_getF 25 hM rfl rfl rfl rfl rfl ?_
    refine g_iload_n 26 hM rfl rfl rfl ?_
    obtain ⟨hg3, h⟩ := zg_some h
    refine g_iaload 27 (gI s 4 v1) hM rfl rfl rfl rfl hg3 rfl ?_
    refine g_istore_n 28 hM rfl rfl rfl ?_
    refine g_iconst 29 hM rfl rfl ?_
    refine g_istore 31 hM rfl rfl rfl ?_
    obtain ⟨e4, h5, h⟩ := zo_some h
    refine g_lv [(0, .ref 25), (1, .int (Int32.ofInt v1)), (2, .int (Int32.ofInt (v1 * 125))), (3, .int (Int32.ofInt (gI s 4 v1))), (4, .int (Int32.ofInt 0))] rfl ⟨rfl, rfl, rfl, rfl, rfl, trivial⟩ ?_
    refine wl_131_31 (by omega) h5 ?_
    rcases e4 with e6 | q7
    · simp only [ze_l] at h
      show zgo k d 131 (93, [(0, .ref 25), (1, .int (Int32.ofInt v1))], []) (hp s ++ x) r
      refine g_iinc 96 hM rfl rfl rfl rfl ?_
      refine g_goto 2 hM rfl rfl ?_
      cases h
      exact g_lv [(0, .ref 25), (1, .int (Int32.ofInt (v1 + 1)))] rfl ⟨rfl, rfl, trivial⟩ hK
    · cases h
      exact hK
  · rw [if_neg hc2] at h
    refine g_ic_ge_t 99 hM rfl rfl hg1 (zR_gI _ _ _) hc2 ?_
    cases h
    exact g_lv [] rfl trivial hK
theorem wl_131_2 {k : zK} {d : Nat} {x : am_H} {r : am_A × am_H} {s : zS} {n : Nat} {e : (Int)} {t : ((Unit) ⊕ Int)} (hd : 1 ≤ d) (h : zlp (fun (q : Int) => b_131_2 s q) n e = some t) (hK : K_131_2 k d x r s t) : G_131_2 k d x r s e := zlp_go (G := fun e => G_131_2 k d x r s e) (K := K_131_2 k d x r s) (fun e e1 h1 hg => wb_131_2 (q := .inl e1) hd h1 hg) (fun e t1 h1 hk => wb_131_2 (q := .inr t1) hd h1 hk) n e t h hK
/-- RelationFinder$Renamings.isFair()Z -/
def f_131 (s : zS) : Option Int := zo (zlp (fun (q : Int) => b_131_2 s q) zF 0) (fun e1 => Sum.elim (fun e3 => some 1) (fun q4 => some q4) e1)
theorem w_131 {k : zK} {d : Nat} {x : am_H} {s : zS} {q : Int} (hd : 1 ≤ d) (h : f_131 s = some q) : zgo k d 131 (0, [(0, .ref 25)], []) (hp s ++ x) (.inl (some (.int (Int32.ofInt q))), hp s ++ x) := by
  unfold f_131 at h
  have hM := xM_131 k.1
  refine g_iconst 1 hM rfl rfl ?_
  refine g_istore_n 2 hM rfl rfl rfl ?_
  obtain ⟨e1, h2, h⟩ := zo_some h
  refine g_lv [(0, .ref 25), (1, .int (Int32.ofInt 0))] rfl ⟨rfl, rfl, trivial⟩ ?_
  refine wl_131_2 (by omega) h2 ?_
  rcases e1 with e3 | q4
  · simp only [ze_l] at h
    show zgo k d 131 (99, [], []) (hp s ++ x) (.inl (some (.int (Int32.ofInt q))), hp s ++ x)
    refine g_iconst 100 hM rfl rfl ?_
    cases h
    exact g_ret hM rfl rfl
  · cases h
    rfl
def G_134_12 (k : zK) (d : Nat) (x : am_H) (r : am_A × am_H) (v1 : Int) (s : zS) (e : (Int)) : Prop := zgo k d 134 (12, [(0, .ref 25), (1, .int (Int32.ofInt v1)), (2, .int (Int32.ofInt e))], []) (hp s ++ x) r
def K_134_12 (k : zK) (d : Nat) (x : am_H) (r : am_A × am_H) (v1 : Int) (s : zS) (t : (Int)) : Prop := zgo k d 134 (39, [(0, .ref 25), (1, .int (Int32.ofInt v1)), (2, .int (Int32.ofInt t))], []) (hp s ++ x) r
def b_134_12 (v1 : Int) (s : zS) (v2 : Int) : Option ((Int) ⊕ (Int)) := zg (zR v2) (if v2 < 0 then (some (.inr v2)) else (zg (0 ≤ v2 ∧ v2 < 5) (zg (0 ≤ (v2 + 1) ∧ (v2 + 1) < 5) (if (gI s 26 (v2 + 1)) < (gI s 26 v2) then (some (.inl (v2 + (-1)))) else (some (.inr v2))))))
theorem wb_134_12 {k : zK} {d : Nat} {x : am_H} {r : am_A × am_H} {v1 : Int} {v2 : Int} {s : zS} {q : (Int) ⊕ (Int)} (hd : 1 ≤ d) (h : b_134_12 v1 s v2 = some q) (hK : Sum.elim (G_134_12 k d x r v1 s) (K_134_12 k d x r v1 s) q) : G_134_12 k d x r v1 s v2 := by
  unfold b_134_12 at h
  have hM := xM_134 k.1
  show zgo k d 134 (12, [(0, .ref 25), (1, .int (Int32.ofInt v1)), (2, .int (Int32.ofInt v2))], []) (hp s ++ x) r
  refine g_iload_n 13 hM rfl rfl rfl ?_
  obtain ⟨hg1, h⟩ := zg_some h
  by_cases hc2 : v2 < 0
  · rw [if_pos hc2] at h
    refine g_if_lt_t 39 hM rfl rfl hg1 hc2 ?_
    cases h
    exact g_lv [(0, .ref 25), (1, .int (Int32.ofInt v1)), (2, .int (Int32.ofInt v2))] rfl ⟨rfl, rfl, rfl, trivial⟩ hK
  · rw [if_neg hc2] at h
    refine g_if_lt_f 16 39 hM rfl rfl rfl hg1 hc2 ?_
    refine g_aload_n 17 hM rfl rfl rfl ?_
    refine g_getF 20 hM rfl rfl rfl rfl rfl ?_
    refine g_iload_n 21 hM rfl rfl rfl ?_
    obtain ⟨hg3, h⟩ := zg_some h
    refine g_iaload 22 (gI s 26 v2) hM rfl rfl rfl rfl hg3 rfl ?_
    refine g_aload_n 23 hM rfl rfl rfl ?_
    refine g_getF 26 hM rfl rfl rfl rfl rfl ?_
    refine g_iload_n 27 hM rfl rfl rfl ?_
    refine g_iconst 28 hM rfl rfl ?_
    refine g_iadd 29 hM rfl rfl ?_
    obtain ⟨hg4, h⟩ := zg_some h
    refine g_iaload 30 (gI s 26 (v2 + 1)) hM rfl rfl rfl rfl hg4 rfl ?_
    by_cases hc5 : (gI s 26 (v2 + 1)) < (gI s 26 v2)
    · rw [if_pos hc5] at h
      refine g_ic_le_f 33 39 hM rfl rfl rfl (zR_gI _ _ _) (zR_gI _ _ _) hc5 ?_
      refine g_iinc 36 hM rfl rfl rfl rfl ?_
      refine g_goto 12 hM rfl rfl ?_
      cases h
      exact g_lv [(0, .ref 25), (1, .int (Int32.ofInt v1)), (2, .int (Int32.ofInt (v2 + (-1))))] rfl ⟨rfl, rfl, rfl, trivial⟩ hK
    · rw [if_neg hc5] at h
      refine g_ic_le_t 39 hM rfl rfl (zR_gI _ _ _) (zR_gI _ _ _) hc5 ?_
      cases h
      exact g_lv [(0, .ref 25), (1, .int (Int32.ofInt v1)), (2, .int (Int32.ofInt v2))] rfl ⟨rfl, rfl, rfl, trivial⟩ hK
theorem wl_134_12 {k : zK} {d : Nat} {x : am_H} {r : am_A × am_H} {v1 : Int} {s : zS} {n : Nat} {e : (Int)} {t : (Int)} (hd : 1 ≤ d) (h : zlp (fun (q : Int) => b_134_12 v1 s q) n e = some t) (hK : K_134_12 k d x r v1 s t) : G_134_12 k d x r v1 s e := zlp_go (G := fun e => G_134_12 k d x r v1 s e) (K := K_134_12 k d x r v1 s) (fun e e1 h1 hg => wb_134_12 (q := .inl e1) hd h1 hg) (fun e t1 h1 hk => wb_134_12 (q := .inr t1) hd h1 hk) n e t h hK
def G_134_49 (k : zK) (d : Nat) (x : am_H) (r : am_A × am_H) (v1 : Int) (v2 : Int) (s : zS) (e : (Int)) : Prop := zgo k d 134 (49, [(0, .ref 25), (1, .int (Int32.ofInt v1)), (2, .int (Int32.ofInt v2)), (3, .int (Int32.ofInt e))], []) (hp s ++ x) r
def K_134_49 (k : zK) (d : Nat) (x : am_H) (r : am_A × am_H) (v1 : Int) (v2 : Int) (s : zS) (t : (Int)) : Prop := zgo k d 134 (75, [(0, .ref 25), (1, .int (Int32.ofInt v1)), (2, .int (Int32.ofInt v2)), (3, .int (Int32.ofInt t))], []) (hp s ++ x) r
def b_134_49 (v1 : Int) (v2 : Int) (s : zS) (v3 : Int) : Option ((Int) ⊕ (Int)) := zg (zR v3) (zg (zR v2) (if v2 < v3 then (zg (0 ≤ v3 ∧ v3 < 5) (zg (0 ≤ v2 ∧ v2 < 5) (if (gI s 26 v3) < (gI s 26 v2) then (some (.inl (v3 + (-1)))) else (some (.inr v3))))) else (some (.inr v3))))
theorem wb_134_49 {k : zK} {d : Nat} {x : am_H} {r : am_A × am_H} {v1 : Int} {v2 : Int} {v3 : Int} {s : zS} {q : (Int) ⊕ (Int)} (hd : 1 ≤ d) (h : b_134_49 v1 v2 s v3 = some q) (hK : Sum.elim (G_134_49 k d x r v1 v2 s) (K_134_49 k d x r v1 v2 s) q) : G_134_49 k d x r v1 v2 s v3 := by
  unfold b_134_49 at h
  have hM := xM_134 k.1
  show zgo k d 134 (49, [(0, .ref 25), (1, .int (Int32.ofInt v1)), (2, .int (Int32.ofInt v2)), (3, .int (Int32.ofInt v3))], []) (hp s ++ x) r
  refine g_iload_n 50 hM rfl rfl rfl ?_
  refine g_iload_n 51 hM rfl rfl rfl ?_
  obtain ⟨hg1, h⟩ := zg_some h
  obtain ⟨hg2, h⟩ := zg_some h
  by_cases hc3 : v2 < v3
  · rw [if_pos hc3] at h
    refine g_ic_le_f 54 75 hM rfl rfl rfl hg1 hg2 hc3 ?_
    refine g_aload_n 55 hM rfl rfl rfl ?_
    refine g_getF 58 hM rfl rfl rfl rfl rfl ?_
    refine g_iload_n 59 hM rfl rfl rfl ?_
    obtain ⟨hg4, h⟩ := zg_some h
    refine g_iaload 60 (gI s 26 v3) hM rfl rfl rfl rfl hg4 rfl ?_
    refine g_aload_n 61 hM rfl rfl rfl ?_
    refine g_getF 64 hM rfl rfl rfl rfl rfl ?_
    refine g_iload_n 65 hM rfl rfl rfl ?_
    obtain ⟨hg5, h⟩ := zg_some h
    refine g_iaload 66 (gI s 26 v2) hM rfl rfl rfl rfl hg5 rfl ?_
    by_cases hc6 : (gI s 26 v3) < (gI s 26 v2)
    · rw [if_pos hc6] at h
      refine g_ic_ge_f 69 75 hM rfl rfl rfl (zR_gI _ _ _) (zR_gI _ _ _) hc6 ?_
      refine g_iinc 72 hM rfl rfl rfl rfl ?_
      refine g_goto 49 hM rfl rfl ?_
      cases h
      exact g_lv [(0, .ref 25), (1, .int (Int32.ofInt v1)), (2, .int (Int32.ofInt v2)), (3, .int (Int32.ofInt (v3 + (-1))))] rfl ⟨rfl, rfl, rfl, rfl, trivial⟩ hK
    · rw [if_neg hc6] at h
      refine g_ic_ge_t 75 hM rfl rfl (zR_gI _ _ _) (zR_gI _ _ _) hc6 ?_
      cases h
      exact g_lv [(0, .ref 25), (1, .int (Int32.ofInt v1)), (2, .int (Int32.ofInt v2)), (3, .int (Int32.ofInt v3))] rfl ⟨rfl, rfl, rfl, rfl, trivial⟩ hK
  · rw [if_neg hc3] at h
    refine g_ic_le_t 75 hM rfl rfl hg1 hg2 hc3 ?_
    cases h
    exact g_lv [(0, .ref 25), (1, .int (Int32.ofInt v1)), (2, .int (Int32.ofInt v2)), (3, .int (Int32.ofInt v3))] rfl ⟨rfl, rfl, rfl, rfl, trivial⟩ hK
theorem wl_134_49 {k : zK} {d : Nat} {x : am_H} {r : am_A × am_H} {v1 : Int} {v2 : Int} {s : zS} {n : Nat} {e : (Int)} {t : (Int)} (hd : 1 ≤ d) (h : zlp (fun (q : Int) => b_134_49 v1 v2 s q) n e = some t) (hK : K_134_49 k d x r v1 v2 s t) : G_134_49 k d x r v1 v2 s e := zlp_go (G := fun e => G_134_49 k d x r v1 v2 s e) (K := K_134_49 k d x r v1 v2 s) (fun e e1 h1 hg => wb_134_49 (q := .inl e1) hd h1 hg) (fun e t1 h1 hk => wb_134_49 (q := .inr t1) hd h1 hk) n e t h hK
/-- RelationFinder$Renamings.swap(II)V -/
def f_135 (v1 : Int) (v2 : Int) (s : zS) : Option (Unit × zS) := zg (0 ≤ v1 ∧ v1 < 5) (zg (0 ≤ v2 ∧ v2 < 5) (some ((), (sI (sI s 26 v1 (gI s 26 v2)) 26 v2 (gI s 26 v1)))))
theorem w_135 {k : zK} {d : Nat} {x : am_H} {v1 : Int} {v2 : Int} {s : zS} {q : (Unit × zS)} (hd : 0 ≤ d) (h : f_135 v1 v2 s = some q) : zgo k d 135 (0, [(0, .ref 25), (1, .int (Int32.ofInt v1)), (2, .int (Int32.ofInt v2))], []) (hp s ++ x) (.inl (none), hp q.2 ++ x) := by
  unfold f_135 at h
  have hM := xM_135 k.1
  refine g_aload_n 1 hM rfl rfl rfl ?_
  refine g_getF 4 hM rfl rfl rfl rfl rfl ?_
  refine g_iload_n 5 hM rfl rfl rfl ?_
  obtain ⟨hg1, h⟩ := zg_some h
  refine g_iaload 6 (gI s 26 v1) hM rfl rfl rfl rfl hg1 rfl ?_
  refine g_istore_n 7 hM rfl rfl rfl ?_
  refine g_aload_n 8 hM rfl rfl rfl ?_
  refine g_getF 11 hM rfl rfl rfl rfl rfl ?_
  refine g_iload_n 12 hM rfl rfl rfl ?_
  refine g_aload_n 13 hM rfl rfl rfl ?_
  refine g_getF 16 hM rfl rfl rfl rfl rfl ?_
  refine g_iload_n 17 hM rfl rfl rfl ?_
  obtain ⟨hg2, h⟩ := zg_some h
  refine g_iaload 18 (gI s 26 v2) hM rfl rfl rfl rfl hg2 rfl ?_
  refine g_iastore 19 hM rfl rfl rfl rfl hg1 ?_
  refine g_aload_n 20 hM rfl rfl rfl ?_
  refine g_getF 23 hM rfl rfl rfl rfl rfl ?_
  refine g_iload_n 24 hM rfl rfl rfl ?_
  refine g_iload_n 25 hM rfl rfl rfl ?_
  refine g_iastore 26 hM rfl rfl rfl rfl hg2 ?_
  cases h
  exact g_ret hM rfl rfl
def G_134_91 (k : zK) (d : Nat) (x : am_H) (r : am_A × am_H) (e : (Int × Int × zS)) : Prop := zgo k d 134 (91, [(0, .ref 25), (4, .int (Int32.ofInt e.1)), (5, .int (Int32.ofInt e.2.1))], []) (hp e.2.2 ++ x) r
def K_134_91 (k : zK) (d : Nat) (x : am_H) (r : am_A × am_H) (t : (zS)) : Prop := zgo k d 134 (115, [], []) (hp t ++ x) r
def b_134_91 (v4 : Int) (v5 : Int) (s : zS) : Option ((Int × Int × zS) ⊕ (zS)) := zg (zR v4) (zg (zR v5) (if v4 < v5 then (zb (f_135 v4 v5 s) (fun r5 s6 => some (.inl ((v4 + 1), (v5 + (-1)), s6)))) else (some (.inr s))))
theorem wb_134_91 {k : zK} {d : Nat} {x : am_H} {r : am_A × am_H} {v4 : Int} {v5 : Int} {s : zS} {q : (Int × Int × zS) ⊕ (zS)} (hd : 1 ≤ d) (h : b_134_91 v4 v5 s = some q) (hK : Sum.elim (G_134_91 k d x r) (K_134_91 k d x r) q) : G_134_91 k d x r (v4, v5, s) := by
  unfold b_134_91 at h
  have hM := xM_134 k.1
  show zgo k d 134 (91, [(0, .ref 25), (4, .int (Int32.ofInt v4)), (5, .int (Int32.ofInt v5))], []) (hp s ++ x) r
  refine g_iload 93 hM rfl rfl rfl ?_
  refine g_iload 95 hM rfl rfl rfl ?_
  obtain ⟨hg1, h⟩ := zg_some h
  obtain ⟨hg2, h⟩ := zg_some h
  by_cases hc3 : v4 < v5
  · rw [if_pos hc3] at h
    refine g_ic_ge_f 98 115 hM rfl rfl rfl hg1 hg2 hc3 ?_
    refine g_aload_n 99 hM rfl rfl rfl ?_
    refine g_iload 101 hM rfl rfl rfl ?_
    refine g_iload 103 hM rfl rfl rfl ?_
    obtain ⟨r5, s6, h4, h⟩ := zb_some h
    refine g_call 106 _ [] hM rfl rfl rfl rfl rfl (xM_135 _) rfl (z_rcv2 rfl) rfl rfl (by omega) (w_135 (by omega) h4) rfl ?_
    refine g_iinc 109 hM rfl rfl rfl rfl ?_
    refine g_iinc 112 hM rfl rfl rfl rfl ?_
    refine g_goto 91 hM rfl rfl ?_
    cases h
    exact g_lv [(0, .ref 25), (4, .int (Int32.ofInt (v4 + 1))), (5, .int (Int32.ofInt (v5 + (-1))))] rfl ⟨rfl, rfl, rfl, trivial⟩ hK
  · rw [if_neg hc3] at h
    refine g_ic_ge_t 115 hM rfl rfl hg1 hg2 hc3 ?_
    cases h
    exact g_lv [] rfl trivial hK
theorem wl_134_91 {k : zK} {d : Nat} {x : am_H} {r : am_A × am_H} {n : Nat} {e : (Int × Int × zS)} {t : (zS)} (hd : 1 ≤ d) (h : zlp (fun (q : Int × Int × zS) => b_134_91 q.1 q.2.1 q.2.2) n e = some t) (hK : K_134_91 k d x r t) : G_134_91 k d x r e := zlp_go (G := fun e => G_134_91 k d x r e) (K := K_134_91 k d x r) (fun e e1 h1 hg => wb_134_91 (q := .inl e1) hd h1 hg) (fun e t1 h1 hk => wb_134_91 (q := .inr t1) hd h1 hk) n e t h hK
def j_134_75 (v1 : Int) (v2 : Int) (v3 : Int) (s : zS) : Option (Int × zS) := zb (f_135 v2 v3 s) (fun r2 s3 => zo (zlp (fun (q : Int × Int × zS) => b_134_91 q.1 q.2.1 q.2.2) zF ((v2 + 1), (v1 - 1), s3)) (fun e4 => some (1, e4)))
theorem wj_134_75 {k : zK} {d : Nat} {x : am_H} {v1 : Int} {v2 : Int} {v3 : Int} {s : zS} {q : (Int × zS)} (hd : 1 ≤ d) (h : j_134_75 v1 v2 v3 s = some q) : zgo k d 134 (75, [(0, .ref 25), (1, .int (Int32.ofInt v1)), (2, .int (Int32.ofInt v2)), (3, .int (Int32.ofInt v3))], []) (hp s ++ x) (.inl (some (.int (Int32.ofInt q.1))), hp q.2 ++ x) := by
  unfold j_134_75 at h
  have hM := xM_134 k.1
  refine g_aload_n 76 hM rfl rfl rfl ?_
  refine g_iload_n 77 hM rfl rfl rfl ?_
  refine g_iload_n 78 hM rfl rfl rfl ?_
  obtain ⟨r2, s3, h1, h⟩ := zb_some h
  refine g_call 81 _ [] hM rfl rfl rfl rfl rfl (xM_135 _) rfl (z_rcv2 rfl) rfl rfl (by omega) (w_135 (by omega) h1) rfl ?_
  refine g_iload_n 82 hM rfl rfl rfl ?_
  refine g_iconst 83 hM rfl rfl ?_
  refine g_iadd 84 hM rfl rfl ?_
  refine g_istore 86 hM rfl rfl rfl ?_
  refine g_iload_n 87 hM rfl rfl rfl ?_
  refine g_iconst 88 hM rfl rfl ?_
  refine g_isub 89 hM rfl rfl ?_
  refine g_istore 91 hM rfl rfl rfl ?_
  obtain ⟨e4, h5, h⟩ := zo_some h
  refine g_lv [(0, .ref 25), (4, .int (Int32.ofInt (v2 + 1))), (5, .int (Int32.ofInt (v1 - 1)))] rfl ⟨rfl, rfl, rfl, trivial⟩ ?_
  refine wl_134_91 (by omega) h5 ?_
  show zgo k d 134 (115, [], []) (hp e4 ++ x) (.inl (some (.int (Int32.ofInt q.1))), hp q.2 ++ x)
  refine g_iconst 116 hM rfl rfl ?_
  cases h
  exact g_ret hM rfl rfl
def j_134_39 (v1 : Int) (v2 : Int) (s : zS) : Option (Int × zS) := zg (zR v2) (if v2 < 0 then (some (0, s)) else (zo (zlp (fun (q : Int) => b_134_49 v1 v2 s q) zF (v1 - 1)) (fun e3 => j_134_75 v1 v2 e3 s)))
theorem wj_134_39 {k : zK} {d : Nat} {x : am_H} {v1 : Int} {v2 : Int} {s : zS} {q : (Int × zS)} (hd : 1 ≤ d) (h : j_134_39 v1 v2 s = some q) : zgo k d 134 (39, [(0, .ref 25), (1, .int (Int32.ofInt v1)), (2, .int (Int32.ofInt v2))], []) (hp s ++ x) (.inl (some (.int (Int32.ofInt q.1))), hp q.2 ++ x) := by
  unfold j_134_39 at h
  have hM := xM_134 k.1
  refine g_iload_n 40 hM rfl rfl rfl ?_
  obtain ⟨hg1, h⟩ := zg_some h
  by_cases hc2 : v2 < 0
  · rw [if_pos hc2] at h
    refine g_if_ge_f 43 45 hM rfl rfl rfl hg1 hc2 ?_
    refine g_iconst 44 hM rfl rfl ?_
    cases h
    exact g_ret hM rfl rfl
  · rw [if_neg hc2] at h
    refine g_if_ge_t 45 hM rfl rfl hg1 hc2 ?_
    refine g_iload_n 46 hM rfl rfl rfl ?_
    refine g_iconst 47 hM rfl rfl ?_
    refine g_isub 48 hM rfl rfl ?_
    refine g_istore_n 49 hM rfl rfl rfl ?_
    obtain ⟨e3, h4, h⟩ := zo_some h
    refine g_lv [(0, .ref 25), (1, .int (Int32.ofInt v1)), (2, .int (Int32.ofInt v2)), (3, .int (Int32.ofInt (v1 - 1)))] rfl ⟨rfl, rfl, rfl, rfl, trivial⟩ ?_
    refine wl_134_49 (by omega) h4 ?_
    show zgo k d 134 (75, [(0, .ref 25), (1, .int (Int32.ofInt v1)), (2, .int (Int32.ofInt v2)), (3, .int (Int32.ofInt e3))], []) (hp s ++ x) (.inl (some (.int (Int32.ofInt q.1))), hp q.2 ++ x)
    refine g_lv [(0, .ref 25), (1, .int (Int32.ofInt v1)), (2, .int (Int32.ofInt v2)), (3, .int (Int32.ofInt e3))] rfl ⟨rfl, rfl, rfl, rfl, trivial⟩ ?_
    exact wj_134_75 (by omega) h
/-- RelationFinder$Renamings.step()Z -/
def f_134 (s : zS) : Option (Int × zS) := zo (zlp (fun (q : Int) => b_134_12 (gI s 1 0) s q) zF ((gI s 1 0) - 2)) (fun e1 => j_134_39 (gI s 1 0) e1 s)
theorem w_134 {k : zK} {d : Nat} {x : am_H} {s : zS} {q : (Int × zS)} (hd : 1 ≤ d) (h : f_134 s = some q) : zgo k d 134 (0, [(0, .ref 25)], []) (hp s ++ x) (.inl (some (.int (Int32.ofInt q.1))), hp q.2 ++ x) := by
  unfold f_134 at h
  have hM := xM_134 k.1
  refine g_aload_n 1 hM rfl rfl rfl ?_
  refine g_getF 4 hM rfl rfl rfl rfl rfl ?_
  refine g_getI 7 0 (gI s 1 0) hM rfl rfl rfl rfl rfl rfl rfl ?_
  refine g_istore_n 8 hM rfl rfl rfl ?_
  refine g_iload_n 9 hM rfl rfl rfl ?_
  refine g_iconst 10 hM rfl rfl ?_
  refine g_isub 11 hM rfl rfl ?_
  refine g_istore_n 12 hM rfl rfl rfl ?_
  obtain ⟨e1, h2, h⟩ := zo_some h
  refine g_lv [(0, .ref 25), (1, .int (Int32.ofInt (gI s 1 0))), (2, .int (Int32.ofInt ((gI s 1 0) - 2)))] rfl ⟨rfl, rfl, rfl, trivial⟩ ?_
  refine wl_134_12 (by omega) h2 ?_
  show zgo k d 134 (39, [(0, .ref 25), (1, .int (Int32.ofInt (gI s 1 0))), (2, .int (Int32.ofInt e1))], []) (hp s ++ x) (.inl (some (.int (Int32.ofInt q.1))), hp q.2 ++ x)
  refine g_lv [(0, .ref 25), (1, .int (Int32.ofInt (gI s 1 0))), (2, .int (Int32.ofInt e1))] rfl ⟨rfl, rfl, rfl, trivial⟩ ?_
  exact wj_134_39 (by omega) h
def G_133_2 (k : zK) (d : Nat) (x : am_H) (r : am_A × am_H) (e : (Int × zS)) : Prop := zgo k d 133 (2, [(0, .ref 25), (1, .int (Int32.ofInt e.1))], []) (hp e.2 ++ x) r
def K_133_2 (k : zK) (d : Nat) (x : am_H) (r : am_A × am_H) (t : (zS)) : Prop := zgo k d 133 (85, [(0, .ref 25)], []) (hp t ++ x) r
def G_53_2 (k : zK) (d : Nat) (x : am_H) (r : am_A × am_H) (v1 : Int) (s : zS) (e : (Int)) : Prop := zgo k d 53 (2, [(0, .ref 1), (1, .int (Int32.ofInt v1)), (2, .int (Int32.ofInt e))], []) (hp s ++ x) r
def K_53_2 (k : zK) (d : Nat) (x : am_H) (r : am_A × am_H) (v1 : Int) (s : zS) (t : ((Unit) ⊕ Int)) : Prop := Sum.elim (fun e => zgo k d 53 (28, [], []) (hp s ++ x) r) (fun q => r = (.inl (some (.int (Int32.ofInt q))), hp s ++ x)) t
def b_53_2 (v1 : Int) (s : zS) (v2 : Int) : Option ((Int) ⊕ ((Unit) ⊕ Int)) := zg (zR v2) (if v2 < (gI s 1 8) then (zg (0 ≤ v2 ∧ v2 < 12) (zg (zR v1) (if (gI s 7 v2) = v1 then (some (.inr (.inr v2))) else (some (.inl (v2 + 1)))))) else (some (.inr (.inl ()))))
theorem wb_53_2 {k : zK} {d : Nat} {x : am_H} {r : am_A × am_H} {v1 : Int} {v2 : Int} {s : zS} {q : (Int) ⊕ ((Unit) ⊕ Int)} (hd : 0 ≤ d) (h : b_53_2 v1 s v2 = some q) (hK : Sum.elim (G_53_2 k d x r v1 s) (K_53_2 k d x r v1 s) q) : G_53_2 k d x r v1 s v2 := by
  unfold b_53_2 at h
  have hM := xM_53 k.1
  show zgo k d 53 (2, [(0, .ref 1), (1, .int (Int32.ofInt v1)), (2, .int (Int32.ofInt v2))], []) (hp s ++ x) r
  refine g_iload_n 3 hM rfl rfl rfl ?_
  refine g_aload_n 4 hM rfl rfl rfl ?_
  refine g_getI 7 8 (gI s 1 8) hM rfl rfl rfl rfl rfl rfl rfl ?_
  obtain ⟨hg1, h⟩ := zg_some h
  by_cases hc2 : v2 < (gI s 1 8)
  · rw [if_pos hc2] at h
    refine g_ic_ge_f 10 28 hM rfl rfl rfl hg1 (zR_gI _ _ _) hc2 ?_
    refine g_aload_n 11 hM rfl rfl rfl ?_
    refine g_getF 14 hM rfl rfl rfl rfl rfl ?_
    refine g_iload_n 15 hM rfl rfl rfl ?_
    obtain ⟨hg3, h⟩ := zg_some h
    refine g_iaload 16 (gI s 7 v2) hM rfl rfl rfl rfl hg3 rfl ?_
    refine g_iload_n 17 hM rfl rfl rfl ?_
    obtain ⟨hg4, h⟩ := zg_some h
    by_cases hc5 : (gI s 7 v2) = v1
    · rw [if_pos hc5] at h
      refine g_ic_ne_f 20 22 hM rfl rfl rfl (zR_gI _ _ _) hg4 hc5 ?_
      refine g_iload_n 21 hM rfl rfl rfl ?_
      cases h
      rw [show r = _ from hK]
      exact g_ret hM rfl rfl
    · rw [if_neg hc5] at h
      refine g_ic_ne_t 22 hM rfl rfl (zR_gI _ _ _) hg4 hc5 ?_
      refine g_iinc 25 hM rfl rfl rfl rfl ?_
      refine g_goto 2 hM rfl rfl ?_
      cases h
      exact g_lv [(0, .ref 1), (1, .int (Int32.ofInt v1)), (2, .int (Int32.ofInt (v2 + 1)))] rfl ⟨rfl, rfl, rfl, trivial⟩ hK
  · rw [if_neg hc2] at h
    refine g_ic_ge_t 28 hM rfl rfl hg1 (zR_gI _ _ _) hc2 ?_
    cases h
    exact g_lv [] rfl trivial hK
theorem wl_53_2 {k : zK} {d : Nat} {x : am_H} {r : am_A × am_H} {v1 : Int} {s : zS} {n : Nat} {e : (Int)} {t : ((Unit) ⊕ Int)} (hd : 0 ≤ d) (h : zlp (fun (q : Int) => b_53_2 v1 s q) n e = some t) (hK : K_53_2 k d x r v1 s t) : G_53_2 k d x r v1 s e := zlp_go (G := fun e => G_53_2 k d x r v1 s e) (K := K_53_2 k d x r v1 s) (fun e e1 h1 hg => wb_53_2 (q := .inl e1) hd h1 hg) (fun e t1 h1 hk => wb_53_2 (q := .inr t1) hd h1 hk) n e t h hK
/-- RelationFinder$World.rankOf(I)I -/
def f_53 (v1 : Int) (s : zS) : Option Int := zo (zlp (fun (q : Int) => b_53_2 v1 s q) zF 0) (fun e1 => Sum.elim (fun e3 => some (-1)) (fun q4 => some q4) e1)
theorem w_53 {k : zK} {d : Nat} {x : am_H} {v1 : Int} {s : zS} {q : Int} (hd : 0 ≤ d) (h : f_53 v1 s = some q) : zgo k d 53 (0, [(0, .ref 1), (1, .int (Int32.ofInt v1))], []) (hp s ++ x) (.inl (some (.int (Int32.ofInt q))), hp s ++ x) := by
  unfold f_53 at h
  have hM := xM_53 k.1
  refine g_iconst 1 hM rfl rfl ?_
  refine g_istore_n 2 hM rfl rfl rfl ?_
  obtain ⟨e1, h2, h⟩ := zo_some h
  refine g_lv [(0, .ref 1), (1, .int (Int32.ofInt v1)), (2, .int (Int32.ofInt 0))] rfl ⟨rfl, rfl, rfl, trivial⟩ ?_
  refine wl_53_2 (by omega) h2 ?_
  rcases e1 with e3 | q4
  · simp only [ze_l] at h
    show zgo k d 53 (28, [], []) (hp s ++ x) (.inl (some (.int (Int32.ofInt q))), hp s ++ x)
    refine g_iconst 29 hM rfl rfl ?_
    cases h
    exact g_ret hM rfl rfl
  · cases h
    rfl
def b_133_2 (v1 : Int) (s : zS) : Option ((Int × zS) ⊕ (zS)) := zg (zR v1) (if v1 < (gI s 1 8) then (zg (0 ≤ v1 ∧ v1 < 12) (zg (0 ≤ (gI s 7 v1) ∧ zR (gI s 7 v1) ∧ (0 : Int) < 125 ∧ zR 125) (zg (0 ≤ ((gI s 7 v1) / 125) ∧ ((gI s 7 v1) / 125) < 8) (zo (f_132 ((gI s 7 v1) % 125) (gI s 4 ((gI s 7 v1) / 125)) s) (fun r7 => zo (f_53 ((((gI s 7 v1) / 125) * 125) + r7) s) (fun r9 => zg (0 ≤ (((gI s 25 2) * 12) + v1) ∧ (((gI s 25 2) * 12) + v1) < 1440) (some (.inl ((v1 + 1), (sI s 27 (((gI s 25 2) * 12) + v1) r9)))))))))) else (some (.inr s)))
theorem wb_133_2 {k : zK} {d : Nat} {x : am_H} {r : am_A × am_H} {v1 : Int} {s : zS} {q : (Int × zS) ⊕ (zS)} (hd : 1 ≤ d) (h : b_133_2 v1 s = some q) (hK : Sum.elim (G_133_2 k d x r) (K_133_2 k d x r) q) : G_133_2 k d x r (v1, s) := by
  unfold b_133_2 at h
  have hM := xM_133 k.1
  show zgo k d 133 (2, [(0, .ref 25), (1, .int (Int32.ofInt v1))], []) (hp s ++ x) r
  refine g_iload_n 3 hM rfl rfl rfl ?_
  refine g_aload_n 4 hM rfl rfl rfl ?_
  refine g_getF 7 hM rfl rfl rfl rfl rfl ?_
  refine g_getI 10 8 (gI s 1 8) hM rfl rfl rfl rfl rfl rfl rfl ?_
  obtain ⟨hg1, h⟩ := zg_some h
  by_cases hc2 : v1 < (gI s 1 8)
  · rw [if_pos hc2] at h
    refine g_ic_ge_f 13 85 hM rfl rfl rfl hg1 (zR_gI _ _ _) hc2 ?_
    refine g_aload_n 14 hM rfl rfl rfl ?_
    refine g_getF 17 hM rfl rfl rfl rfl rfl ?_
    refine g_getF 20 hM rfl rfl rfl rfl rfl ?_
    refine g_iload_n 21 hM rfl rfl rfl ?_
    obtain ⟨hg3, h⟩ := zg_some h
    refine g_iaload 22 (gI s 7 v1) hM rfl rfl rfl rfl hg3 rfl ?_
    refine g_bipush 24 hM rfl rfl rfl ?_
    obtain ⟨hg4, h⟩ := zg_some h
    refine g_idiv 25 hM rfl rfl hg4 ?_
    refine g_istore_n 26 hM rfl rfl rfl ?_
    refine g_aload_n 27 hM rfl rfl rfl ?_
    refine g_aload_n 28 hM rfl rfl rfl ?_
    refine g_getF 31 hM rfl rfl rfl rfl rfl ?_
    refine g_getF 34 hM rfl rfl rfl rfl rfl ?_
    refine g_iload_n 35 hM rfl rfl rfl ?_
    refine g_iaload 36 (gI s 7 v1) hM rfl rfl rfl rfl hg3 rfl ?_
    refine g_bipush 38 hM rfl rfl rfl ?_
    refine g_irem 39 hM rfl rfl hg4 ?_
    refine g_aload_n 40 hM rfl rfl rfl ?_
    refine g_getF 43 hM rfl rfl rfl rfl rfl ?_
    refine g_getF 46 hM rfl rfl rfl rfl rfl ?_
    refine g_iload_n 47 hM rfl rfl rfl ?_
    obtain ⟨hg5, h⟩ := zg_some h
    refine g_iaload 48 (gI s 4 ((gI s 7 v1) / 125)) hM rfl rfl rfl rfl hg5 rfl ?_
    obtain ⟨r7, h6, h⟩ := zo_some h
    refine g_call 51 _ [.int (Int32.ofInt r7)] hM rfl rfl rfl rfl rfl (xM_132 _) rfl (z_rcv2 rfl) rfl rfl (by omega) (w_132 (by omega) h6) rfl ?_
    refine g_istore_n 52 hM rfl rfl rfl ?_
    refine g_aload_n 53 hM rfl rfl rfl ?_
    refine g_getF 56 hM rfl rfl rfl rfl rfl ?_
    refine g_aload_n 57 hM rfl rfl rfl ?_
    refine g_getI 60 2 (gI s 25 2) hM rfl rfl rfl rfl rfl rfl rfl ?_
    refine g_bipush 62 hM rfl rfl rfl ?_
    refine g_imul 63 hM rfl rfl ?_
    refine g_iload_n 64 hM rfl rfl rfl ?_
    refine g_iadd 65 hM rfl rfl ?_
    refine g_aload_n 66 hM rfl rfl rfl ?_
    refine g_getF 69 hM rfl rfl rfl rfl rfl ?_
    refine g_iload_n 70 hM rfl rfl rfl ?_
    refine g_bipush 72 hM rfl rfl rfl ?_
    refine g_imul 73 hM rfl rfl ?_
    refine g_iload_n 74 hM rfl rfl rfl ?_
    refine g_iadd 75 hM rfl rfl ?_
    obtain ⟨r9, h8, h⟩ := zo_some h
    refine g_call 78 _ [.int (Int32.ofInt r9), .int (Int32.ofInt (((gI s 25 2) * 12) + v1)), .ref 27] hM rfl rfl rfl rfl rfl (xM_53 _) rfl (z_rcv2 rfl) rfl rfl (by omega) (w_53 (by omega) h8) rfl ?_
    obtain ⟨hg10, h⟩ := zg_some h
    refine g_iastore 79 hM rfl rfl rfl rfl hg10 ?_
    refine g_iinc 82 hM rfl rfl rfl rfl ?_
    refine g_goto 2 hM rfl rfl ?_
    cases h
    exact g_lv [(0, .ref 25), (1, .int (Int32.ofInt (v1 + 1)))] rfl ⟨rfl, rfl, trivial⟩ hK
  · rw [if_neg hc2] at h
    refine g_ic_ge_t 85 hM rfl rfl hg1 (zR_gI _ _ _) hc2 ?_
    cases h
    exact g_lv [(0, .ref 25)] rfl ⟨rfl, trivial⟩ hK
theorem wl_133_2 {k : zK} {d : Nat} {x : am_H} {r : am_A × am_H} {n : Nat} {e : (Int × zS)} {t : (zS)} (hd : 1 ≤ d) (h : zlp (fun (q : Int × zS) => b_133_2 q.1 q.2) n e = some t) (hK : K_133_2 k d x r t) : G_133_2 k d x r e := zlp_go (G := fun e => G_133_2 k d x r e) (K := K_133_2 k d x r) (fun e e1 h1 hg => wb_133_2 (q := .inl e1) hd h1 hg) (fun e t1 h1 hk => wb_133_2 (q := .inr t1) hd h1 hk) n e t h hK
/-- RelationFinder$Renamings.keep()V -/
def f_133 (s : zS) : Option (Unit × zS) := zo (zlp (fun (q : Int × zS) => b_133_2 q.1 q.2) zF (0, s)) (fun e1 => some ((), (sI e1 25 2 ((gI e1 25 2) + 1))))
theorem w_133 {k : zK} {d : Nat} {x : am_H} {s : zS} {q : (Unit × zS)} (hd : 1 ≤ d) (h : f_133 s = some q) : zgo k d 133 (0, [(0, .ref 25)], []) (hp s ++ x) (.inl (none), hp q.2 ++ x) := by
  unfold f_133 at h
  have hM := xM_133 k.1
  refine g_iconst 1 hM rfl rfl ?_
  refine g_istore_n 2 hM rfl rfl rfl ?_
  obtain ⟨e1, h2, h⟩ := zo_some h
  refine g_lv [(0, .ref 25), (1, .int (Int32.ofInt 0))] rfl ⟨rfl, rfl, trivial⟩ ?_
  refine wl_133_2 (by omega) h2 ?_
  show zgo k d 133 (85, [(0, .ref 25)], []) (hp e1 ++ x) (.inl (none), hp q.2 ++ x)
  refine g_aload_n 86 hM rfl rfl rfl ?_
  refine g_dup 87 hM rfl rfl rfl ?_
  refine g_getI 90 2 (gI e1 25 2) hM rfl rfl rfl rfl rfl rfl rfl ?_
  refine g_iconst 91 hM rfl rfl ?_
  refine g_iadd 92 hM rfl rfl ?_
  refine g_putI 95 2 hM rfl rfl rfl rfl rfl rfl rfl ?_
  cases h
  exact g_ret hM rfl rfl
def b_130_37 (v1 : Int) (v2 : Int) (s : zS) : Option ((Int × Int × zS) ⊕ (zS)) := zg (zR v2) (if v2 < 120 then (zg (zR v1) (if v1 = 0 then (some (.inr s)) else (zo (f_131 s) (fun r6 => zg (zR r6) (if r6 = 0 then (zb (f_134 s) (fun r10 s11 => some (.inl (r10, (v2 + 1), s11)))) else (zb (f_133 s) (fun r13 s14 => zb (f_134 s14) (fun r16 s17 => some (.inl (r16, (v2 + 1), s17)))))))))) else (some (.inr s)))
theorem wb_130_37 {k : zK} {d : Nat} {x : am_H} {r : am_A × am_H} {v1 : Int} {v2 : Int} {s : zS} {q : (Int × Int × zS) ⊕ (zS)} (hd : 2 ≤ d) (h : b_130_37 v1 v2 s = some q) (hK : Sum.elim (G_130_37 k d x r) (K_130_37 k d x r) q) : G_130_37 k d x r (v1, v2, s) := by
  unfold b_130_37 at h
  have hM := xM_130 k.1
  show zgo k d 130 (37, [(0, .ref 25), (1, .int (Int32.ofInt v1)), (2, .int (Int32.ofInt v2))], []) (hp s ++ x) r
  refine g_iload_n 38 hM rfl rfl rfl ?_
  refine g_bipush 40 hM rfl rfl rfl ?_
  obtain ⟨hg1, h⟩ := zg_some h
  by_cases hc2 : v2 < 120
  · rw [if_pos hc2] at h
    refine g_ic_ge_f 43 69 hM rfl rfl rfl hg1 (zR_lit rfl) hc2 ?_
    refine g_iload_n 44 hM rfl rfl rfl ?_
    obtain ⟨hg3, h⟩ := zg_some h
    by_cases hc4 : v1 = 0
    · rw [if_pos hc4] at h
      refine g_if_eq_t 69 hM rfl rfl hg3 hc4 ?_
      cases h
      exact g_lv [(0, .ref 25)] rfl ⟨rfl, trivial⟩ hK
    · rw [if_neg hc4] at h
      refine g_if_eq_f 47 69 hM rfl rfl rfl hg3 hc4 ?_
      refine g_aload_n 48 hM rfl rfl rfl ?_
      obtain ⟨r6, h5, h⟩ := zo_some h
      refine g_call 51 _ [.int (Int32.ofInt r6)] hM rfl rfl rfl rfl rfl (xM_131 _) rfl (z_rcv2 rfl) rfl rfl (by omega) (w_131 (by omega) h5) rfl ?_
      obtain ⟨hg7, h⟩ := zg_some h
      by_cases hc8 : r6 = 0
      · rw [if_pos hc8] at h
        refine g_if_eq_t 58 hM rfl rfl hg7 hc8 ?_
        refine g_aload_n 59 hM rfl rfl rfl ?_
        obtain ⟨r10, s11, h9, h⟩ := zb_some h
        refine g_call 62 _ [.int (Int32.ofInt r10)] hM rfl rfl rfl rfl rfl (xM_134 _) rfl (z_rcv2 rfl) rfl rfl (by omega) (w_134 (by omega) h9) rfl ?_
        refine g_istore_n 63 hM rfl rfl rfl ?_
        refine g_iinc 66 hM rfl rfl rfl rfl ?_
        refine g_goto 37 hM rfl rfl ?_
        cases h
        exact g_lv [(0, .ref 25), (1, .int (Int32.ofInt r10)), (2, .int (Int32.ofInt (v2 + 1)))] rfl ⟨rfl, rfl, rfl, trivial⟩ hK
      · rw [if_neg hc8] at h
        refine g_if_eq_f 54 58 hM rfl rfl rfl hg7 hc8 ?_
        refine g_aload_n 55 hM rfl rfl rfl ?_
        obtain ⟨r13, s14, h12, h⟩ := zb_some h
        refine g_call 58 _ [] hM rfl rfl rfl rfl rfl (xM_133 _) rfl (z_rcv2 rfl) rfl rfl (by omega) (w_133 (by omega) h12) rfl ?_
        refine g_aload_n 59 hM rfl rfl rfl ?_
        obtain ⟨r16, s17, h15, h⟩ := zb_some h
        refine g_call 62 _ [.int (Int32.ofInt r16)] hM rfl rfl rfl rfl rfl (xM_134 _) rfl (z_rcv2 rfl) rfl rfl (by omega) (w_134 (by omega) h15) rfl ?_
        refine g_istore_n 63 hM rfl rfl rfl ?_
        refine g_iinc 66 hM rfl rfl rfl rfl ?_
        refine g_goto 37 hM rfl rfl ?_
        cases h
        exact g_lv [(0, .ref 25), (1, .int (Int32.ofInt r16)), (2, .int (Int32.ofInt (v2 + 1)))] rfl ⟨rfl, rfl, rfl, trivial⟩ hK
  · rw [if_neg hc2] at h
    refine g_ic_ge_t 69 hM rfl rfl hg1 (zR_lit rfl) hc2 ?_
    cases h
    exact g_lv [(0, .ref 25)] rfl ⟨rfl, trivial⟩ hK
theorem wl_130_37 {k : zK} {d : Nat} {x : am_H} {r : am_A × am_H} {n : Nat} {e : (Int × Int × zS)} {t : (zS)} (hd : 2 ≤ d) (h : zlp (fun (q : Int × Int × zS) => b_130_37 q.1 q.2.1 q.2.2) n e = some t) (hK : K_130_37 k d x r t) : G_130_37 k d x r e := zlp_go (G := fun e => G_130_37 k d x r e) (K := K_130_37 k d x r) (fun e e1 h1 hg => wb_130_37 (q := .inl e1) hd h1 hg) (fun e t1 h1 hk => wb_130_37 (q := .inr t1) hd h1 hk) n e t h hK
/-- RelationFinder$Renamings.find()V -/
def f_130 (s : zS) : Option (Unit × zS) := if (gI s 25 1) = 0 then (zo (zlp (fun (q : Int × zS) => b_130_15 q.1 q.2) zF (0, (sI s 25 2 0))) (fun e2 => zo (zlp (fun (q : Int × Int × zS) => b_130_37 q.1 q.2.1 q.2.2) zF (1, 0, e2)) (fun e4 => some ((), (sI e4 25 1 1))))) else (some ((), s))
theorem w_130 {k : zK} {d : Nat} {x : am_H} {s : zS} {q : (Unit × zS)} (hd : 2 ≤ d) (h : f_130 s = some q) : zgo k d 130 (0, [(0, .ref 25)], []) (hp s ++ x) (.inl (none), hp q.2 ++ x) := by
  unfold f_130 at h
  have hM := xM_130 k.1
  refine g_aload_n 1 hM rfl rfl rfl ?_
  refine g_getI 4 1 (gI s 25 1) hM rfl rfl rfl rfl rfl rfl rfl ?_
  by_cases hc1 : (gI s 25 1) = 0
  · rw [if_pos hc1] at h
    refine g_if_eq_t 8 hM rfl rfl (zR_gI _ _ _) hc1 ?_
    refine g_aload_n 9 hM rfl rfl rfl ?_
    refine g_iconst 10 hM rfl rfl ?_
    refine g_putI 13 2 hM rfl rfl rfl rfl rfl rfl rfl ?_
    refine g_iconst 14 hM rfl rfl ?_
    refine g_istore_n 15 hM rfl rfl rfl ?_
    obtain ⟨e2, h3, h⟩ := zo_some h
    refine g_lv [(0, .ref 25), (1, .int (Int32.ofInt 0))] rfl ⟨rfl, rfl, trivial⟩ ?_
    refine wl_130_15 (by omega) h3 ?_
    show zgo k d 130 (33, [(0, .ref 25)], []) (hp e2 ++ x) (.inl (none), hp q.2 ++ x)
    refine g_iconst 34 hM rfl rfl ?_
    refine g_istore_n 35 hM rfl rfl rfl ?_
    refine g_iconst 36 hM rfl rfl ?_
    refine g_istore_n 37 hM rfl rfl rfl ?_
    obtain ⟨e4, h5, h⟩ := zo_some h
    refine g_lv [(0, .ref 25), (1, .int (Int32.ofInt 1)), (2, .int (Int32.ofInt 0))] rfl ⟨rfl, rfl, rfl, trivial⟩ ?_
    refine wl_130_37 (by omega) h5 ?_
    show zgo k d 130 (69, [(0, .ref 25)], []) (hp e4 ++ x) (.inl (none), hp q.2 ++ x)
    refine g_aload_n 70 hM rfl rfl rfl ?_
    refine g_iconst 71 hM rfl rfl ?_
    refine g_putI 74 1 hM rfl rfl rfl rfl rfl rfl rfl ?_
    cases h
    exact g_ret hM rfl rfl
  · rw [if_neg hc1] at h
    refine g_if_eq_f 7 8 hM rfl rfl rfl (zR_gI _ _ _) hc1 ?_
    cases h
    exact g_ret hM rfl rfl
def G_270_175_6 (k : zK) (d : Nat) (x : am_H) (r : am_A × am_H) (w1 : BitVec 64) (v4 : Int) (e : (Int × zS)) : Prop := zgo k d 270 (6, [(0, .ref 175), (1, .long (Int64.ofBitVec w1)), (3, .int (Int32.ofInt e.1)), (4, .int (Int32.ofInt v4))], []) (hp e.2 ++ x) r
def K_270_175_6 (k : zK) (d : Nat) (x : am_H) (r : am_A × am_H) (w1 : BitVec 64) (v4 : Int) (t : (zS)) : Prop := zgo k d 270 (22, [], []) (hp t ++ x) r
def b_270_175_6 (w1 : BitVec 64) (v4 : Int) (v3 : Int) (s : zS) : Option ((Int × zS) ⊕ (zS)) := zg (zR v3) (zg (zR v4) (if v3 < v4 then (zg (0 ≤ v3 ∧ v3 < 64) (some (.inl ((v3 + 1), (sJ s 175 v3 w1))))) else (some (.inr s))))
theorem wb_270_175_6 {k : zK} {d : Nat} {x : am_H} {r : am_A × am_H} {w1 : BitVec 64} {v4 : Int} {v3 : Int} {s : zS} {q : (Int × zS) ⊕ (zS)} (hd : 0 ≤ d) (h : b_270_175_6 w1 v4 v3 s = some q) (hK : Sum.elim (G_270_175_6 k d x r w1 v4) (K_270_175_6 k d x r w1 v4) q) : G_270_175_6 k d x r w1 v4 (v3, s) := by
  unfold b_270_175_6 at h
  have hM := xM_270 k.1
  show zgo k d 270 (6, [(0, .ref 175), (1, .long (Int64.ofBitVec w1)), (3, .int (Int32.ofInt v3)), (4, .int (Int32.ofInt v4))], []) (hp s ++ x) r
  refine g_iload_n 7 hM rfl rfl rfl ?_
  refine g_iload 9 hM rfl rfl rfl ?_
  obtain ⟨hg1, h⟩ := zg_some h
  obtain ⟨hg2, h⟩ := zg_some h
  by_cases hc3 : v3 < v4
  · rw [if_pos hc3] at h
    refine g_ic_ge_f 12 22 hM rfl rfl rfl hg1 hg2 hc3 ?_
    refine g_aload_n 13 hM rfl rfl rfl ?_
    refine g_iload_n 14 hM rfl rfl rfl ?_
    refine g_lload_n 15 hM rfl rfl rfl ?_
    obtain ⟨hg4, h⟩ := zg_some h
    refine g_lastore 16 hM rfl rfl rfl rfl hg4 ?_
    refine g_iinc 19 hM rfl rfl rfl rfl ?_
    refine g_goto 6 hM rfl rfl ?_
    cases h
    exact g_lv [(0, .ref 175), (1, .long (Int64.ofBitVec w1)), (3, .int (Int32.ofInt (v3 + 1))), (4, .int (Int32.ofInt v4))] rfl ⟨rfl, rfl, rfl, rfl, trivial⟩ hK
  · rw [if_neg hc3] at h
    refine g_ic_ge_t 22 hM rfl rfl hg1 hg2 hc3 ?_
    cases h
    exact g_lv [] rfl trivial hK
theorem wl_270_175_6 {k : zK} {d : Nat} {x : am_H} {r : am_A × am_H} {w1 : BitVec 64} {v4 : Int} {n : Nat} {e : (Int × zS)} {t : (zS)} (hd : 0 ≤ d) (h : zlp (fun (q : Int × zS) => b_270_175_6 w1 v4 q.1 q.2) n e = some t) (hK : K_270_175_6 k d x r w1 v4 t) : G_270_175_6 k d x r w1 v4 e := zlp_go (G := fun e => G_270_175_6 k d x r w1 v4 e) (K := K_270_175_6 k d x r w1 v4) (fun e e1 h1 hg => wb_270_175_6 (q := .inl e1) hd h1 hg) (fun e t1 h1 hk => wb_270_175_6 (q := .inr t1) hd h1 hk) n e t h hK
/-- java/util/Arrays.fill([JJ)V -/
def f_270_175 (w1 : BitVec 64) (s : zS) : Option (Unit × zS) := zo (zlp (fun (q : Int × zS) => b_270_175_6 w1 64 q.1 q.2) zF (0, s)) (fun e1 => some ((), e1))
theorem w_270_175 {k : zK} {d : Nat} {x : am_H} {w1 : BitVec 64} {s : zS} {q : (Unit × zS)} (hd : 0 ≤ d) (h : f_270_175 w1 s = some q) : zgo k d 270 (0, [(0, .ref 175), (1, .long (Int64.ofBitVec w1))], []) (hp s ++ x) (.inl (none), hp q.2 ++ x) := by
  unfold f_270_175 at h
  have hM := xM_270 k.1
  refine g_iconst 1 hM rfl rfl ?_
  refine g_istore_n 2 hM rfl rfl rfl ?_
  refine g_aload_n 3 hM rfl rfl rfl ?_
  refine g_alen 4 64 hM rfl rfl rfl rfl rfl ?_
  refine g_istore 6 hM rfl rfl rfl ?_
  obtain ⟨e1, h2, h⟩ := zo_some h
  refine g_lv [(0, .ref 175), (1, .long (Int64.ofBitVec w1)), (3, .int (Int32.ofInt 0)), (4, .int (Int32.ofInt 64))] rfl ⟨rfl, rfl, rfl, rfl, trivial⟩ ?_
  refine wl_270_175_6 (by omega) h2 ?_
  show zgo k d 270 (22, [], []) (hp e1 ++ x) (.inl (none), hp q.2 ++ x)
  cases h
  exact g_ret hM rfl rfl
def G_28_19 (k : zK) (d : Nat) (x : am_H) (r : am_A × am_H) (e : (Int × Int × zS)) : Prop := zgo k d 28 (19, [(0, .ref 0), (1, .int (Int32.ofInt e.1)), (2, .int (Int32.ofInt e.2.1))], []) (hp e.2.2 ++ x) r
def K_28_19 (k : zK) (d : Nat) (x : am_H) (r : am_A × am_H) (t : (Int × zS)) : Prop := zgo k d 28 (111, [(1, .int (Int32.ofInt t.1))], []) (hp t.2 ++ x) r
def G_28_43 (k : zK) (d : Nat) (x : am_H) (r : am_A × am_H) (v2 : Int) (w3 : BitVec 64) (e : (Int × Int × zS)) : Prop := zgo k d 28 (43, [(0, .ref 0), (1, .int (Int32.ofInt e.1)), (2, .int (Int32.ofInt v2)), (3, .long (Int64.ofBitVec w3)), (5, .int (Int32.ofInt e.2.1))], []) (hp e.2.2 ++ x) r
def K_28_43 (k : zK) (d : Nat) (x : am_H) (r : am_A × am_H) (v2 : Int) (w3 : BitVec 64) (t : (Int × zS)) : Prop := zgo k d 28 (105, [(0, .ref 0), (1, .int (Int32.ofInt t.1)), (2, .int (Int32.ofInt v2))], []) (hp t.2 ++ x) r
def G_136_13 (k : zK) (d : Nat) (x : am_H) (r : am_A × am_H) (v1 : Int) (v3 : Int) (e : (Int × zS)) : Prop := zgo k d 136 (13, [(0, .ref 25), (1, .int (Int32.ofInt v1)), (2, .ref 175), (3, .int (Int32.ofInt v3)), (4, .int (Int32.ofInt e.1))], []) (hp e.2 ++ x) r
def K_136_13 (k : zK) (d : Nat) (x : am_H) (r : am_A × am_H) (v1 : Int) (v3 : Int) (t : (zS)) : Prop := zgo k d 136 (96, [], []) (hp t ++ x) r
def G_136_28 (k : zK) (d : Nat) (x : am_H) (r : am_A × am_H) (v1 : Int) (v3 : Int) (v4 : Int) (s : zS) (e : (Int × Int)) : Prop := zgo k d 136 (28, [(0, .ref 25), (1, .int (Int32.ofInt v1)), (2, .ref 175), (3, .int (Int32.ofInt v3)), (4, .int (Int32.ofInt v4)), (5, .int (Int32.ofInt e.1)), (6, .int (Int32.ofInt e.2))], []) (hp s ++ x) r
def K_136_28 (k : zK) (d : Nat) (x : am_H) (r : am_A × am_H) (v1 : Int) (v3 : Int) (v4 : Int) (s : zS) (t : (Int)) : Prop := zgo k d 136 (73, [(0, .ref 25), (1, .int (Int32.ofInt v1)), (2, .ref 175), (3, .int (Int32.ofInt v3)), (4, .int (Int32.ofInt v4)), (5, .int (Int32.ofInt t))], []) (hp s ++ x) r
def b_136_28 (v1 : Int) (v3 : Int) (v4 : Int) (s : zS) (v5 : Int) (v6 : Int) : Option ((Int × Int) ⊕ (Int)) := zg (zR v6) (zg (zR v3) (if v3 < v6 then (some (.inr v5)) else (zg (0 ≤ v1 ∧ zR v1) (if (zand (v1 / 2 ^ zsh (v3 - v6)) 1) = 0 then (some (.inl (v5, (v6 + 1)))) else (zg (0 ≤ ((v4 * 12) + v6) ∧ ((v4 * 12) + v6) < 1440) (some (.inl ((zor v5 (1 * 2 ^ zsh (v3 - (gI s 27 ((v4 * 12) + v6))))), (v6 + 1)))))))))
theorem wb_136_28 {k : zK} {d : Nat} {x : am_H} {r : am_A × am_H} {v1 : Int} {v3 : Int} {v4 : Int} {v5 : Int} {v6 : Int} {s : zS} {q : (Int × Int) ⊕ (Int)} (hd : 0 ≤ d) (h : b_136_28 v1 v3 v4 s v5 v6 = some q) (hK : Sum.elim (G_136_28 k d x r v1 v3 v4 s) (K_136_28 k d x r v1 v3 v4 s) q) : G_136_28 k d x r v1 v3 v4 s (v5, v6) := by
  unfold b_136_28 at h
  have hM := xM_136 k.1
  show zgo k d 136 (28, [(0, .ref 25), (1, .int (Int32.ofInt v1)), (2, .ref 175), (3, .int (Int32.ofInt v3)), (4, .int (Int32.ofInt v4)), (5, .int (Int32.ofInt v5)), (6, .int (Int32.ofInt v6))], []) (hp s ++ x) r
  refine g_iload 30 hM rfl rfl rfl ?_
  refine g_iload_n 31 hM rfl rfl rfl ?_
  obtain ⟨hg1, h⟩ := zg_some h
  obtain ⟨hg2, h⟩ := zg_some h
  by_cases hc3 : v3 < v6
  · rw [if_pos hc3] at h
    refine g_ic_gt_t 73 hM rfl rfl hg1 hg2 hc3 ?_
    cases h
    exact g_lv [(0, .ref 25), (1, .int (Int32.ofInt v1)), (2, .ref 175), (3, .int (Int32.ofInt v3)), (4, .int (Int32.ofInt v4)), (5, .int (Int32.ofInt v5))] rfl ⟨rfl, rfl, rfl, rfl, rfl, rfl, trivial⟩ hK
  · rw [if_neg hc3] at h
    refine g_ic_gt_f 34 73 hM rfl rfl rfl hg1 hg2 hc3 ?_
    refine g_iload_n 35 hM rfl rfl rfl ?_
    refine g_iload_n 36 hM rfl rfl rfl ?_
    refine g_iload 38 hM rfl rfl rfl ?_
    refine g_isub 39 hM rfl rfl ?_
    obtain ⟨hg4, h⟩ := zg_some h
    refine g_iushr 40 hM rfl rfl hg4 ?_
    refine g_iconst 41 hM rfl rfl ?_
    refine g_iand 42 hM rfl rfl ?_
    by_cases hc5 : (zand (v1 / 2 ^ zsh (v3 - v6)) 1) = 0
    · rw [if_pos hc5] at h
      refine g_if_eq_t 67 hM rfl rfl (zR_and _ _) hc5 ?_
      refine g_iinc 70 hM rfl rfl rfl rfl ?_
      refine g_goto 28 hM rfl rfl ?_
      cases h
      exact g_lv [(0, .ref 25), (1, .int (Int32.ofInt v1)), (2, .ref 175), (3, .int (Int32.ofInt v3)), (4, .int (Int32.ofInt v4)), (5, .int (Int32.ofInt v5)), (6, .int (Int32.ofInt (v6 + 1)))] rfl ⟨rfl, rfl, rfl, rfl, rfl, rfl, rfl, trivial⟩ hK
    · rw [if_neg hc5] at h
      refine g_if_eq_f 45 67 hM rfl rfl rfl (zR_and _ _) hc5 ?_
      refine g_iload 47 hM rfl rfl rfl ?_
      refine g_iconst 48 hM rfl rfl ?_
      refine g_iload_n 49 hM rfl rfl rfl ?_
      refine g_aload_n 50 hM rfl rfl rfl ?_
      refine g_getF 53 hM rfl rfl rfl rfl rfl ?_
      refine g_iload 55 hM rfl rfl rfl ?_
      refine g_bipush 57 hM rfl rfl rfl ?_
      refine g_imul 58 hM rfl rfl ?_
      refine g_iload 60 hM rfl rfl rfl ?_
      refine g_iadd 61 hM rfl rfl ?_
      obtain ⟨hg6, h⟩ := zg_some h
      refine g_iaload 62 (gI s 27 ((v4 * 12) + v6)) hM rfl rfl rfl rfl hg6 rfl ?_
      refine g_isub 63 hM rfl rfl ?_
      refine g_ishl 64 hM rfl rfl ?_
      refine g_ior 65 hM rfl rfl ?_
      refine g_istore 67 hM rfl rfl rfl ?_
      refine g_iinc 70 hM rfl rfl rfl rfl ?_
      refine g_goto 28 hM rfl rfl ?_
      cases h
      exact g_lv [(0, .ref 25), (1, .int (Int32.ofInt v1)), (2, .ref 175), (3, .int (Int32.ofInt v3)), (4, .int (Int32.ofInt v4)), (5, .int (Int32.ofInt (zor v5 (1 * 2 ^ zsh (v3 - (gI s 27 ((v4 * 12) + v6))))))), (6, .int (Int32.ofInt (v6 + 1)))] rfl ⟨rfl, rfl, rfl, rfl, rfl, rfl, rfl, trivial⟩ hK
theorem wl_136_28 {k : zK} {d : Nat} {x : am_H} {r : am_A × am_H} {v1 : Int} {v3 : Int} {v4 : Int} {s : zS} {n : Nat} {e : (Int × Int)} {t : (Int)} (hd : 0 ≤ d) (h : zlp (fun (q : Int × Int) => b_136_28 v1 v3 v4 s q.1 q.2) n e = some t) (hK : K_136_28 k d x r v1 v3 v4 s t) : G_136_28 k d x r v1 v3 v4 s e := zlp_go (G := fun e => G_136_28 k d x r v1 v3 v4 s e) (K := K_136_28 k d x r v1 v3 v4 s) (fun e e1 h1 hg => wb_136_28 (q := .inl e1) hd h1 hg) (fun e t1 h1 hk => wb_136_28 (q := .inr t1) hd h1 hk) n e t h hK
def b_136_13 (v1 : Int) (v3 : Int) (v4 : Int) (s : zS) : Option ((Int × zS) ⊕ (zS)) := zg (zR v4) (if v4 < (gI s 25 2) then (zo (zlp (fun (q : Int × Int) => b_136_28 v1 v3 v4 s q.1 q.2) zF (0, 0)) (fun e3 => zg (0 ≤ e3 ∧ zR e3 ∧ (0 : Int) < 64 ∧ zR 64) (zg (0 ≤ (e3 / 64) ∧ (e3 / 64) < 64) (zg (zR (e3 % 64)) (some (.inl ((v4 + 1), (sJ s 175 (e3 / 64) ((gJ s 175 (e3 / 64)) ||| ((1#64) <<< zshl (e3 % 64))))))))))) else (some (.inr s)))
theorem wb_136_13 {k : zK} {d : Nat} {x : am_H} {r : am_A × am_H} {v1 : Int} {v3 : Int} {v4 : Int} {s : zS} {q : (Int × zS) ⊕ (zS)} (hd : 0 ≤ d) (h : b_136_13 v1 v3 v4 s = some q) (hK : Sum.elim (G_136_13 k d x r v1 v3) (K_136_13 k d x r v1 v3) q) : G_136_13 k d x r v1 v3 (v4, s) := by
  unfold b_136_13 at h
  have hM := xM_136 k.1
  show zgo k d 136 (13, [(0, .ref 25), (1, .int (Int32.ofInt v1)), (2, .ref 175), (3, .int (Int32.ofInt v3)), (4, .int (Int32.ofInt v4))], []) (hp s ++ x) r
  refine g_iload 15 hM rfl rfl rfl ?_
  refine g_aload_n 16 hM rfl rfl rfl ?_
  refine g_getI 19 2 (gI s 25 2) hM rfl rfl rfl rfl rfl rfl rfl ?_
  obtain ⟨hg1, h⟩ := zg_some h
  by_cases hc2 : v4 < (gI s 25 2)
  · rw [if_pos hc2] at h
    refine g_ic_ge_f 22 96 hM rfl rfl rfl hg1 (zR_gI _ _ _) hc2 ?_
    refine g_iconst 23 hM rfl rfl ?_
    refine g_istore 25 hM rfl rfl rfl ?_
    refine g_iconst 26 hM rfl rfl ?_
    refine g_istore 28 hM rfl rfl rfl ?_
    obtain ⟨e3, h4, h⟩ := zo_some h
    refine g_lv [(0, .ref 25), (1, .int (Int32.ofInt v1)), (2, .ref 175), (3, .int (Int32.ofInt v3)), (4, .int (Int32.ofInt v4)), (5, .int (Int32.ofInt 0)), (6, .int (Int32.ofInt 0))] rfl ⟨rfl, rfl, rfl, rfl, rfl, rfl, rfl, trivial⟩ ?_
    refine wl_136_28 (by omega) h4 ?_
    show zgo k d 136 (73, [(0, .ref 25), (1, .int (Int32.ofInt v1)), (2, .ref 175), (3, .int (Int32.ofInt v3)), (4, .int (Int32.ofInt v4)), (5, .int (Int32.ofInt e3))], []) (hp s ++ x) r
    refine g_aload_n 74 hM rfl rfl rfl ?_
    refine g_iload 76 hM rfl rfl rfl ?_
    refine g_bipush 78 hM rfl rfl rfl ?_
    obtain ⟨hg5, h⟩ := zg_some h
    refine g_idiv 79 hM rfl rfl hg5 ?_
    refine g_dup2 80 hM rfl rfl rfl rfl ?_
    obtain ⟨hg6, h⟩ := zg_some h
    refine g_laload 81 (gJ s 175 (e3 / 64)) hM rfl rfl rfl rfl hg6 rfl ?_
    refine g_lconst 82 (1#64) hM rfl rfl rfl ?_
    refine g_iload 84 hM rfl rfl rfl ?_
    refine g_bipush 86 hM rfl rfl rfl ?_
    refine g_irem 87 hM rfl rfl hg5 ?_
    obtain ⟨hg7, h⟩ := zg_some h
    refine g_lshl 88 hM rfl rfl hg7 ?_
    refine g_lor 89 hM rfl rfl ?_
    refine g_lastore 90 hM rfl rfl rfl rfl hg6 ?_
    refine g_iinc 93 hM rfl rfl rfl rfl ?_
    refine g_goto 13 hM rfl rfl ?_
    cases h
    exact g_lv [(0, .ref 25), (1, .int (Int32.ofInt v1)), (2, .ref 175), (3, .int (Int32.ofInt v3)), (4, .int (Int32.ofInt (v4 + 1)))] rfl ⟨rfl, rfl, rfl, rfl, rfl, trivial⟩ hK
  · rw [if_neg hc2] at h
    refine g_ic_ge_t 96 hM rfl rfl hg1 (zR_gI _ _ _) hc2 ?_
    cases h
    exact g_lv [] rfl trivial hK
theorem wl_136_13 {k : zK} {d : Nat} {x : am_H} {r : am_A × am_H} {v1 : Int} {v3 : Int} {n : Nat} {e : (Int × zS)} {t : (zS)} (hd : 0 ≤ d) (h : zlp (fun (q : Int × zS) => b_136_13 v1 v3 q.1 q.2) n e = some t) (hK : K_136_13 k d x r v1 v3 t) : G_136_13 k d x r v1 v3 e := zlp_go (G := fun e => G_136_13 k d x r v1 v3 e) (K := K_136_13 k d x r v1 v3) (fun e e1 h1 hg => wb_136_13 (q := .inl e1) hd h1 hg) (fun e t1 h1 hk => wb_136_13 (q := .inr t1) hd h1 hk) n e t h hK
/-- RelationFinder$Renamings.markAlike(I[J)V -/
def f_136 (v1 : Int) (s : zS) : Option (Unit × zS) := zo (zlp (fun (q : Int × zS) => b_136_13 v1 ((gI s 1 8) - 1) q.1 q.2) zF (0, s)) (fun e1 => some ((), e1))
theorem w_136 {k : zK} {d : Nat} {x : am_H} {v1 : Int} {s : zS} {q : (Unit × zS)} (hd : 0 ≤ d) (h : f_136 v1 s = some q) : zgo k d 136 (0, [(0, .ref 25), (1, .int (Int32.ofInt v1)), (2, .ref 175)], []) (hp s ++ x) (.inl (none), hp q.2 ++ x) := by
  unfold f_136 at h
  have hM := xM_136 k.1
  refine g_aload_n 1 hM rfl rfl rfl ?_
  refine g_getF 4 hM rfl rfl rfl rfl rfl ?_
  refine g_getI 7 8 (gI s 1 8) hM rfl rfl rfl rfl rfl rfl rfl ?_
  refine g_iconst 8 hM rfl rfl ?_
  refine g_isub 9 hM rfl rfl ?_
  refine g_istore_n 10 hM rfl rfl rfl ?_
  refine g_iconst 11 hM rfl rfl ?_
  refine g_istore 13 hM rfl rfl rfl ?_
  obtain ⟨e1, h2, h⟩ := zo_some h
  refine g_lv [(0, .ref 25), (1, .int (Int32.ofInt v1)), (2, .ref 175), (3, .int (Int32.ofInt ((gI s 1 8) - 1))), (4, .int (Int32.ofInt 0))] rfl ⟨rfl, rfl, rfl, rfl, rfl, trivial⟩ ?_
  refine wl_136_13 (by omega) h2 ?_
  show zgo k d 136 (96, [], []) (hp e1 ++ x) (.inl (none), hp q.2 ++ x)
  cases h
  exact g_ret hM rfl rfl
def b_28_43 (v2 : Int) (w3 : BitVec 64) (v1 : Int) (v5 : Int) (s : zS) : Option ((Int × Int × zS) ⊕ (Int × zS)) := zg (zR v5) (if v5 < 64 then (if w3 = (0#64) then (some (.inr (v1, s))) else (zg (0 ≤ v2 ∧ v2 < 64) (if (((w3 &&& ((gJ s 175 v2) ^^^ (18446744073709551615#64))) >>> zshl v5) &&& (1#64)) = (0#64) then (some (.inl (v1, (v5 + 1), s))) else (zb (f_136 ((v2 * 64) + v5) s) (fun r7 s8 => some (.inl ((v1 + 1), (v5 + 1), s8))))))) else (some (.inr (v1, s))))
theorem wb_28_43 {k : zK} {d : Nat} {x : am_H} {r : am_A × am_H} {v2 : Int} {w3 : BitVec 64} {v1 : Int} {v5 : Int} {s : zS} {q : (Int × Int × zS) ⊕ (Int × zS)} (hd : 99 ≤ d) (h : b_28_43 v2 w3 v1 v5 s = some q) (hK : Sum.elim (G_28_43 k d x r v2 w3) (K_28_43 k d x r v2 w3) q) : G_28_43 k d x r v2 w3 (v1, v5, s) := by
  unfold b_28_43 at h
  have hM := xM_28 k.1
  show zgo k d 28 (43, [(0, .ref 0), (1, .int (Int32.ofInt v1)), (2, .int (Int32.ofInt v2)), (3, .long (Int64.ofBitVec w3)), (5, .int (Int32.ofInt v5))], []) (hp s ++ x) r
  refine g_iload 45 hM rfl rfl rfl ?_
  refine g_bipush 47 hM rfl rfl rfl ?_
  obtain ⟨hg1, h⟩ := zg_some h
  by_cases hc2 : v5 < 64
  · rw [if_pos hc2] at h
    refine g_ic_ge_f 50 105 hM rfl rfl rfl hg1 (zR_lit rfl) hc2 ?_
    refine g_lload_n 51 hM rfl rfl rfl ?_
    refine g_lconst 52 (0#64) hM rfl rfl rfl ?_
    by_cases hc3 : w3 = (0#64)
    · rw [if_pos hc3] at h
      refine g_lc_eq_t 53 105 hM rfl rfl rfl rfl hc3 ?_
      cases h
      exact g_lv [(0, .ref 0), (1, .int (Int32.ofInt v1)), (2, .int (Int32.ofInt v2))] rfl ⟨rfl, rfl, rfl, trivial⟩ hK
    · rw [if_neg hc3] at h
      refine g_lc_eq_f 53 56 105 hM rfl rfl rfl rfl rfl hc3 ?_
      refine g_lload_n 57 hM rfl rfl rfl ?_
      refine g_aload_n 58 hM rfl rfl rfl ?_
      refine g_getF 61 hM rfl rfl rfl rfl rfl ?_
      refine g_iload_n 62 hM rfl rfl rfl ?_
      obtain ⟨hg4, h⟩ := zg_some h
      refine g_laload 63 (gJ s 175 v2) hM rfl rfl rfl rfl hg4 rfl ?_
      refine g_ldc2 66 (18446744073709551615#64) hM rfl rfl rfl (by decide) ?_
      refine g_lxor 67 hM rfl rfl ?_
      refine g_land 68 hM rfl rfl ?_
      refine g_iload 70 hM rfl rfl rfl ?_
      refine g_lushr 71 hM rfl rfl hg1 ?_
      refine g_lconst 72 (1#64) hM rfl rfl rfl ?_
      refine g_land 73 hM rfl rfl ?_
      refine g_lconst 74 (0#64) hM rfl rfl rfl ?_
      by_cases hc5 : (((w3 &&& ((gJ s 175 v2) ^^^ (18446744073709551615#64))) >>> zshl v5) &&& (1#64)) = (0#64)
      · rw [if_pos hc5] at h
        refine g_lc_eq_t 75 99 hM rfl rfl rfl rfl hc5 ?_
        refine g_iinc 102 hM rfl rfl rfl rfl ?_
        refine g_goto 43 hM rfl rfl ?_
        cases h
        exact g_lv [(0, .ref 0), (1, .int (Int32.ofInt v1)), (2, .int (Int32.ofInt v2)), (3, .long (Int64.ofBitVec w3)), (5, .int (Int32.ofInt (v5 + 1)))] rfl ⟨rfl, rfl, rfl, rfl, rfl, trivial⟩ hK
      · rw [if_neg hc5] at h
        refine g_lc_eq_f 75 78 99 hM rfl rfl rfl rfl rfl hc5 ?_
        refine g_iinc 81 hM rfl rfl rfl rfl ?_
        refine g_aload_n 82 hM rfl rfl rfl ?_
        refine g_getF 85 hM rfl rfl rfl rfl rfl ?_
        refine g_iload_n 86 hM rfl rfl rfl ?_
        refine g_bipush 88 hM rfl rfl rfl ?_
        refine g_imul 89 hM rfl rfl ?_
        refine g_iload 91 hM rfl rfl rfl ?_
        refine g_iadd 92 hM rfl rfl ?_
        refine g_aload_n 93 hM rfl rfl rfl ?_
        refine g_getF 96 hM rfl rfl rfl rfl rfl ?_
        obtain ⟨r7, s8, h6, h⟩ := zb_some h
        refine g_call 99 _ [] hM rfl rfl rfl rfl rfl (xM_136 _) rfl (z_rcv2 rfl) rfl rfl (by omega) (w_136 (by omega) h6) rfl ?_
        refine g_iinc 102 hM rfl rfl rfl rfl ?_
        refine g_goto 43 hM rfl rfl ?_
        cases h
        exact g_lv [(0, .ref 0), (1, .int (Int32.ofInt (v1 + 1))), (2, .int (Int32.ofInt v2)), (3, .long (Int64.ofBitVec w3)), (5, .int (Int32.ofInt (v5 + 1)))] rfl ⟨rfl, rfl, rfl, rfl, rfl, trivial⟩ hK
  · rw [if_neg hc2] at h
    refine g_ic_ge_t 105 hM rfl rfl hg1 (zR_lit rfl) hc2 ?_
    cases h
    exact g_lv [(0, .ref 0), (1, .int (Int32.ofInt v1)), (2, .int (Int32.ofInt v2))] rfl ⟨rfl, rfl, rfl, trivial⟩ hK
theorem wl_28_43 {k : zK} {d : Nat} {x : am_H} {r : am_A × am_H} {v2 : Int} {w3 : BitVec 64} {n : Nat} {e : (Int × Int × zS)} {t : (Int × zS)} (hd : 99 ≤ d) (h : zlp (fun (q : Int × Int × zS) => b_28_43 v2 w3 q.1 q.2.1 q.2.2) n e = some t) (hK : K_28_43 k d x r v2 w3 t) : G_28_43 k d x r v2 w3 e := zlp_go (G := fun e => G_28_43 k d x r v2 w3 e) (K := K_28_43 k d x r v2 w3) (fun e e1 h1 hg => wb_28_43 (q := .inl e1) hd h1 hg) (fun e t1 h1 hk => wb_28_43 (q := .inr t1) hd h1 hk) n e t h hK
def b_28_19 (v1 : Int) (v2 : Int) (s : zS) : Option ((Int × Int × zS) ⊕ (Int × zS)) := zo (f_49 s) (fun r2 => zg (zR v2) (zg (zR r2) (if v2 < r2 then (zo (f_24 s) (fun r7 => zb (f_26 r7 v2 s) (fun r9 s10 => zo (zlp (fun (q : Int × Int × zS) => b_28_43 v2 r9 q.1 q.2.1 q.2.2) zF (v1, 0, s10)) (fun e11 => some (.inl (e11.1, (v2 + 1), e11.2)))))) else (some (.inr (v1, s))))))
theorem wb_28_19 {k : zK} {d : Nat} {x : am_H} {r : am_A × am_H} {v1 : Int} {v2 : Int} {s : zS} {q : (Int × Int × zS) ⊕ (Int × zS)} (hd : 99 ≤ d) (h : b_28_19 v1 v2 s = some q) (hK : Sum.elim (G_28_19 k d x r) (K_28_19 k d x r) q) : G_28_19 k d x r (v1, v2, s) := by
  unfold b_28_19 at h
  have hM := xM_28 k.1
  show zgo k d 28 (19, [(0, .ref 0), (1, .int (Int32.ofInt v1)), (2, .int (Int32.ofInt v2))], []) (hp s ++ x) r
  refine g_iload_n 20 hM rfl rfl rfl ?_
  refine g_aload_n 21 hM rfl rfl rfl ?_
  refine g_getF 24 hM rfl rfl rfl rfl rfl ?_
  obtain ⟨r2, h1, h⟩ := zo_some h
  refine g_call 27 _ [.int (Int32.ofInt r2), .int (Int32.ofInt v2)] hM rfl rfl rfl rfl rfl (xM_49 _) rfl (z_rcv2 rfl) rfl rfl (by omega) (w_49 (by omega) h1) rfl ?_
  obtain ⟨hg3, h⟩ := zg_some h
  obtain ⟨hg4, h⟩ := zg_some h
  by_cases hc5 : v2 < r2
  · rw [if_pos hc5] at h
    refine g_ic_ge_f 30 111 hM rfl rfl rfl hg3 hg4 hc5 ?_
    refine g_aload_n 31 hM rfl rfl rfl ?_
    refine g_aload_n 32 hM rfl rfl rfl ?_
    obtain ⟨r7, h6, h⟩ := zo_some h
    refine g_call 35 _ [.int (Int32.ofInt r7), .ref 0] hM rfl rfl rfl rfl rfl (xM_24 _) rfl (z_rcv2 rfl) rfl rfl (by omega) (w_24 (by omega) h6) rfl ?_
    refine g_iload_n 36 hM rfl rfl rfl ?_
    obtain ⟨r9, s10, h8, h⟩ := zb_some h
    refine g_call 39 _ [.long (Int64.ofBitVec r9)] hM rfl rfl rfl rfl rfl (xM_26 _) rfl (z_rcv2 rfl) rfl rfl (by omega) (w_26 (by omega) h8) rfl ?_
    refine g_lstore_n 40 hM rfl rfl rfl ?_
    refine g_iconst 41 hM rfl rfl ?_
    refine g_istore 43 hM rfl rfl rfl ?_
    obtain ⟨e11, h12, h⟩ := zo_some h
    refine g_lv [(0, .ref 0), (1, .int (Int32.ofInt v1)), (2, .int (Int32.ofInt v2)), (3, .long (Int64.ofBitVec r9)), (5, .int (Int32.ofInt 0))] rfl ⟨rfl, rfl, rfl, rfl, rfl, trivial⟩ ?_
    refine wl_28_43 (by omega) h12 ?_
    show zgo k d 28 (105, [(0, .ref 0), (1, .int (Int32.ofInt e11.1)), (2, .int (Int32.ofInt v2))], []) (hp e11.2 ++ x) r
    refine g_iinc 108 hM rfl rfl rfl rfl ?_
    refine g_goto 19 hM rfl rfl ?_
    cases h
    exact g_lv [(0, .ref 0), (1, .int (Int32.ofInt e11.1)), (2, .int (Int32.ofInt (v2 + 1)))] rfl ⟨rfl, rfl, rfl, trivial⟩ hK
  · rw [if_neg hc5] at h
    refine g_ic_ge_t 111 hM rfl rfl hg3 hg4 hc5 ?_
    cases h
    exact g_lv [(1, .int (Int32.ofInt v1))] rfl ⟨rfl, trivial⟩ hK
theorem wl_28_19 {k : zK} {d : Nat} {x : am_H} {r : am_A × am_H} {n : Nat} {e : (Int × Int × zS)} {t : (Int × zS)} (hd : 99 ≤ d) (h : zlp (fun (q : Int × Int × zS) => b_28_19 q.1 q.2.1 q.2.2) n e = some t) (hK : K_28_19 k d x r t) : G_28_19 k d x r e := zlp_go (G := fun e => G_28_19 k d x r e) (K := K_28_19 k d x r) (fun e e1 h1 hg => wb_28_19 (q := .inl e1) hd h1 hg) (fun e t1 h1 hk => wb_28_19 (q := .inr t1) hd h1 hk) n e t h hK
/-- RelationFinder.unlike()I -/
def f_28 (s : zS) : Option (Int × zS) := zb (f_130 s) (fun r2 s3 => zb (f_270_175 (0#64) s3) (fun r5 s6 => zo (zlp (fun (q : Int × Int × zS) => b_28_19 q.1 q.2.1 q.2.2) zF (0, 0, s6)) (fun e7 => some (e7.1, e7.2))))
theorem w_28 {k : zK} {d : Nat} {x : am_H} {s : zS} {q : (Int × zS)} (hd : 99 ≤ d) (h : f_28 s = some q) : zgo k d 28 (0, [(0, .ref 0)], []) (hp s ++ x) (.inl (some (.int (Int32.ofInt q.1))), hp q.2 ++ x) := by
  unfold f_28 at h
  have hM := xM_28 k.1
  refine g_aload_n 1 hM rfl rfl rfl ?_
  refine g_getF 4 hM rfl rfl rfl rfl rfl ?_
  obtain ⟨r2, s3, h1, h⟩ := zb_some h
  refine g_call 7 _ [] hM rfl rfl rfl rfl rfl (xM_130 _) rfl (z_rcv2 rfl) rfl rfl (by omega) (w_130 (by omega) h1) rfl ?_
  refine g_aload_n 8 hM rfl rfl rfl ?_
  refine g_getF 11 hM rfl rfl rfl rfl rfl ?_
  refine g_lconst 12 (0#64) hM rfl rfl rfl ?_
  obtain ⟨r5, s6, h4, h⟩ := zb_some h
  refine g_call 15 _ [] hM rfl rfl rfl rfl rfl (xM_270 _) rfl rfl rfl rfl (by omega) (w_270_175 (by omega) h4) rfl ?_
  refine g_iconst 16 hM rfl rfl ?_
  refine g_istore_n 17 hM rfl rfl rfl ?_
  refine g_iconst 18 hM rfl rfl ?_
  refine g_istore_n 19 hM rfl rfl rfl ?_
  obtain ⟨e7, h8, h⟩ := zo_some h
  refine g_lv [(0, .ref 0), (1, .int (Int32.ofInt 0)), (2, .int (Int32.ofInt 0))] rfl ⟨rfl, rfl, rfl, trivial⟩ ?_
  refine wl_28_19 (by omega) h8 ?_
  show zgo k d 28 (111, [(1, .int (Int32.ofInt e7.1))], []) (hp e7.2 ++ x) (.inl (some (.int (Int32.ofInt q.1))), hp q.2 ++ x)
  refine g_iload_n 112 hM rfl rfl rfl ?_
  cases h
  exact g_ret hM rfl rfl
/-- RelationFinder.fair()I -/
def f_29 (s : zS) : Option (Int × zS) := zb (f_130 s) (fun r2 s3 => some ((gI s3 25 2), s3))
theorem w_29 {k : zK} {d : Nat} {x : am_H} {s : zS} {q : (Int × zS)} (hd : 3 ≤ d) (h : f_29 s = some q) : zgo k d 29 (0, [(0, .ref 0)], []) (hp s ++ x) (.inl (some (.int (Int32.ofInt q.1))), hp q.2 ++ x) := by
  unfold f_29 at h
  have hM := xM_29 k.1
  refine g_aload_n 1 hM rfl rfl rfl ?_
  refine g_getF 4 hM rfl rfl rfl rfl rfl ?_
  obtain ⟨r2, s3, h1, h⟩ := zb_some h
  refine g_call 7 _ [] hM rfl rfl rfl rfl rfl (xM_130 _) rfl (z_rcv2 rfl) rfl rfl (by omega) (w_130 (by omega) h1) rfl ?_
  refine g_aload_n 8 hM rfl rfl rfl ?_
  refine g_getF 11 hM rfl rfl rfl rfl rfl ?_
  refine g_getI 14 2 (gI s3 25 2) hM rfl rfl rfl rfl rfl rfl rfl ?_
  cases h
  exact g_ret hM rfl rfl
/-- RelationFinder.isIn(I)Z -/
def f_30 (v1 : Int) (s : zS) : Option Int := zg (zR v1) (if v1 < 0 then (some 0) else (if v1 < 125 then (zg (0 ≤ v1 ∧ v1 < 125) (if (gI s 176 v1) = 0 then (some 0) else (some 1))) else (some 0)))
theorem w_30 {k : zK} {d : Nat} {x : am_H} {v1 : Int} {s : zS} {q : Int} (hd : 0 ≤ d) (h : f_30 v1 s = some q) : zgo k d 30 (0, [(0, .ref 0), (1, .int (Int32.ofInt v1))], []) (hp s ++ x) (.inl (some (.int (Int32.ofInt q))), hp s ++ x) := by
  unfold f_30 at h
  have hM := xM_30 k.1
  refine g_iload_n 1 hM rfl rfl rfl ?_
  obtain ⟨hg1, h⟩ := zg_some h
  by_cases hc2 : v1 < 0
  · rw [if_pos hc2] at h
    refine g_if_lt_t 23 hM rfl rfl hg1 hc2 ?_
    refine g_iconst 24 hM rfl rfl ?_
    cases h
    exact g_ret hM rfl rfl
  · rw [if_neg hc2] at h
    refine g_if_lt_f 4 23 hM rfl rfl rfl hg1 hc2 ?_
    refine g_iload_n 5 hM rfl rfl rfl ?_
    refine g_bipush 7 hM rfl rfl rfl ?_
    by_cases hc3 : v1 < 125
    · rw [if_pos hc3] at h
      refine g_ic_ge_f 10 23 hM rfl rfl rfl hg1 (zR_lit rfl) hc3 ?_
      refine g_aload_n 11 hM rfl rfl rfl ?_
      refine g_getF 14 hM rfl rfl rfl rfl rfl ?_
      refine g_iload_n 15 hM rfl rfl rfl ?_
      obtain ⟨hg4, h⟩ := zg_some h
      refine g_baload 16 (gI s 176 v1) hM rfl rfl rfl rfl hg4 rfl ?_
      by_cases hc5 : (gI s 176 v1) = 0
      · rw [if_pos hc5] at h
        refine g_if_eq_t 23 hM rfl rfl (zR_gI _ _ _) hc5 ?_
        refine g_iconst 24 hM rfl rfl ?_
        cases h
        exact g_ret hM rfl rfl
      · rw [if_neg hc5] at h
        refine g_if_eq_f 19 23 hM rfl rfl rfl (zR_gI _ _ _) hc5 ?_
        refine g_iconst 20 hM rfl rfl ?_
        refine g_goto 24 hM rfl rfl ?_
        cases h
        exact g_ret hM rfl rfl
    · rw [if_neg hc3] at h
      refine g_ic_ge_t 23 hM rfl rfl hg1 (zR_lit rfl) hc3 ?_
      refine g_iconst 24 hM rfl rfl ?_
      cases h
      exact g_ret hM rfl rfl
def t_31_1 (a : Int) : Nat := zswt 0 7 [48, 56, 64, 72, 77, 90, 104, 112] 117 a
/-- RelationFinder.told(I)I -/
def f_31 (v1 : Int) (s : zS) : Option Int := zg (zR v1) (if t_31_1 v1 = 48 then (some (gI s 1 0)) else (if t_31_1 v1 = 56 then (some (gI s 1 4)) else (if t_31_1 v1 = 64 then (some (gI s 1 8)) else (if t_31_1 v1 = 72 then (some (gI s 0 10)) else (if t_31_1 v1 = 77 then (if (gI s 0 11) = 0 then (some 0) else (some 1)) else (if t_31_1 v1 = 90 then (if (gI s 0 12) = (-1) then (some 0) else (some 1)) else (if t_31_1 v1 = 104 then (some (gI s 8 1)) else (if t_31_1 v1 = 112 then (some (gI s 0 17)) else (if t_31_1 v1 = 117 then (some (-1)) else (none))))))))))
theorem w_31 {k : zK} {d : Nat} {x : am_H} {v1 : Int} {s : zS} {q : Int} (hd : 0 ≤ d) (h : f_31 v1 s = some q) : zgo k d 31 (0, [(0, .ref 0), (1, .int (Int32.ofInt v1))], []) (hp s ++ x) (.inl (some (.int (Int32.ofInt q))), hp s ++ x) := by
  unfold f_31 at h
  have hM := xM_31 k.1
  refine g_iload_n 1 hM rfl rfl rfl ?_
  obtain ⟨hg1, h⟩ := zg_some h
  by_cases hc2 : t_31_1 v1 = 48
  · rw [if_pos hc2] at h
    refine g_tsw 48 hM rfl hg1 hc2 rfl rfl rfl ?_
    refine g_aload_n 49 hM rfl rfl rfl ?_
    refine g_getF 52 hM rfl rfl rfl rfl rfl ?_
    refine g_getI 55 0 (gI s 1 0) hM rfl rfl rfl rfl rfl rfl rfl ?_
    cases h
    exact g_ret hM rfl rfl
  · rw [if_neg hc2] at h
    by_cases hc3 : t_31_1 v1 = 56
    · rw [if_pos hc3] at h
      refine g_tsw 56 hM rfl hg1 hc3 rfl rfl rfl ?_
      refine g_aload_n 57 hM rfl rfl rfl ?_
      refine g_getF 60 hM rfl rfl rfl rfl rfl ?_
      refine g_getI 63 4 (gI s 1 4) hM rfl rfl rfl rfl rfl rfl rfl ?_
      cases h
      exact g_ret hM rfl rfl
    · rw [if_neg hc3] at h
      by_cases hc4 : t_31_1 v1 = 64
      · rw [if_pos hc4] at h
        refine g_tsw 64 hM rfl hg1 hc4 rfl rfl rfl ?_
        refine g_aload_n 65 hM rfl rfl rfl ?_
        refine g_getF 68 hM rfl rfl rfl rfl rfl ?_
        refine g_getI 71 8 (gI s 1 8) hM rfl rfl rfl rfl rfl rfl rfl ?_
        cases h
        exact g_ret hM rfl rfl
      · rw [if_neg hc4] at h
        by_cases hc5 : t_31_1 v1 = 72
        · rw [if_pos hc5] at h
          refine g_tsw 72 hM rfl hg1 hc5 rfl rfl rfl ?_
          refine g_aload_n 73 hM rfl rfl rfl ?_
          refine g_getI 76 10 (gI s 0 10) hM rfl rfl rfl rfl rfl rfl rfl ?_
          cases h
          exact g_ret hM rfl rfl
        · rw [if_neg hc5] at h
          by_cases hc6 : t_31_1 v1 = 77
          · rw [if_pos hc6] at h
            refine g_tsw 77 hM rfl hg1 hc6 rfl rfl rfl ?_
            refine g_aload_n 78 hM rfl rfl rfl ?_
            refine g_getI 81 11 (gI s 0 11) hM rfl rfl rfl rfl rfl rfl rfl ?_
            by_cases hc7 : (gI s 0 11) = 0
            · rw [if_pos hc7] at h
              refine g_if_eq_t 88 hM rfl rfl (zR_gI _ _ _) hc7 ?_
              refine g_iconst 89 hM rfl rfl ?_
              cases h
              exact g_ret hM rfl rfl
            · rw [if_neg hc7] at h
              refine g_if_eq_f 84 88 hM rfl rfl rfl (zR_gI _ _ _) hc7 ?_
              refine g_iconst 85 hM rfl rfl ?_
              refine g_goto 89 hM rfl rfl ?_
              cases h
              exact g_ret hM rfl rfl
          · rw [if_neg hc6] at h
            by_cases hc8 : t_31_1 v1 = 90
            · rw [if_pos hc8] at h
              refine g_tsw 90 hM rfl hg1 hc8 rfl rfl rfl ?_
              refine g_aload_n 91 hM rfl rfl rfl ?_
              refine g_getI 94 12 (gI s 0 12) hM rfl rfl rfl rfl rfl rfl rfl ?_
              refine g_iconst 95 hM rfl rfl ?_
              by_cases hc9 : (gI s 0 12) = (-1)
              · rw [if_pos hc9] at h
                refine g_ic_ne_f 98 102 hM rfl rfl rfl (zR_gI _ _ _) (zR_lit rfl) hc9 ?_
                refine g_iconst 99 hM rfl rfl ?_
                refine g_goto 103 hM rfl rfl ?_
                cases h
                exact g_ret hM rfl rfl
              · rw [if_neg hc9] at h
                refine g_ic_ne_t 102 hM rfl rfl (zR_gI _ _ _) (zR_lit rfl) hc9 ?_
                refine g_iconst 103 hM rfl rfl ?_
                cases h
                exact g_ret hM rfl rfl
            · rw [if_neg hc8] at h
              by_cases hc10 : t_31_1 v1 = 104
              · rw [if_pos hc10] at h
                refine g_tsw 104 hM rfl hg1 hc10 rfl rfl rfl ?_
                refine g_aload_n 105 hM rfl rfl rfl ?_
                refine g_getF 108 hM rfl rfl rfl rfl rfl ?_
                refine g_getI 111 1 (gI s 8 1) hM rfl rfl rfl rfl rfl rfl rfl ?_
                cases h
                exact g_ret hM rfl rfl
              · rw [if_neg hc10] at h
                by_cases hc11 : t_31_1 v1 = 112
                · rw [if_pos hc11] at h
                  refine g_tsw 112 hM rfl hg1 hc11 rfl rfl rfl ?_
                  refine g_aload_n 113 hM rfl rfl rfl ?_
                  refine g_getI 116 17 (gI s 0 17) hM rfl rfl rfl rfl rfl rfl rfl ?_
                  cases h
                  exact g_ret hM rfl rfl
                · rw [if_neg hc11] at h
                  by_cases hc12 : t_31_1 v1 = 117
                  · rw [if_pos hc12] at h
                    refine g_tsw 117 hM rfl hg1 hc12 rfl rfl rfl ?_
                    refine g_iconst 118 hM rfl rfl ?_
                    cases h
                    exact g_ret hM rfl rfl
                  · rw [if_neg hc12] at h
                    cases h
def G_71_5 (k : zK) (d : Nat) (x : am_H) (r : am_A × am_H) (w1 : BitVec 64) (e : (Int × zS)) : Prop := zgo k d 71 (5, [(0, .ref 8), (1, .long (Int64.ofBitVec w1)), (4, .int (Int32.ofInt e.1))], []) (hp e.2 ++ x) r
def K_71_5 (k : zK) (d : Nat) (x : am_H) (r : am_A × am_H) (w1 : BitVec 64) (t : (zS)) : Prop := zgo k d 71 (57, [], []) (hp t ++ x) r
def b_71_5 (w1 : BitVec 64) (v4 : Int) (s : zS) : Option ((Int × zS) ⊕ (zS)) := zg (zR v4) (if v4 < 0 then (some (.inr s)) else (if (gI s 8 1) < 600 then (zg (zR (8 * v4)) (zg (0 ≤ (gI s 8 1) ∧ (gI s 8 1) < 600) (some (.inl ((v4 + (-1)), (sI (sI s 9 (gI s 8 1) ((BitVec.toNat ((w1 >>> zshl (8 * v4)) &&& (255#64)) : Nat) : Int)) 8 1 ((gI s 8 1) + 1))))))) else (some (.inr s))))
theorem wb_71_5 {k : zK} {d : Nat} {x : am_H} {r : am_A × am_H} {w1 : BitVec 64} {v4 : Int} {s : zS} {q : (Int × zS) ⊕ (zS)} (hd : 0 ≤ d) (h : b_71_5 w1 v4 s = some q) (hK : Sum.elim (G_71_5 k d x r w1) (K_71_5 k d x r w1) q) : G_71_5 k d x r w1 (v4, s) := by
  unfold b_71_5 at h
  have hM := xM_71 k.1
  show zgo k d 71 (5, [(0, .ref 8), (1, .long (Int64.ofBitVec w1)), (4, .int (Int32.ofInt v4))], []) (hp s ++ x) r
  refine g_iload 7 hM rfl rfl rfl ?_
  obtain ⟨hg1, h⟩ := zg_some h
  by_cases hc2 : v4 < 0
  · rw [if_pos hc2] at h
    refine g_if_lt_t 57 hM rfl rfl hg1 hc2 ?_
    cases h
    exact g_lv [] rfl trivial hK
  · rw [if_neg hc2] at h
    refine g_if_lt_f 10 57 hM rfl rfl rfl hg1 hc2 ?_
    refine g_aload_n 11 hM rfl rfl rfl ?_
    refine g_getI 14 1 (gI s 8 1) hM rfl rfl rfl rfl rfl rfl rfl ?_
    refine g_sipush 17 hM rfl rfl rfl ?_
    by_cases hc3 : (gI s 8 1) < 600
    · rw [if_pos hc3] at h
      refine g_ic_ge_f 20 57 hM rfl rfl rfl (zR_gI _ _ _) (zR_lit rfl) hc3 ?_
      refine g_aload_n 21 hM rfl rfl rfl ?_
      refine g_getF 24 hM rfl rfl rfl rfl rfl ?_
      refine g_aload_n 25 hM rfl rfl rfl ?_
      refine g_getI 28 1 (gI s 8 1) hM rfl rfl rfl rfl rfl rfl rfl ?_
      refine g_lload_n 29 hM rfl rfl rfl ?_
      refine g_bipush 31 hM rfl rfl rfl ?_
      refine g_iload 33 hM rfl rfl rfl ?_
      refine g_imul 34 hM rfl rfl ?_
      obtain ⟨hg4, h⟩ := zg_some h
      refine g_lushr 35 hM rfl rfl hg4 ?_
      refine g_ldc2 38 (255#64) hM rfl rfl rfl (by decide) ?_
      refine g_land 39 hM rfl rfl ?_
      refine g_l2i 40 hM rfl rfl ?_
      obtain ⟨hg5, h⟩ := zg_some h
      refine g_iastore 41 hM rfl rfl rfl rfl hg5 ?_
      refine g_aload_n 42 hM rfl rfl rfl ?_
      refine g_dup 43 hM rfl rfl rfl ?_
      refine g_getI 46 1 (gI s 8 1) hM rfl rfl rfl rfl rfl rfl rfl ?_
      refine g_iconst 47 hM rfl rfl ?_
      refine g_iadd 48 hM rfl rfl ?_
      refine g_putI 51 1 hM rfl rfl rfl rfl rfl rfl rfl ?_
      refine g_iinc 54 hM rfl rfl rfl rfl ?_
      refine g_goto 5 hM rfl rfl ?_
      cases h
      exact g_lv [(0, .ref 8), (1, .long (Int64.ofBitVec w1)), (4, .int (Int32.ofInt (v4 + (-1))))] rfl ⟨rfl, rfl, rfl, trivial⟩ hK
    · rw [if_neg hc3] at h
      refine g_ic_ge_t 57 hM rfl rfl (zR_gI _ _ _) (zR_lit rfl) hc3 ?_
      cases h
      exact g_lv [] rfl trivial hK
theorem wl_71_5 {k : zK} {d : Nat} {x : am_H} {r : am_A × am_H} {w1 : BitVec 64} {n : Nat} {e : (Int × zS)} {t : (zS)} (hd : 0 ≤ d) (h : zlp (fun (q : Int × zS) => b_71_5 w1 q.1 q.2) n e = some t) (hK : K_71_5 k d x r w1 t) : G_71_5 k d x r w1 e := zlp_go (G := fun e => G_71_5 k d x r w1 e) (K := K_71_5 k d x r w1) (fun e e1 h1 hg => wb_71_5 (q := .inl e1) hd h1 hg) (fun e t1 h1 hk => wb_71_5 (q := .inr t1) hd h1 hk) n e t h hK
/-- RelationFinder$Tape.append(JI)V -/
def f_71 (w1 : BitVec 64) (v3 : Int) (s : zS) : Option (Unit × zS) := zo (zlp (fun (q : Int × zS) => b_71_5 w1 q.1 q.2) zF ((v3 - 1), s)) (fun e1 => some ((), e1))
theorem w_71 {k : zK} {d : Nat} {x : am_H} {w1 : BitVec 64} {v3 : Int} {s : zS} {q : (Unit × zS)} (hd : 0 ≤ d) (h : f_71 w1 v3 s = some q) : zgo k d 71 (0, [(0, .ref 8), (1, .long (Int64.ofBitVec w1)), (3, .int (Int32.ofInt v3))], []) (hp s ++ x) (.inl (none), hp q.2 ++ x) := by
  unfold f_71 at h
  have hM := xM_71 k.1
  refine g_iload_n 1 hM rfl rfl rfl ?_
  refine g_iconst 2 hM rfl rfl ?_
  refine g_isub 3 hM rfl rfl ?_
  refine g_istore 5 hM rfl rfl rfl ?_
  obtain ⟨e1, h2, h⟩ := zo_some h
  refine g_lv [(0, .ref 8), (1, .long (Int64.ofBitVec w1)), (4, .int (Int32.ofInt (v3 - 1)))] rfl ⟨rfl, rfl, rfl, trivial⟩ ?_
  refine wl_71_5 (by omega) h2 ?_
  show zgo k d 71 (57, [], []) (hp e1 ++ x) (.inl (none), hp q.2 ++ x)
  cases h
  exact g_ret hM rfl rfl
/-- RelationFinder.feed(JI)I -/
def f_32 (w1 : BitVec 64) (v3 : Int) (s : zS) : Option ((Int ⊕ Nat) × zS) := zg (zR v3) (if v3 < 1 then (some (Sum.inr 8, s)) else (if 8 < v3 then (some (Sum.inr 8, s)) else (zg (zR ((gI s 8 1) + v3)) (if 600 < ((gI s 8 1) + v3) then (some (Sum.inr 9, s)) else (zb (f_71 w1 v3 s) (fun r7 s8 => some ((Sum.inl (gI s8 8 1)), s8)))))))
theorem w_32 {k : zK} {d : Nat} {x : am_H} {w1 : BitVec 64} {v3 : Int} {s : zS} {q : ((Int ⊕ Nat) × zS)} (hd : 8 ≤ d) (hxl : x.length < 100000) (h : f_32 w1 v3 s = some q) : zgo k d 32 (0, [(0, .ref 0), (1, .long (Int64.ofBitVec w1)), (3, .int (Int32.ofInt v3))], []) (hp s ++ x) (zires q.1 x, hp q.2 ++ zext q.1 x) := by
  unfold f_32 at h
  have hM := xM_32 k.1
  refine g_iload_n 1 hM rfl rfl rfl ?_
  refine g_iconst 2 hM rfl rfl ?_
  obtain ⟨hg1, h⟩ := zg_some h
  by_cases hc2 : v3 < 1
  · rw [if_pos hc2] at h
    refine g_ic_lt_t 11 hM rfl rfl hg1 (zR_lit rfl) hc2 ?_
    cases h
    exact g_throw hM rfl rfl rfl hxl (by omega) rfl
  · rw [if_neg hc2] at h
    refine g_ic_lt_f 5 11 hM rfl rfl rfl hg1 (zR_lit rfl) hc2 ?_
    refine g_iload_n 6 hM rfl rfl rfl ?_
    refine g_bipush 8 hM rfl rfl rfl ?_
    by_cases hc3 : 8 < v3
    · rw [if_pos hc3] at h
      refine g_ic_le_f 11 21 hM rfl rfl rfl hg1 (zR_lit rfl) hc3 ?_
      cases h
      exact g_throw hM rfl rfl rfl hxl (by omega) rfl
    · rw [if_neg hc3] at h
      refine g_ic_le_t 21 hM rfl rfl hg1 (zR_lit rfl) hc3 ?_
      refine g_aload_n 22 hM rfl rfl rfl ?_
      refine g_getF 25 hM rfl rfl rfl rfl rfl ?_
      refine g_getI 28 1 (gI s 8 1) hM rfl rfl rfl rfl rfl rfl rfl ?_
      refine g_iload_n 29 hM rfl rfl rfl ?_
      refine g_iadd 30 hM rfl rfl ?_
      refine g_sipush 33 hM rfl rfl rfl ?_
      obtain ⟨hg4, h⟩ := zg_some h
      by_cases hc5 : 600 < ((gI s 8 1) + v3)
      · rw [if_pos hc5] at h
        refine g_ic_le_f 36 46 hM rfl rfl rfl hg4 (zR_lit rfl) hc5 ?_
        cases h
        exact g_throw hM rfl rfl rfl hxl (by omega) rfl
      · rw [if_neg hc5] at h
        refine g_ic_le_t 46 hM rfl rfl hg4 (zR_lit rfl) hc5 ?_
        refine g_aload_n 47 hM rfl rfl rfl ?_
        refine g_getF 50 hM rfl rfl rfl rfl rfl ?_
        refine g_lload_n 51 hM rfl rfl rfl ?_
        refine g_iload_n 52 hM rfl rfl rfl ?_
        obtain ⟨r7, s8, h6, h⟩ := zb_some h
        refine g_call 55 _ [] hM rfl rfl rfl rfl rfl (xM_71 _) rfl (z_rcv2 rfl) rfl rfl (by omega) (w_71 (by omega) h6) rfl ?_
        refine g_aload_n 56 hM rfl rfl rfl ?_
        refine g_getF 59 hM rfl rfl rfl rfl rfl ?_
        refine g_getI 62 1 (gI s8 8 1) hM rfl rfl rfl rfl rfl rfl rfl ?_
        cases h
        exact g_ret hM rfl rfl
/-- RelationFinderLaw.feed(LRelationFinder;JI[J)I -/
def f_2 (w1 : BitVec 64) (v3 : Int) (s : zS) : Option (Int × zS) := zb (f_32 w1 v3 s) (fun r2 s3 => Sum.elim (fun v4 => zg (zR v4) (some (0, (sJ s3 205 0 (BitVec.ofInt 64 v4))))) (fun c5 => if c5 = 8 then (some (1, s3)) else (if c5 = 9 then (some (2, s3)) else (none))) r2)
theorem w_2 {k : zK} {d : Nat} {x : am_H} {w1 : BitVec 64} {v3 : Int} {s s' : zS} {r : Int} (hd : 9 ≤ d) (hxl : x.length < 100000) (h : f_2 w1 v3 s = some (r, s')) : ∃ x', zgrow x x' ∧ zgo k d 2 (0, [(0, .ref 0), (1, .long (Int64.ofBitVec w1)), (3, .int (Int32.ofInt v3)), (4, .ref 205)], []) (hp s ++ x) (.inl (some (.int (Int32.ofInt r))), hp s' ++ x') := by
  unfold f_2 at h
  have hM := xM_2 k.1
  obtain ⟨r2, s3, h1, h⟩ := zb_some h
  have hwh1 := w_32 (k := k) (d := d - 1) (by omega) hxl h1
  rcases r2 with v4 | c5
  · simp only [ze_l] at h
    refine ⟨x, Or.inl rfl, ?_⟩
    refine g_aload 2 hM rfl rfl rfl ?_
    refine g_iconst 3 hM rfl rfl ?_
    refine g_aload_n 4 hM rfl rfl rfl ?_
    refine g_lload_n 5 hM rfl rfl rfl ?_
    refine g_iload_n 6 hM rfl rfl rfl ?_
    refine g_call 9 _ [.int (Int32.ofInt v4), .int (Int32.ofInt 0), .ref 205] hM rfl rfl rfl rfl rfl (xM_32 _) rfl (z_rcv2 rfl) rfl rfl (by omega) hwh1 rfl ?_
    obtain ⟨hg6, h⟩ := zg_some h
    refine g_i2l 10 hM rfl rfl hg6 ?_
    refine g_lastore 11 hM rfl rfl rfl rfl ⟨by decide, by decide⟩ ?_
    refine g_goto 22 hM rfl rfl ?_
    refine g_iconst 23 hM rfl rfl ?_
    cases h
    exact g_ret hM rfl rfl
  · simp only [ze_r] at h
    refine ⟨x ++ [.inr (c5, am_six)], Or.inr ⟨_, rfl⟩, ?_⟩
    refine g_aload 2 hM rfl rfl rfl ?_
    refine g_iconst 3 hM rfl rfl ?_
    refine g_aload_n 4 hM rfl rfl rfl ?_
    refine g_lload_n 5 hM rfl rfl rfl ?_
    refine g_iload_n 6 hM rfl rfl rfl ?_
    by_cases hc7 : c5 = 8
    · rw [if_pos hc7] at h
      subst hc7
      refine g_callx (h := 14) _ hM rfl rfl rfl rfl rfl (xM_32 _) rfl (z_rcv2 rfl) rfl (by omega) hwh1 (z_atx hxl) rfl ?_
      refine g_astore 16 hM rfl rfl rfl ?_
      refine g_iconst 17 hM rfl rfl ?_
      cases h
      exact g_ret hM rfl rfl
    · rw [if_neg hc7] at h
      by_cases hc8 : c5 = 9
      · rw [if_pos hc8] at h
        subst hc8
        refine g_callx (h := 18) _ hM rfl rfl rfl rfl rfl (xM_32 _) rfl (z_rcv2 rfl) rfl (by omega) hwh1 (z_atx hxl) rfl ?_
        refine g_astore 20 hM rfl rfl rfl ?_
        refine g_iconst 21 hM rfl rfl ?_
        cases h
        exact g_ret hM rfl rfl
      · rw [if_neg hc8] at h
        cases h
def G_34_5 (k : zK) (d : Nat) (x : am_H) (r : am_A × am_H) (w0 : BitVec 64) (s : zS) (e : (BitVec 64 × Int)) : Prop := zgo k d 34 (5, [(0, .long (Int64.ofBitVec w0)), (2, .long (Int64.ofBitVec e.1)), (4, .int (Int32.ofInt e.2))], []) (hp s ++ x) r
def K_34_5 (k : zK) (d : Nat) (x : am_H) (r : am_A × am_H) (w0 : BitVec 64) (s : zS) (t : ((BitVec 64) ⊕ Int)) : Prop := Sum.elim (fun e => zgo k d 34 (43, [(0, .long (Int64.ofBitVec w0)), (2, .long (Int64.ofBitVec e))], []) (hp s ++ x) r) (fun q => r = (.inl (some (.int (Int32.ofInt q))), hp s ++ x)) t
def b_34_5 (w0 : BitVec 64) (s : zS) (w2 : BitVec 64) (v4 : Int) : Option ((BitVec 64 × Int) ⊕ ((BitVec 64) ⊕ Int)) := zg (zR v4) (if v4 < 6 then (if w2 = (0#64) then (some (.inr (.inl w2))) else (zo (f_18 ((BitVec.toNat (w2 &&& (255#64)) : Nat) : Int)) (fun r5 => zg (zR r5) (if r5 = 0 then (some (.inr (.inr 0))) else (some (.inl ((w2 >>> zshl 8), (v4 + 1)))))))) else (some (.inr (.inl w2))))
theorem wb_34_5 {k : zK} {d : Nat} {x : am_H} {r : am_A × am_H} {w0 : BitVec 64} {w2 : BitVec 64} {v4 : Int} {s : zS} {q : (BitVec 64 × Int) ⊕ ((BitVec 64) ⊕ Int)} (hd : 1 ≤ d) (h : b_34_5 w0 s w2 v4 = some q) (hK : Sum.elim (G_34_5 k d x r w0 s) (K_34_5 k d x r w0 s) q) : G_34_5 k d x r w0 s (w2, v4) := by
  unfold b_34_5 at h
  have hM := xM_34 k.1
  show zgo k d 34 (5, [(0, .long (Int64.ofBitVec w0)), (2, .long (Int64.ofBitVec w2)), (4, .int (Int32.ofInt v4))], []) (hp s ++ x) r
  refine g_iload 7 hM rfl rfl rfl ?_
  refine g_bipush 9 hM rfl rfl rfl ?_
  obtain ⟨hg1, h⟩ := zg_some h
  by_cases hc2 : v4 < 6
  · rw [if_pos hc2] at h
    refine g_ic_ge_f 12 43 hM rfl rfl rfl hg1 (zR_lit rfl) hc2 ?_
    refine g_lload_n 13 hM rfl rfl rfl ?_
    refine g_lconst 14 (0#64) hM rfl rfl rfl ?_
    by_cases hc3 : w2 = (0#64)
    · rw [if_pos hc3] at h
      refine g_lc_eq_t 15 43 hM rfl rfl rfl rfl hc3 ?_
      cases h
      exact g_lv [(0, .long (Int64.ofBitVec w0)), (2, .long (Int64.ofBitVec w2))] rfl ⟨rfl, rfl, trivial⟩ hK
    · rw [if_neg hc3] at h
      refine g_lc_eq_f 15 18 43 hM rfl rfl rfl rfl rfl hc3 ?_
      refine g_lload_n 19 hM rfl rfl rfl ?_
      refine g_ldc2 22 (255#64) hM rfl rfl rfl (by decide) ?_
      refine g_land 23 hM rfl rfl ?_
      refine g_l2i 24 hM rfl rfl ?_
      obtain ⟨r5, h4, h⟩ := zo_some h
      refine g_call 27 _ [.int (Int32.ofInt r5)] hM rfl rfl rfl rfl rfl (xM_18 _) rfl rfl rfl rfl (by omega) (w_18 (by omega) h4) rfl ?_
      obtain ⟨hg6, h⟩ := zg_some h
      by_cases hc7 : r5 = 0
      · rw [if_pos hc7] at h
        refine g_if_ne_f 30 32 hM rfl rfl rfl hg6 hc7 ?_
        refine g_iconst 31 hM rfl rfl ?_
        cases h
        rw [show r = _ from hK]
        exact g_ret hM rfl rfl
      · rw [if_neg hc7] at h
        refine g_if_ne_t 32 hM rfl rfl hg6 hc7 ?_
        refine g_lload_n 33 hM rfl rfl rfl ?_
        refine g_bipush 35 hM rfl rfl rfl ?_
        refine g_lushr 36 hM rfl rfl (zR_lit rfl) ?_
        refine g_lstore_n 37 hM rfl rfl rfl ?_
        refine g_iinc 40 hM rfl rfl rfl rfl ?_
        refine g_goto 5 hM rfl rfl ?_
        cases h
        exact g_lv [(0, .long (Int64.ofBitVec w0)), (2, .long (Int64.ofBitVec (w2 >>> zshl 8))), (4, .int (Int32.ofInt (v4 + 1)))] rfl ⟨rfl, rfl, rfl, trivial⟩ hK
  · rw [if_neg hc2] at h
    refine g_ic_ge_t 43 hM rfl rfl hg1 (zR_lit rfl) hc2 ?_
    cases h
    exact g_lv [(0, .long (Int64.ofBitVec w0)), (2, .long (Int64.ofBitVec w2))] rfl ⟨rfl, rfl, trivial⟩ hK
theorem wl_34_5 {k : zK} {d : Nat} {x : am_H} {r : am_A × am_H} {w0 : BitVec 64} {s : zS} {n : Nat} {e : (BitVec 64 × Int)} {t : ((BitVec 64) ⊕ Int)} (hd : 1 ≤ d) (h : zlp (fun (q : BitVec 64 × Int) => b_34_5 w0 s q.1 q.2) n e = some t) (hK : K_34_5 k d x r w0 s t) : G_34_5 k d x r w0 s e := zlp_go (G := fun e => G_34_5 k d x r w0 s e) (K := K_34_5 k d x r w0 s) (fun e e1 h1 hg => wb_34_5 (q := .inl e1) hd h1 hg) (fun e t1 h1 hk => wb_34_5 (q := .inr t1) hd h1 hk) n e t h hK
def j_34_43 (w0 : BitVec 64) (w2 : BitVec 64) (s : zS) : Option Int := if w0 = (0#64) then (some 0) else (if w2 = (0#64) then (zo (f_19 w0 s) (fun r4 => zg (zR r4) (if r4 = 2 then (some 1) else (some 0)))) else (some 0))
theorem wj_34_43 {k : zK} {d : Nat} {x : am_H} {w0 : BitVec 64} {w2 : BitVec 64} {s : zS} {q : Int} (hd : 1 ≤ d) (h : j_34_43 w0 w2 s = some q) : zgo k d 34 (43, [(0, .long (Int64.ofBitVec w0)), (2, .long (Int64.ofBitVec w2))], []) (hp s ++ x) (.inl (some (.int (Int32.ofInt q))), hp s ++ x) := by
  unfold j_34_43 at h
  have hM := xM_34 k.1
  refine g_lload_n 44 hM rfl rfl rfl ?_
  refine g_lconst 45 (0#64) hM rfl rfl rfl ?_
  by_cases hc1 : w0 = (0#64)
  · rw [if_pos hc1] at h
    refine g_lc_eq_t 46 67 hM rfl rfl rfl rfl hc1 ?_
    refine g_iconst 68 hM rfl rfl ?_
    cases h
    exact g_ret hM rfl rfl
  · rw [if_neg hc1] at h
    refine g_lc_eq_f 46 49 67 hM rfl rfl rfl rfl rfl hc1 ?_
    refine g_lload_n 50 hM rfl rfl rfl ?_
    refine g_lconst 51 (0#64) hM rfl rfl rfl ?_
    by_cases hc2 : w2 = (0#64)
    · rw [if_pos hc2] at h
      refine g_lc_ne_f 52 55 67 hM rfl rfl rfl rfl rfl hc2 ?_
      refine g_lload_n 56 hM rfl rfl rfl ?_
      obtain ⟨r4, h3, h⟩ := zo_some h
      refine g_call 59 _ [.int (Int32.ofInt r4)] hM rfl rfl rfl rfl rfl (xM_19 _) rfl rfl rfl rfl (by omega) (w_19 (by omega) h3) rfl ?_
      refine g_iconst 60 hM rfl rfl ?_
      obtain ⟨hg5, h⟩ := zg_some h
      by_cases hc6 : r4 = 2
      · rw [if_pos hc6] at h
        refine g_ic_ne_f 63 67 hM rfl rfl rfl hg5 (zR_lit rfl) hc6 ?_
        refine g_iconst 64 hM rfl rfl ?_
        refine g_goto 68 hM rfl rfl ?_
        cases h
        exact g_ret hM rfl rfl
      · rw [if_neg hc6] at h
        refine g_ic_ne_t 67 hM rfl rfl hg5 (zR_lit rfl) hc6 ?_
        refine g_iconst 68 hM rfl rfl ?_
        cases h
        exact g_ret hM rfl rfl
    · rw [if_neg hc2] at h
      refine g_lc_ne_t 52 67 hM rfl rfl rfl rfl hc2 ?_
      refine g_iconst 68 hM rfl rfl ?_
      cases h
      exact g_ret hM rfl rfl
/-- RelationFinder.isName(J)Z -/
def f_34 (w0 : BitVec 64) (s : zS) : Option Int := zo (zlp (fun (q : BitVec 64 × Int) => b_34_5 w0 s q.1 q.2) zF (w0, 0)) (fun e1 => Sum.elim (fun e3 => j_34_43 w0 e3 s) (fun q4 => some q4) e1)
theorem w_34 {k : zK} {d : Nat} {x : am_H} {w0 : BitVec 64} {s : zS} {q : Int} (hd : 1 ≤ d) (h : f_34 w0 s = some q) : zgo k d 34 (0, [(0, .long (Int64.ofBitVec w0))], []) (hp s ++ x) (.inl (some (.int (Int32.ofInt q))), hp s ++ x) := by
  unfold f_34 at h
  have hM := xM_34 k.1
  refine g_lload_n 1 hM rfl rfl rfl ?_
  refine g_lstore_n 2 hM rfl rfl rfl ?_
  refine g_iconst 3 hM rfl rfl ?_
  refine g_istore 5 hM rfl rfl rfl ?_
  obtain ⟨e1, h2, h⟩ := zo_some h
  refine g_lv [(0, .long (Int64.ofBitVec w0)), (2, .long (Int64.ofBitVec w0)), (4, .int (Int32.ofInt 0))] rfl ⟨rfl, rfl, rfl, trivial⟩ ?_
  refine wl_34_5 (by omega) h2 ?_
  rcases e1 with e3 | q4
  · simp only [ze_l] at h
    show zgo k d 34 (43, [(0, .long (Int64.ofBitVec w0)), (2, .long (Int64.ofBitVec e3))], []) (hp s ++ x) (.inl (some (.int (Int32.ofInt q))), hp s ++ x)
    refine g_lv [(0, .long (Int64.ofBitVec w0)), (2, .long (Int64.ofBitVec e3))] rfl ⟨rfl, rfl, trivial⟩ ?_
    exact wj_34_43 (by omega) h
  · cases h
    rfl
/-- RelationFinder$World.add(JI)I -/
def f_54 (w1 : BitVec 64) (v3 : Int) (s : zS) : Option (Int × zS) := zg (0 ≤ (gI s 1 4) ∧ (gI s 1 4) < 8) (some (((gI (sI (sI (sJ s 3 (gI s 1 4) w1) 4 (gI s 1 4) v3) 1 4 ((gI s 1 4) + 1)) 1 4) - 1), (sI (sI (sJ s 3 (gI s 1 4) w1) 4 (gI s 1 4) v3) 1 4 ((gI s 1 4) + 1))))
theorem w_54 {k : zK} {d : Nat} {x : am_H} {w1 : BitVec 64} {v3 : Int} {s : zS} {q : (Int × zS)} (hd : 0 ≤ d) (h : f_54 w1 v3 s = some q) : zgo k d 54 (0, [(0, .ref 1), (1, .long (Int64.ofBitVec w1)), (3, .int (Int32.ofInt v3))], []) (hp s ++ x) (.inl (some (.int (Int32.ofInt q.1))), hp q.2 ++ x) := by
  unfold f_54 at h
  have hM := xM_54 k.1
  refine g_aload_n 1 hM rfl rfl rfl ?_
  refine g_getF 4 hM rfl rfl rfl rfl rfl ?_
  refine g_aload_n 5 hM rfl rfl rfl ?_
  refine g_getI 8 4 (gI s 1 4) hM rfl rfl rfl rfl rfl rfl rfl ?_
  refine g_lload_n 9 hM rfl rfl rfl ?_
  obtain ⟨hg1, h⟩ := zg_some h
  refine g_lastore 10 hM rfl rfl rfl rfl hg1 ?_
  refine g_aload_n 11 hM rfl rfl rfl ?_
  refine g_getF 14 hM rfl rfl rfl rfl rfl ?_
  refine g_aload_n 15 hM rfl rfl rfl ?_
  refine g_getI 18 4 (gI s 1 4) hM rfl rfl rfl rfl rfl rfl rfl ?_
  refine g_iload_n 19 hM rfl rfl rfl ?_
  refine g_iastore 20 hM rfl rfl rfl rfl hg1 ?_
  refine g_aload_n 21 hM rfl rfl rfl ?_
  refine g_dup 22 hM rfl rfl rfl ?_
  refine g_getI 25 4 (gI s 1 4) hM rfl rfl rfl rfl rfl rfl rfl ?_
  refine g_iconst 26 hM rfl rfl ?_
  refine g_iadd 27 hM rfl rfl ?_
  refine g_putI 30 4 hM rfl rfl rfl rfl rfl rfl rfl ?_
  refine g_aload_n 31 hM rfl rfl rfl ?_
  refine g_getI 34 4 (gI (sI (sI (sJ s 3 (gI s 1 4) w1) 4 (gI s 1 4) v3) 1 4 ((gI s 1 4) + 1)) 1 4) hM rfl rfl rfl rfl rfl rfl rfl ?_
  refine g_iconst 35 hM rfl rfl ?_
  refine g_isub 36 hM rfl rfl ?_
  cases h
  exact g_ret hM rfl rfl
/-- RelationFinder.relation(JI)I -/
def f_33 (w1 : BitVec 64) (v3 : Int) (s : zS) : Option ((Int ⊕ Nat) × zS) := zo (f_34 w1 s) (fun r2 => zg (zR r2) (if r2 = 0 then (some (Sum.inr 8, s)) else (zo (f_48 w1 s) (fun r6 => zg (zR r6) (if r6 = (-1) then (zg (zR v3) (if v3 < 1 then (some (Sum.inr 8, s)) else (if 3 < v3 then (some (Sum.inr 8, s)) else (if (gI s 1 4) < 8 then (zb (f_54 w1 v3 (sI s 0 12 (-1))) (fun r14 s15 => some ((Sum.inl r14), s15))) else (some (Sum.inr 9, s)))))) else (some (Sum.inr 8, s)))))))
theorem w_33 {k : zK} {d : Nat} {x : am_H} {w1 : BitVec 64} {v3 : Int} {s : zS} {q : ((Int ⊕ Nat) × zS)} (hd : 8 ≤ d) (hxl : x.length < 100000) (h : f_33 w1 v3 s = some q) : zgo k d 33 (0, [(0, .ref 0), (1, .long (Int64.ofBitVec w1)), (3, .int (Int32.ofInt v3))], []) (hp s ++ x) (zires q.1 x, hp q.2 ++ zext q.1 x) := by
  unfold f_33 at h
  have hM := xM_33 k.1
  refine g_lload_n 1 hM rfl rfl rfl ?_
  obtain ⟨r2, h1, h⟩ := zo_some h
  refine g_call 4 _ [.int (Int32.ofInt r2)] hM rfl rfl rfl rfl rfl (xM_34 _) rfl rfl rfl rfl (by omega) (w_34 (by omega) h1) rfl ?_
  obtain ⟨hg3, h⟩ := zg_some h
  by_cases hc4 : r2 = 0
  · rw [if_pos hc4] at h
    refine g_if_eq_t 29 hM rfl rfl hg3 hc4 ?_
    cases h
    exact g_throw hM rfl rfl rfl hxl (by omega) rfl
  · rw [if_neg hc4] at h
    refine g_if_eq_f 7 29 hM rfl rfl rfl hg3 hc4 ?_
    refine g_aload_n 8 hM rfl rfl rfl ?_
    refine g_getF 11 hM rfl rfl rfl rfl rfl ?_
    refine g_lload_n 12 hM rfl rfl rfl ?_
    obtain ⟨r6, h5, h⟩ := zo_some h
    refine g_call 15 _ [.int (Int32.ofInt r6)] hM rfl rfl rfl rfl rfl (xM_48 _) rfl (z_rcv2 rfl) rfl rfl (by omega) (w_48 (by omega) h5) rfl ?_
    refine g_iconst 16 hM rfl rfl ?_
    obtain ⟨hg7, h⟩ := zg_some h
    by_cases hc8 : r6 = (-1)
    · rw [if_pos hc8] at h
      refine g_ic_ne_f 19 29 hM rfl rfl rfl hg7 (zR_lit rfl) hc8 ?_
      refine g_iload_n 20 hM rfl rfl rfl ?_
      refine g_iconst 21 hM rfl rfl ?_
      obtain ⟨hg9, h⟩ := zg_some h
      by_cases hc10 : v3 < 1
      · rw [if_pos hc10] at h
        refine g_ic_lt_t 29 hM rfl rfl hg9 (zR_lit rfl) hc10 ?_
        cases h
        exact g_throw hM rfl rfl rfl hxl (by omega) rfl
      · rw [if_neg hc10] at h
        refine g_ic_lt_f 24 29 hM rfl rfl rfl hg9 (zR_lit rfl) hc10 ?_
        refine g_iload_n 25 hM rfl rfl rfl ?_
        refine g_iconst 26 hM rfl rfl ?_
        by_cases hc11 : 3 < v3
        · rw [if_pos hc11] at h
          refine g_ic_le_f 29 39 hM rfl rfl rfl hg9 (zR_lit rfl) hc11 ?_
          cases h
          exact g_throw hM rfl rfl rfl hxl (by omega) rfl
        · rw [if_neg hc11] at h
          refine g_ic_le_t 39 hM rfl rfl hg9 (zR_lit rfl) hc11 ?_
          refine g_aload_n 40 hM rfl rfl rfl ?_
          refine g_getF 43 hM rfl rfl rfl rfl rfl ?_
          refine g_getI 46 4 (gI s 1 4) hM rfl rfl rfl rfl rfl rfl rfl ?_
          refine g_bipush 48 hM rfl rfl rfl ?_
          by_cases hc12 : (gI s 1 4) < 8
          · rw [if_pos hc12] at h
            refine g_ic_lt_t 61 hM rfl rfl (zR_gI _ _ _) (zR_lit rfl) hc12 ?_
            refine g_aload_n 62 hM rfl rfl rfl ?_
            refine g_iconst 63 hM rfl rfl ?_
            refine g_putI 66 12 hM rfl rfl rfl rfl rfl rfl rfl ?_
            refine g_aload_n 67 hM rfl rfl rfl ?_
            refine g_getF 70 hM rfl rfl rfl rfl rfl ?_
            refine g_lload_n 71 hM rfl rfl rfl ?_
            refine g_iload_n 72 hM rfl rfl rfl ?_
            obtain ⟨r14, s15, h13, h⟩ := zb_some h
            refine g_call 75 _ [.int (Int32.ofInt r14)] hM rfl rfl rfl rfl rfl (xM_54 _) rfl (z_rcv2 rfl) rfl rfl (by omega) (w_54 (by omega) h13) rfl ?_
            cases h
            exact g_ret hM rfl rfl
          · rw [if_neg hc12] at h
            refine g_ic_lt_f 51 61 hM rfl rfl rfl (zR_gI _ _ _) (zR_lit rfl) hc12 ?_
            cases h
            exact g_throw hM rfl rfl rfl hxl (by omega) rfl
    · rw [if_neg hc8] at h
      refine g_ic_ne_t 29 hM rfl rfl hg7 (zR_lit rfl) hc8 ?_
      cases h
      exact g_throw hM rfl rfl rfl hxl (by omega) rfl
/-- RelationFinderLaw.relation(LRelationFinder;JI[J)I -/
def f_3 (w1 : BitVec 64) (v3 : Int) (s : zS) : Option (Int × zS) := zb (f_33 w1 v3 s) (fun r2 s3 => Sum.elim (fun v4 => zg (zR v4) (some (0, (sJ s3 205 0 (BitVec.ofInt 64 v4))))) (fun c5 => if c5 = 8 then (some (1, s3)) else (if c5 = 9 then (some (2, s3)) else (none))) r2)
theorem w_3 {k : zK} {d : Nat} {x : am_H} {w1 : BitVec 64} {v3 : Int} {s s' : zS} {r : Int} (hd : 9 ≤ d) (hxl : x.length < 100000) (h : f_3 w1 v3 s = some (r, s')) : ∃ x', zgrow x x' ∧ zgo k d 3 (0, [(0, .ref 0), (1, .long (Int64.ofBitVec w1)), (3, .int (Int32.ofInt v3)), (4, .ref 205)], []) (hp s ++ x) (.inl (some (.int (Int32.ofInt r))), hp s' ++ x') := by
  unfold f_3 at h
  have hM := xM_3 k.1
  obtain ⟨r2, s3, h1, h⟩ := zb_some h
  have hwh1 := w_33 (k := k) (d := d - 1) (by omega) hxl h1
  rcases r2 with v4 | c5
  · simp only [ze_l] at h
    refine ⟨x, Or.inl rfl, ?_⟩
    refine g_aload 2 hM rfl rfl rfl ?_
    refine g_iconst 3 hM rfl rfl ?_
    refine g_aload_n 4 hM rfl rfl rfl ?_
    refine g_lload_n 5 hM rfl rfl rfl ?_
    refine g_iload_n 6 hM rfl rfl rfl ?_
    refine g_call 9 _ [.int (Int32.ofInt v4), .int (Int32.ofInt 0), .ref 205] hM rfl rfl rfl rfl rfl (xM_33 _) rfl (z_rcv2 rfl) rfl rfl (by omega) hwh1 rfl ?_
    obtain ⟨hg6, h⟩ := zg_some h
    refine g_i2l 10 hM rfl rfl hg6 ?_
    refine g_lastore 11 hM rfl rfl rfl rfl ⟨by decide, by decide⟩ ?_
    refine g_goto 22 hM rfl rfl ?_
    refine g_iconst 23 hM rfl rfl ?_
    cases h
    exact g_ret hM rfl rfl
  · simp only [ze_r] at h
    refine ⟨x ++ [.inr (c5, am_six)], Or.inr ⟨_, rfl⟩, ?_⟩
    refine g_aload 2 hM rfl rfl rfl ?_
    refine g_iconst 3 hM rfl rfl ?_
    refine g_aload_n 4 hM rfl rfl rfl ?_
    refine g_lload_n 5 hM rfl rfl rfl ?_
    refine g_iload_n 6 hM rfl rfl rfl ?_
    by_cases hc7 : c5 = 8
    · rw [if_pos hc7] at h
      subst hc7
      refine g_callx (h := 14) _ hM rfl rfl rfl rfl rfl (xM_33 _) rfl (z_rcv2 rfl) rfl (by omega) hwh1 (z_atx hxl) rfl ?_
      refine g_astore 16 hM rfl rfl rfl ?_
      refine g_iconst 17 hM rfl rfl ?_
      cases h
      exact g_ret hM rfl rfl
    · rw [if_neg hc7] at h
      by_cases hc8 : c5 = 9
      · rw [if_pos hc8] at h
        subst hc8
        refine g_callx (h := 18) _ hM rfl rfl rfl rfl rfl (xM_33 _) rfl (z_rcv2 rfl) rfl (by omega) hwh1 (z_atx hxl) rfl ?_
        refine g_astore 20 hM rfl rfl rfl ?_
        refine g_iconst 21 hM rfl rfl ?_
        cases h
        exact g_ret hM rfl rfl
      · rw [if_neg hc8] at h
        cases h
/-- RelationFinder$World.hasTuple(II)Z -/
def f_55 (v1 : Int) (v2 : Int) (s : zS) : Option Int := zg (zR v1) (if v1 < 0 then (some 0) else (if v1 < (gI s 1 4) then (zg (zR v2) (if v2 < 0 then (some 0) else (zg (0 ≤ v1 ∧ v1 < 8) (zo (f_52 (gI s 4 v1) s) (fun r8 => zg (zR r8) (if v2 < r8 then (some 1) else (some 0))))))) else (some 0)))
theorem w_55 {k : zK} {d : Nat} {x : am_H} {v1 : Int} {v2 : Int} {s : zS} {q : Int} (hd : 1 ≤ d) (h : f_55 v1 v2 s = some q) : zgo k d 55 (0, [(0, .ref 1), (1, .int (Int32.ofInt v1)), (2, .int (Int32.ofInt v2))], []) (hp s ++ x) (.inl (some (.int (Int32.ofInt q))), hp s ++ x) := by
  unfold f_55 at h
  have hM := xM_55 k.1
  refine g_iload_n 1 hM rfl rfl rfl ?_
  obtain ⟨hg1, h⟩ := zg_some h
  by_cases hc2 : v1 < 0
  · rw [if_pos hc2] at h
    refine g_if_lt_t 34 hM rfl rfl hg1 hc2 ?_
    refine g_iconst 35 hM rfl rfl ?_
    cases h
    exact g_ret hM rfl rfl
  · rw [if_neg hc2] at h
    refine g_if_lt_f 4 34 hM rfl rfl rfl hg1 hc2 ?_
    refine g_iload_n 5 hM rfl rfl rfl ?_
    refine g_aload_n 6 hM rfl rfl rfl ?_
    refine g_getI 9 4 (gI s 1 4) hM rfl rfl rfl rfl rfl rfl rfl ?_
    by_cases hc3 : v1 < (gI s 1 4)
    · rw [if_pos hc3] at h
      refine g_ic_ge_f 12 34 hM rfl rfl rfl hg1 (zR_gI _ _ _) hc3 ?_
      refine g_iload_n 13 hM rfl rfl rfl ?_
      obtain ⟨hg4, h⟩ := zg_some h
      by_cases hc5 : v2 < 0
      · rw [if_pos hc5] at h
        refine g_if_lt_t 34 hM rfl rfl hg4 hc5 ?_
        refine g_iconst 35 hM rfl rfl ?_
        cases h
        exact g_ret hM rfl rfl
      · rw [if_neg hc5] at h
        refine g_if_lt_f 16 34 hM rfl rfl rfl hg4 hc5 ?_
        refine g_iload_n 17 hM rfl rfl rfl ?_
        refine g_aload_n 18 hM rfl rfl rfl ?_
        refine g_aload_n 19 hM rfl rfl rfl ?_
        refine g_getF 22 hM rfl rfl rfl rfl rfl ?_
        refine g_iload_n 23 hM rfl rfl rfl ?_
        obtain ⟨hg6, h⟩ := zg_some h
        refine g_iaload 24 (gI s 4 v1) hM rfl rfl rfl rfl hg6 rfl ?_
        obtain ⟨r8, h7, h⟩ := zo_some h
        refine g_call 27 _ [.int (Int32.ofInt r8), .int (Int32.ofInt v2)] hM rfl rfl rfl rfl rfl (xM_52 _) rfl (z_rcv2 rfl) rfl rfl (by omega) (w_52 (by omega) h7) rfl ?_
        obtain ⟨hg9, h⟩ := zg_some h
        by_cases hc10 : v2 < r8
        · rw [if_pos hc10] at h
          refine g_ic_ge_f 30 34 hM rfl rfl rfl hg4 hg9 hc10 ?_
          refine g_iconst 31 hM rfl rfl ?_
          refine g_goto 35 hM rfl rfl ?_
          cases h
          exact g_ret hM rfl rfl
        · rw [if_neg hc10] at h
          refine g_ic_ge_t 34 hM rfl rfl hg4 hg9 hc10 ?_
          refine g_iconst 35 hM rfl rfl ?_
          cases h
          exact g_ret hM rfl rfl
    · rw [if_neg hc3] at h
      refine g_ic_ge_t 34 hM rfl rfl hg1 (zR_gI _ _ _) hc3 ?_
      refine g_iconst 35 hM rfl rfl ?_
      cases h
      exact g_ret hM rfl rfl
def G_57_4 (k : zK) (d : Nat) (x : am_H) (r : am_A × am_H) (v1 : Int) (e : (Int × Int × zS)) : Prop := zgo k d 57 (4, [(0, .ref 1), (1, .int (Int32.ofInt v1)), (2, .int (Int32.ofInt e.1)), (3, .int (Int32.ofInt e.2.1))], []) (hp e.2.2 ++ x) r
def K_57_4 (k : zK) (d : Nat) (x : am_H) (r : am_A × am_H) (v1 : Int) (t : (Int × zS)) : Prop := zgo k d 57 (43, [(0, .ref 1), (2, .int (Int32.ofInt t.1))], []) (hp t.2 ++ x) r
def b_57_4 (v1 : Int) (v2 : Int) (v3 : Int) (s : zS) : Option ((Int × Int × zS) ⊕ (Int × zS)) := zg (zR v3) (if v3 < (gI s 1 8) then (zg (0 ≤ v3 ∧ v3 < 12) (zg (zR v1) (if (gI s 7 v3) = v1 then (some (.inl (v2, (v3 + 1), s))) else (zg (0 ≤ v2 ∧ v2 < 12) (some (.inl ((v2 + 1), (v3 + 1), (sI s 7 v2 (gI s 7 v3))))))))) else (some (.inr (v2, s))))
theorem wb_57_4 {k : zK} {d : Nat} {x : am_H} {r : am_A × am_H} {v1 : Int} {v2 : Int} {v3 : Int} {s : zS} {q : (Int × Int × zS) ⊕ (Int × zS)} (hd : 0 ≤ d) (h : b_57_4 v1 v2 v3 s = some q) (hK : Sum.elim (G_57_4 k d x r v1) (K_57_4 k d x r v1) q) : G_57_4 k d x r v1 (v2, v3, s) := by
  unfold b_57_4 at h
  have hM := xM_57 k.1
  show zgo k d 57 (4, [(0, .ref 1), (1, .int (Int32.ofInt v1)), (2, .int (Int32.ofInt v2)), (3, .int (Int32.ofInt v3))], []) (hp s ++ x) r
  refine g_iload_n 5 hM rfl rfl rfl ?_
  refine g_aload_n 6 hM rfl rfl rfl ?_
  refine g_getI 9 8 (gI s 1 8) hM rfl rfl rfl rfl rfl rfl rfl ?_
  obtain ⟨hg1, h⟩ := zg_some h
  by_cases hc2 : v3 < (gI s 1 8)
  · rw [if_pos hc2] at h
    refine g_ic_ge_f 12 43 hM rfl rfl rfl hg1 (zR_gI _ _ _) hc2 ?_
    refine g_aload_n 13 hM rfl rfl rfl ?_
    refine g_getF 16 hM rfl rfl rfl rfl rfl ?_
    refine g_iload_n 17 hM rfl rfl rfl ?_
    obtain ⟨hg3, h⟩ := zg_some h
    refine g_iaload 18 (gI s 7 v3) hM rfl rfl rfl rfl hg3 rfl ?_
    refine g_iload_n 19 hM rfl rfl rfl ?_
    obtain ⟨hg4, h⟩ := zg_some h
    by_cases hc5 : (gI s 7 v3) = v1
    · rw [if_pos hc5] at h
      refine g_ic_eq_t 37 hM rfl rfl (zR_gI _ _ _) hg4 hc5 ?_
      refine g_iinc 40 hM rfl rfl rfl rfl ?_
      refine g_goto 4 hM rfl rfl ?_
      cases h
      exact g_lv [(0, .ref 1), (1, .int (Int32.ofInt v1)), (2, .int (Int32.ofInt v2)), (3, .int (Int32.ofInt (v3 + 1)))] rfl ⟨rfl, rfl, rfl, rfl, trivial⟩ hK
    · rw [if_neg hc5] at h
      refine g_ic_eq_f 22 37 hM rfl rfl rfl (zR_gI _ _ _) hg4 hc5 ?_
      refine g_aload_n 23 hM rfl rfl rfl ?_
      refine g_getF 26 hM rfl rfl rfl rfl rfl ?_
      refine g_iload_n 27 hM rfl rfl rfl ?_
      refine g_aload_n 28 hM rfl rfl rfl ?_
      refine g_getF 31 hM rfl rfl rfl rfl rfl ?_
      refine g_iload_n 32 hM rfl rfl rfl ?_
      refine g_iaload 33 (gI s 7 v3) hM rfl rfl rfl rfl hg3 rfl ?_
      obtain ⟨hg6, h⟩ := zg_some h
      refine g_iastore 34 hM rfl rfl rfl rfl hg6 ?_
      refine g_iinc 37 hM rfl rfl rfl rfl ?_
      refine g_iinc 40 hM rfl rfl rfl rfl ?_
      refine g_goto 4 hM rfl rfl ?_
      cases h
      exact g_lv [(0, .ref 1), (1, .int (Int32.ofInt v1)), (2, .int (Int32.ofInt (v2 + 1))), (3, .int (Int32.ofInt (v3 + 1)))] rfl ⟨rfl, rfl, rfl, rfl, trivial⟩ hK
  · rw [if_neg hc2] at h
    refine g_ic_ge_t 43 hM rfl rfl hg1 (zR_gI _ _ _) hc2 ?_
    cases h
    exact g_lv [(0, .ref 1), (2, .int (Int32.ofInt v2))] rfl ⟨rfl, rfl, trivial⟩ hK
theorem wl_57_4 {k : zK} {d : Nat} {x : am_H} {r : am_A × am_H} {v1 : Int} {n : Nat} {e : (Int × Int × zS)} {t : (Int × zS)} (hd : 0 ≤ d) (h : zlp (fun (q : Int × Int × zS) => b_57_4 v1 q.1 q.2.1 q.2.2) n e = some t) (hK : K_57_4 k d x r v1 t) : G_57_4 k d x r v1 e := zlp_go (G := fun e => G_57_4 k d x r v1 e) (K := K_57_4 k d x r v1) (fun e e1 h1 hg => wb_57_4 (q := .inl e1) hd h1 hg) (fun e t1 h1 hk => wb_57_4 (q := .inr t1) hd h1 hk) n e t h hK
/-- RelationFinder$World.dropFree(I)V -/
def f_57 (v1 : Int) (s : zS) : Option (Unit × zS) := zo (zlp (fun (q : Int × Int × zS) => b_57_4 v1 q.1 q.2.1 q.2.2) zF (0, 0, s)) (fun e1 => some ((), (sI e1.2 1 8 e1.1)))
theorem w_57 {k : zK} {d : Nat} {x : am_H} {v1 : Int} {s : zS} {q : (Unit × zS)} (hd : 0 ≤ d) (h : f_57 v1 s = some q) : zgo k d 57 (0, [(0, .ref 1), (1, .int (Int32.ofInt v1))], []) (hp s ++ x) (.inl (none), hp q.2 ++ x) := by
  unfold f_57 at h
  have hM := xM_57 k.1
  refine g_iconst 1 hM rfl rfl ?_
  refine g_istore_n 2 hM rfl rfl rfl ?_
  refine g_iconst 3 hM rfl rfl ?_
  refine g_istore_n 4 hM rfl rfl rfl ?_
  obtain ⟨e1, h2, h⟩ := zo_some h
  refine g_lv [(0, .ref 1), (1, .int (Int32.ofInt v1)), (2, .int (Int32.ofInt 0)), (3, .int (Int32.ofInt 0))] rfl ⟨rfl, rfl, rfl, rfl, trivial⟩ ?_
  refine wl_57_4 (by omega) h2 ?_
  show zgo k d 57 (43, [(0, .ref 1), (2, .int (Int32.ofInt e1.1))], []) (hp e1.2 ++ x) (.inl (none), hp q.2 ++ x)
  refine g_aload_n 44 hM rfl rfl rfl ?_
  refine g_iload_n 45 hM rfl rfl rfl ?_
  refine g_putI 48 8 hM rfl rfl rfl rfl rfl rfl rfl ?_
  cases h
  exact g_ret hM rfl rfl
def G_58_5 (k : zK) (d : Nat) (x : am_H) (r : am_A × am_H) (v1 : Int) (e : (Int × zS)) : Prop := zgo k d 58 (5, [(0, .ref 1), (1, .int (Int32.ofInt v1)), (2, .int (Int32.ofInt e.1))], []) (hp e.2 ++ x) r
def K_58_5 (k : zK) (d : Nat) (x : am_H) (r : am_A × am_H) (v1 : Int) (t : (Int × zS)) : Prop := zgo k d 58 (41, [(0, .ref 1), (1, .int (Int32.ofInt v1)), (2, .int (Int32.ofInt t.1))], []) (hp t.2 ++ x) r
def b_58_5 (v1 : Int) (v2 : Int) (s : zS) : Option ((Int × zS) ⊕ (Int × zS)) := zg (zR v2) (if 0 < v2 then (zg (0 ≤ (v2 - 1) ∧ (v2 - 1) < 12) (zg (zR v1) (if v1 < (gI s 7 (v2 - 1)) then (zg (0 ≤ v2 ∧ v2 < 12) (some (.inl ((v2 + (-1)), (sI s 7 v2 (gI s 7 (v2 - 1))))))) else (some (.inr (v2, s)))))) else (some (.inr (v2, s))))
theorem wb_58_5 {k : zK} {d : Nat} {x : am_H} {r : am_A × am_H} {v1 : Int} {v2 : Int} {s : zS} {q : (Int × zS) ⊕ (Int × zS)} (hd : 0 ≤ d) (h : b_58_5 v1 v2 s = some q) (hK : Sum.elim (G_58_5 k d x r v1) (K_58_5 k d x r v1) q) : G_58_5 k d x r v1 (v2, s) := by
  unfold b_58_5 at h
  have hM := xM_58 k.1
  show zgo k d 58 (5, [(0, .ref 1), (1, .int (Int32.ofInt v1)), (2, .int (Int32.ofInt v2))], []) (hp s ++ x) r
  refine g_iload_n 6 hM rfl rfl rfl ?_
  obtain ⟨hg1, h⟩ := zg_some h
  by_cases hc2 : 0 < v2
  · rw [if_pos hc2] at h
    refine g_if_le_f 9 41 hM rfl rfl rfl hg1 hc2 ?_
    refine g_aload_n 10 hM rfl rfl rfl ?_
    refine g_getF 13 hM rfl rfl rfl rfl rfl ?_
    refine g_iload_n 14 hM rfl rfl rfl ?_
    refine g_iconst 15 hM rfl rfl ?_
    refine g_isub 16 hM rfl rfl ?_
    obtain ⟨hg3, h⟩ := zg_some h
    refine g_iaload 17 (gI s 7 (v2 - 1)) hM rfl rfl rfl rfl hg3 rfl ?_
    refine g_iload_n 18 hM rfl rfl rfl ?_
    obtain ⟨hg4, h⟩ := zg_some h
    by_cases hc5 : v1 < (gI s 7 (v2 - 1))
    · rw [if_pos hc5] at h
      refine g_ic_le_f 21 41 hM rfl rfl rfl (zR_gI _ _ _) hg4 hc5 ?_
      refine g_aload_n 22 hM rfl rfl rfl ?_
      refine g_getF 25 hM rfl rfl rfl rfl rfl ?_
      refine g_iload_n 26 hM rfl rfl rfl ?_
      refine g_aload_n 27 hM rfl rfl rfl ?_
      refine g_getF 30 hM rfl rfl rfl rfl rfl ?_
      refine g_iload_n 31 hM rfl rfl rfl ?_
      refine g_iconst 32 hM rfl rfl ?_
      refine g_isub 33 hM rfl rfl ?_
      refine g_iaload 34 (gI s 7 (v2 - 1)) hM rfl rfl rfl rfl hg3 rfl ?_
      obtain ⟨hg6, h⟩ := zg_some h
      refine g_iastore 35 hM rfl rfl rfl rfl hg6 ?_
      refine g_iinc 38 hM rfl rfl rfl rfl ?_
      refine g_goto 5 hM rfl rfl ?_
      cases h
      exact g_lv [(0, .ref 1), (1, .int (Int32.ofInt v1)), (2, .int (Int32.ofInt (v2 + (-1))))] rfl ⟨rfl, rfl, rfl, trivial⟩ hK
    · rw [if_neg hc5] at h
      refine g_ic_le_t 41 hM rfl rfl (zR_gI _ _ _) hg4 hc5 ?_
      cases h
      exact g_lv [(0, .ref 1), (1, .int (Int32.ofInt v1)), (2, .int (Int32.ofInt v2))] rfl ⟨rfl, rfl, rfl, trivial⟩ hK
  · rw [if_neg hc2] at h
    refine g_if_le_t 41 hM rfl rfl hg1 hc2 ?_
    cases h
    exact g_lv [(0, .ref 1), (1, .int (Int32.ofInt v1)), (2, .int (Int32.ofInt v2))] rfl ⟨rfl, rfl, rfl, trivial⟩ hK
theorem wl_58_5 {k : zK} {d : Nat} {x : am_H} {r : am_A × am_H} {v1 : Int} {n : Nat} {e : (Int × zS)} {t : (Int × zS)} (hd : 0 ≤ d) (h : zlp (fun (q : Int × zS) => b_58_5 v1 q.1 q.2) n e = some t) (hK : K_58_5 k d x r v1 t) : G_58_5 k d x r v1 e := zlp_go (G := fun e => G_58_5 k d x r v1 e) (K := K_58_5 k d x r v1) (fun e e1 h1 hg => wb_58_5 (q := .inl e1) hd h1 hg) (fun e t1 h1 hk => wb_58_5 (q := .inr t1) hd h1 hk) n e t h hK
/-- RelationFinder$World.addFree(I)V -/
def f_58 (v1 : Int) (s : zS) : Option (Unit × zS) := zo (zlp (fun (q : Int × zS) => b_58_5 v1 q.1 q.2) zF ((gI s 1 8), s)) (fun e1 => zg (0 ≤ e1.1 ∧ e1.1 < 12) (some ((), (sI (sI e1.2 7 e1.1 v1) 1 8 ((gI e1.2 1 8) + 1)))))
theorem w_58 {k : zK} {d : Nat} {x : am_H} {v1 : Int} {s : zS} {q : (Unit × zS)} (hd : 0 ≤ d) (h : f_58 v1 s = some q) : zgo k d 58 (0, [(0, .ref 1), (1, .int (Int32.ofInt v1))], []) (hp s ++ x) (.inl (none), hp q.2 ++ x) := by
  unfold f_58 at h
  have hM := xM_58 k.1
  refine g_aload_n 1 hM rfl rfl rfl ?_
  refine g_getI 4 8 (gI s 1 8) hM rfl rfl rfl rfl rfl rfl rfl ?_
  refine g_istore_n 5 hM rfl rfl rfl ?_
  obtain ⟨e1, h2, h⟩ := zo_some h
  refine g_lv [(0, .ref 1), (1, .int (Int32.ofInt v1)), (2, .int (Int32.ofInt (gI s 1 8)))] rfl ⟨rfl, rfl, rfl, trivial⟩ ?_
  refine wl_58_5 (by omega) h2 ?_
  show zgo k d 58 (41, [(0, .ref 1), (1, .int (Int32.ofInt v1)), (2, .int (Int32.ofInt e1.1))], []) (hp e1.2 ++ x) (.inl (none), hp q.2 ++ x)
  refine g_aload_n 42 hM rfl rfl rfl ?_
  refine g_getF 45 hM rfl rfl rfl rfl rfl ?_
  refine g_iload_n 46 hM rfl rfl rfl ?_
  refine g_iload_n 47 hM rfl rfl rfl ?_
  obtain ⟨hg3, h⟩ := zg_some h
  refine g_iastore 48 hM rfl rfl rfl rfl hg3 ?_
  refine g_aload_n 49 hM rfl rfl rfl ?_
  refine g_dup 50 hM rfl rfl rfl ?_
  refine g_getI 53 8 (gI e1.2 1 8) hM rfl rfl rfl rfl rfl rfl rfl ?_
  refine g_iconst 54 hM rfl rfl ?_
  refine g_iadd 55 hM rfl rfl ?_
  refine g_putI 58 8 hM rfl rfl rfl rfl rfl rfl rfl ?_
  cases h
  exact g_ret hM rfl rfl
def j_56_25 (v1 : Int) (v2 : Int) (s : zS) : Option (Unit × zS) := zg (0 ≤ v1 ∧ v1 < 1000) (zg (zR v2) (if v2 = 2 then (some ((), (sJ (sI s 5 v1 v2) 6 v1 (18446744073709551615#64)))) else (some ((), (sJ (sI s 5 v1 v2) 6 v1 (0#64))))))
theorem wj_56_25 {k : zK} {d : Nat} {x : am_H} {v1 : Int} {v2 : Int} {s : zS} {q : (Unit × zS)} (hd : 1 ≤ d) (h : j_56_25 v1 v2 s = some q) : zgo k d 56 (25, [(0, .ref 1), (1, .int (Int32.ofInt v1)), (2, .int (Int32.ofInt v2))], []) (hp s ++ x) (.inl (none), hp q.2 ++ x) := by
  unfold j_56_25 at h
  have hM := xM_56 k.1
  refine g_aload_n 26 hM rfl rfl rfl ?_
  refine g_getF 29 hM rfl rfl rfl rfl rfl ?_
  refine g_iload_n 30 hM rfl rfl rfl ?_
  refine g_iload_n 31 hM rfl rfl rfl ?_
  obtain ⟨hg1, h⟩ := zg_some h
  refine g_iastore 32 hM rfl rfl rfl rfl hg1 ?_
  refine g_aload_n 33 hM rfl rfl rfl ?_
  refine g_getF 36 hM rfl rfl rfl rfl rfl ?_
  refine g_iload_n 37 hM rfl rfl rfl ?_
  refine g_iload_n 38 hM rfl rfl rfl ?_
  refine g_iconst 39 hM rfl rfl ?_
  obtain ⟨hg2, h⟩ := zg_some h
  by_cases hc3 : v2 = 2
  · rw [if_pos hc3] at h
    refine g_ic_ne_f 42 48 hM rfl rfl rfl hg2 (zR_lit rfl) hc3 ?_
    refine g_ldc2 45 (18446744073709551615#64) hM rfl rfl rfl (by decide) ?_
    refine g_goto 49 hM rfl rfl ?_
    refine g_lastore 50 hM rfl rfl rfl rfl hg1 ?_
    cases h
    exact g_ret hM rfl rfl
  · rw [if_neg hc3] at h
    refine g_ic_ne_t 48 hM rfl rfl hg2 (zR_lit rfl) hc3 ?_
    refine g_lconst 49 (0#64) hM rfl rfl rfl ?_
    refine g_lastore 50 hM rfl rfl rfl rfl hg1 ?_
    cases h
    exact g_ret hM rfl rfl
def j_56_15 (v1 : Int) (v2 : Int) (s : zS) : Option (Unit × zS) := zg (zR v2) (if v2 = 1 then (zb (f_58 v1 s) (fun r4 s5 => j_56_25 v1 v2 s5)) else (j_56_25 v1 v2 s))
theorem wj_56_15 {k : zK} {d : Nat} {x : am_H} {v1 : Int} {v2 : Int} {s : zS} {q : (Unit × zS)} (hd : 1 ≤ d) (h : j_56_15 v1 v2 s = some q) : zgo k d 56 (15, [(0, .ref 1), (1, .int (Int32.ofInt v1)), (2, .int (Int32.ofInt v2))], []) (hp s ++ x) (.inl (none), hp q.2 ++ x) := by
  unfold j_56_15 at h
  have hM := xM_56 k.1
  refine g_iload_n 16 hM rfl rfl rfl ?_
  refine g_iconst 17 hM rfl rfl ?_
  obtain ⟨hg1, h⟩ := zg_some h
  by_cases hc2 : v2 = 1
  · rw [if_pos hc2] at h
    refine g_ic_ne_f 20 25 hM rfl rfl rfl hg1 (zR_lit rfl) hc2 ?_
    refine g_aload_n 21 hM rfl rfl rfl ?_
    refine g_iload_n 22 hM rfl rfl rfl ?_
    obtain ⟨r4, s5, h3, h⟩ := zb_some h
    refine g_call 25 _ [] hM rfl rfl rfl rfl rfl (xM_58 _) rfl (z_rcv2 rfl) rfl rfl (by omega) (w_58 (by omega) h3) rfl ?_
    refine g_lv [(0, .ref 1), (1, .int (Int32.ofInt v1)), (2, .int (Int32.ofInt v2))] rfl ⟨rfl, rfl, rfl, trivial⟩ ?_
    exact wj_56_25 (by omega) h
  · rw [if_neg hc2] at h
    refine g_ic_ne_t 25 hM rfl rfl hg1 (zR_lit rfl) hc2 ?_
    refine g_lv [(0, .ref 1), (1, .int (Int32.ofInt v1)), (2, .int (Int32.ofInt v2))] rfl ⟨rfl, rfl, rfl, trivial⟩ ?_
    exact wj_56_25 (by omega) h
/-- RelationFinder$World.change(II)V -/
def f_56 (v1 : Int) (v2 : Int) (s : zS) : Option (Unit × zS) := zg (0 ≤ v1 ∧ v1 < 1000) (if (gI s 5 v1) = 1 then (zb (f_57 v1 s) (fun r4 s5 => j_56_15 v1 v2 s5)) else (j_56_15 v1 v2 s))
theorem w_56 {k : zK} {d : Nat} {x : am_H} {v1 : Int} {v2 : Int} {s : zS} {q : (Unit × zS)} (hd : 1 ≤ d) (h : f_56 v1 v2 s = some q) : zgo k d 56 (0, [(0, .ref 1), (1, .int (Int32.ofInt v1)), (2, .int (Int32.ofInt v2))], []) (hp s ++ x) (.inl (none), hp q.2 ++ x) := by
  unfold f_56 at h
  have hM := xM_56 k.1
  refine g_aload_n 1 hM rfl rfl rfl ?_
  refine g_getF 4 hM rfl rfl rfl rfl rfl ?_
  refine g_iload_n 5 hM rfl rfl rfl ?_
  obtain ⟨hg1, h⟩ := zg_some h
  refine g_iaload 6 (gI s 5 v1) hM rfl rfl rfl rfl hg1 rfl ?_
  refine g_iconst 7 hM rfl rfl ?_
  by_cases hc2 : (gI s 5 v1) = 1
  · rw [if_pos hc2] at h
    refine g_ic_ne_f 10 15 hM rfl rfl rfl (zR_gI _ _ _) (zR_lit rfl) hc2 ?_
    refine g_aload_n 11 hM rfl rfl rfl ?_
    refine g_iload_n 12 hM rfl rfl rfl ?_
    obtain ⟨r4, s5, h3, h⟩ := zb_some h
    refine g_call 15 _ [] hM rfl rfl rfl rfl rfl (xM_57 _) rfl (z_rcv2 rfl) rfl rfl (by omega) (w_57 (by omega) h3) rfl ?_
    refine g_lv [(0, .ref 1), (1, .int (Int32.ofInt v1)), (2, .int (Int32.ofInt v2))] rfl ⟨rfl, rfl, rfl, trivial⟩ ?_
    exact wj_56_15 (by omega) h
  · rw [if_neg hc2] at h
    refine g_ic_ne_t 15 hM rfl rfl (zR_gI _ _ _) (zR_lit rfl) hc2 ?_
    refine g_lv [(0, .ref 1), (1, .int (Int32.ofInt v1)), (2, .int (Int32.ofInt v2))] rfl ⟨rfl, rfl, rfl, trivial⟩ ?_
    exact wj_56_15 (by omega) h
def G_270_174_6 (k : zK) (d : Nat) (x : am_H) (r : am_A × am_H) (w1 : BitVec 64) (v4 : Int) (e : (Int × zS)) : Prop := zgo k d 270 (6, [(0, .ref 174), (1, .long (Int64.ofBitVec w1)), (3, .int (Int32.ofInt e.1)), (4, .int (Int32.ofInt v4))], []) (hp e.2 ++ x) r
def K_270_174_6 (k : zK) (d : Nat) (x : am_H) (r : am_A × am_H) (w1 : BitVec 64) (v4 : Int) (t : (zS)) : Prop := zgo k d 270 (22, [], []) (hp t ++ x) r
def b_270_174_6 (w1 : BitVec 64) (v4 : Int) (v3 : Int) (s : zS) : Option ((Int × zS) ⊕ (zS)) := zg (zR v3) (zg (zR v4) (if v3 < v4 then (zg (0 ≤ v3 ∧ v3 < 17) (some (.inl ((v3 + 1), (sJ s 174 v3 w1))))) else (some (.inr s))))
theorem wb_270_174_6 {k : zK} {d : Nat} {x : am_H} {r : am_A × am_H} {w1 : BitVec 64} {v4 : Int} {v3 : Int} {s : zS} {q : (Int × zS) ⊕ (zS)} (hd : 0 ≤ d) (h : b_270_174_6 w1 v4 v3 s = some q) (hK : Sum.elim (G_270_174_6 k d x r w1 v4) (K_270_174_6 k d x r w1 v4) q) : G_270_174_6 k d x r w1 v4 (v3, s) := by
  unfold b_270_174_6 at h
  have hM := xM_270 k.1
  show zgo k d 270 (6, [(0, .ref 174), (1, .long (Int64.ofBitVec w1)), (3, .int (Int32.ofInt v3)), (4, .int (Int32.ofInt v4))], []) (hp s ++ x) r
  refine g_iload_n 7 hM rfl rfl rfl ?_
  refine g_iload 9 hM rfl rfl rfl ?_
  obtain ⟨hg1, h⟩ := zg_some h
  obtain ⟨hg2, h⟩ := zg_some h
  by_cases hc3 : v3 < v4
  · rw [if_pos hc3] at h
    refine g_ic_ge_f 12 22 hM rfl rfl rfl hg1 hg2 hc3 ?_
    refine g_aload_n 13 hM rfl rfl rfl ?_
    refine g_iload_n 14 hM rfl rfl rfl ?_
    refine g_lload_n 15 hM rfl rfl rfl ?_
    obtain ⟨hg4, h⟩ := zg_some h
    refine g_lastore 16 hM rfl rfl rfl rfl hg4 ?_
    refine g_iinc 19 hM rfl rfl rfl rfl ?_
    refine g_goto 6 hM rfl rfl ?_
    cases h
    exact g_lv [(0, .ref 174), (1, .long (Int64.ofBitVec w1)), (3, .int (Int32.ofInt (v3 + 1))), (4, .int (Int32.ofInt v4))] rfl ⟨rfl, rfl, rfl, rfl, trivial⟩ hK
  · rw [if_neg hc3] at h
    refine g_ic_ge_t 22 hM rfl rfl hg1 hg2 hc3 ?_
    cases h
    exact g_lv [] rfl trivial hK
theorem wl_270_174_6 {k : zK} {d : Nat} {x : am_H} {r : am_A × am_H} {w1 : BitVec 64} {v4 : Int} {n : Nat} {e : (Int × zS)} {t : (zS)} (hd : 0 ≤ d) (h : zlp (fun (q : Int × zS) => b_270_174_6 w1 v4 q.1 q.2) n e = some t) (hK : K_270_174_6 k d x r w1 v4 t) : G_270_174_6 k d x r w1 v4 e := zlp_go (G := fun e => G_270_174_6 k d x r w1 v4 e) (K := K_270_174_6 k d x r w1 v4) (fun e e1 h1 hg => wb_270_174_6 (q := .inl e1) hd h1 hg) (fun e t1 h1 hk => wb_270_174_6 (q := .inr t1) hd h1 hk) n e t h hK
/-- java/util/Arrays.fill([JJ)V -/
def f_270_174 (w1 : BitVec 64) (s : zS) : Option (Unit × zS) := zo (zlp (fun (q : Int × zS) => b_270_174_6 w1 17 q.1 q.2) zF (0, s)) (fun e1 => some ((), e1))
theorem w_270_174 {k : zK} {d : Nat} {x : am_H} {w1 : BitVec 64} {s : zS} {q : (Unit × zS)} (hd : 0 ≤ d) (h : f_270_174 w1 s = some q) : zgo k d 270 (0, [(0, .ref 174), (1, .long (Int64.ofBitVec w1))], []) (hp s ++ x) (.inl (none), hp q.2 ++ x) := by
  unfold f_270_174 at h
  have hM := xM_270 k.1
  refine g_iconst 1 hM rfl rfl ?_
  refine g_istore_n 2 hM rfl rfl rfl ?_
  refine g_aload_n 3 hM rfl rfl rfl ?_
  refine g_alen 4 17 hM rfl rfl rfl rfl rfl ?_
  refine g_istore 6 hM rfl rfl rfl ?_
  obtain ⟨e1, h2, h⟩ := zo_some h
  refine g_lv [(0, .ref 174), (1, .long (Int64.ofBitVec w1)), (3, .int (Int32.ofInt 0)), (4, .int (Int32.ofInt 17))] rfl ⟨rfl, rfl, rfl, rfl, trivial⟩ ?_
  refine wl_270_174_6 (by omega) h2 ?_
  show zgo k d 270 (22, [], []) (hp e1 ++ x) (.inl (none), hp q.2 ++ x)
  cases h
  exact g_ret hM rfl rfl
def j_35_94 (v3 : Int) (v4 : Int) (v5 : Int) (s : zS) : Option ((Int ⊕ Nat) × zS) := zg (zR v5) (zg (zR v3) (if v5 = v3 then (some ((Sum.inl v5), (sI s 0 12 (-1)))) else (zb (f_56 v4 v3 (sI s 0 12 (-1))) (fun r5 s6 => zb (f_270_174 (0#64) s6) (fun r8 s9 => some ((Sum.inl v5), (sI s9 25 1 0)))))))
theorem wj_35_94 {k : zK} {d : Nat} {x : am_H} {v3 : Int} {v4 : Int} {v5 : Int} {s : zS} {q : ((Int ⊕ Nat) × zS)} (hd : 8 ≤ d) (hxl : x.length < 100000) (h : j_35_94 v3 v4 v5 s = some q) : zgo k d 35 (94, [(0, .ref 0), (3, .int (Int32.ofInt v3)), (4, .int (Int32.ofInt v4)), (5, .int (Int32.ofInt v5))], []) (hp s ++ x) (zires q.1 x, hp q.2 ++ zext q.1 x) := by
  unfold j_35_94 at h
  have hM := xM_35 k.1
  refine g_aload_n 95 hM rfl rfl rfl ?_
  refine g_iconst 96 hM rfl rfl ?_
  refine g_putI 99 12 hM rfl rfl rfl rfl rfl rfl rfl ?_
  refine g_iload 101 hM rfl rfl rfl ?_
  refine g_iload_n 102 hM rfl rfl rfl ?_
  obtain ⟨hg1, h⟩ := zg_some h
  obtain ⟨hg2, h⟩ := zg_some h
  by_cases hc3 : v5 = v3
  · rw [if_pos hc3] at h
    refine g_ic_eq_t 131 hM rfl rfl hg1 hg2 hc3 ?_
    refine g_iload 133 hM rfl rfl rfl ?_
    cases h
    exact g_ret hM rfl rfl
  · rw [if_neg hc3] at h
    refine g_ic_eq_f 105 131 hM rfl rfl rfl hg1 hg2 hc3 ?_
    refine g_aload_n 106 hM rfl rfl rfl ?_
    refine g_getF 109 hM rfl rfl rfl rfl rfl ?_
    refine g_iload 111 hM rfl rfl rfl ?_
    refine g_iload_n 112 hM rfl rfl rfl ?_
    obtain ⟨r5, s6, h4, h⟩ := zb_some h
    refine g_call 115 _ [] hM rfl rfl rfl rfl rfl (xM_56 _) rfl (z_rcv2 rfl) rfl rfl (by omega) (w_56 (by omega) h4) rfl ?_
    refine g_aload_n 116 hM rfl rfl rfl ?_
    refine g_getF 119 hM rfl rfl rfl rfl rfl ?_
    refine g_lconst 120 (0#64) hM rfl rfl rfl ?_
    obtain ⟨r8, s9, h7, h⟩ := zb_some h
    refine g_call 123 _ [] hM rfl rfl rfl rfl rfl (xM_270 _) rfl rfl rfl rfl (by omega) (w_270_174 (by omega) h7) rfl ?_
    refine g_aload_n 124 hM rfl rfl rfl ?_
    refine g_getF 127 hM rfl rfl rfl rfl rfl ?_
    refine g_iconst 128 hM rfl rfl ?_
    refine g_putI 131 1 hM rfl rfl rfl rfl rfl rfl rfl ?_
    refine g_iload 133 hM rfl rfl rfl ?_
    cases h
    exact g_ret hM rfl rfl
/-- RelationFinder.bound(III)I -/
def f_35 (v1 : Int) (v2 : Int) (v3 : Int) (s : zS) : Option ((Int ⊕ Nat) × zS) := zo (f_55 v1 v2 s) (fun r2 => zg (zR r2) (if r2 = 0 then (some (Sum.inr 10, s)) else (zg (zR v3) (if v3 < 0 then (some (Sum.inr 8, s)) else (if 2 < v3 then (some (Sum.inr 8, s)) else (zg (0 ≤ ((v1 * 125) + v2) ∧ ((v1 * 125) + v2) < 1000) (if v3 = 1 then (if (gI s 5 ((v1 * 125) + v2)) = 1 then (j_35_94 v3 ((v1 * 125) + v2) (gI s 5 ((v1 * 125) + v2)) s) else (if (gI s 1 8) < 12 then (j_35_94 v3 ((v1 * 125) + v2) (gI s 5 ((v1 * 125) + v2)) s) else (some (Sum.inr 9, s)))) else (j_35_94 v3 ((v1 * 125) + v2) (gI s 5 ((v1 * 125) + v2)) s))))))))
theorem w_35 {k : zK} {d : Nat} {x : am_H} {v1 : Int} {v2 : Int} {v3 : Int} {s : zS} {q : ((Int ⊕ Nat) × zS)} (hd : 8 ≤ d) (hxl : x.length < 100000) (h : f_35 v1 v2 v3 s = some q) : zgo k d 35 (0, [(0, .ref 0), (1, .int (Int32.ofInt v1)), (2, .int (Int32.ofInt v2)), (3, .int (Int32.ofInt v3))], []) (hp s ++ x) (zires q.1 x, hp q.2 ++ zext q.1 x) := by
  unfold f_35 at h
  have hM := xM_35 k.1
  refine g_aload_n 1 hM rfl rfl rfl ?_
  refine g_getF 4 hM rfl rfl rfl rfl rfl ?_
  refine g_iload_n 5 hM rfl rfl rfl ?_
  refine g_iload_n 6 hM rfl rfl rfl ?_
  obtain ⟨r2, h1, h⟩ := zo_some h
  refine g_call 9 _ [.int (Int32.ofInt r2)] hM rfl rfl rfl rfl rfl (xM_55 _) rfl (z_rcv2 rfl) rfl rfl (by omega) (w_55 (by omega) h1) rfl ?_
  obtain ⟨hg3, h⟩ := zg_some h
  by_cases hc4 : r2 = 0
  · rw [if_pos hc4] at h
    refine g_if_ne_f 12 22 hM rfl rfl rfl hg3 hc4 ?_
    cases h
    exact g_throw hM rfl rfl rfl hxl (by omega) rfl
  · rw [if_neg hc4] at h
    refine g_if_ne_t 22 hM rfl rfl hg3 hc4 ?_
    refine g_iload_n 23 hM rfl rfl rfl ?_
    obtain ⟨hg5, h⟩ := zg_some h
    by_cases hc6 : v3 < 0
    · rw [if_pos hc6] at h
      refine g_if_lt_t 31 hM rfl rfl hg5 hc6 ?_
      cases h
      exact g_throw hM rfl rfl rfl hxl (by omega) rfl
    · rw [if_neg hc6] at h
      refine g_if_lt_f 26 31 hM rfl rfl rfl hg5 hc6 ?_
      refine g_iload_n 27 hM rfl rfl rfl ?_
      refine g_iconst 28 hM rfl rfl ?_
      by_cases hc7 : 2 < v3
      · rw [if_pos hc7] at h
        refine g_ic_le_f 31 41 hM rfl rfl rfl hg5 (zR_lit rfl) hc7 ?_
        cases h
        exact g_throw hM rfl rfl rfl hxl (by omega) rfl
      · rw [if_neg hc7] at h
        refine g_ic_le_t 41 hM rfl rfl hg5 (zR_lit rfl) hc7 ?_
        refine g_iload_n 42 hM rfl rfl rfl ?_
        refine g_bipush 44 hM rfl rfl rfl ?_
        refine g_imul 45 hM rfl rfl ?_
        refine g_iload_n 46 hM rfl rfl rfl ?_
        refine g_iadd 47 hM rfl rfl ?_
        refine g_istore 49 hM rfl rfl rfl ?_
        refine g_aload_n 50 hM rfl rfl rfl ?_
        refine g_getF 53 hM rfl rfl rfl rfl rfl ?_
        refine g_getF 56 hM rfl rfl rfl rfl rfl ?_
        refine g_iload 58 hM rfl rfl rfl ?_
        obtain ⟨hg8, h⟩ := zg_some h
        refine g_iaload 59 (gI s 5 ((v1 * 125) + v2)) hM rfl rfl rfl rfl hg8 rfl ?_
        refine g_istore 61 hM rfl rfl rfl ?_
        refine g_iload_n 62 hM rfl rfl rfl ?_
        refine g_iconst 63 hM rfl rfl ?_
        by_cases hc9 : v3 = 1
        · rw [if_pos hc9] at h
          refine g_ic_ne_f 66 94 hM rfl rfl rfl hg5 (zR_lit rfl) hc9 ?_
          refine g_iload 68 hM rfl rfl rfl ?_
          refine g_iconst 69 hM rfl rfl ?_
          by_cases hc10 : (gI s 5 ((v1 * 125) + v2)) = 1
          · rw [if_pos hc10] at h
            refine g_ic_eq_t 94 hM rfl rfl (zR_gI _ _ _) (zR_lit rfl) hc10 ?_
            refine g_lv [(0, .ref 0), (3, .int (Int32.ofInt v3)), (4, .int (Int32.ofInt ((v1 * 125) + v2))), (5, .int (Int32.ofInt (gI s 5 ((v1 * 125) + v2))))] rfl ⟨rfl, rfl, rfl, rfl, trivial⟩ ?_
            exact wj_35_94 (by omega) hxl h
          · rw [if_neg hc10] at h
            refine g_ic_eq_f 72 94 hM rfl rfl rfl (zR_gI _ _ _) (zR_lit rfl) hc10 ?_
            refine g_aload_n 73 hM rfl rfl rfl ?_
            refine g_getF 76 hM rfl rfl rfl rfl rfl ?_
            refine g_getI 79 8 (gI s 1 8) hM rfl rfl rfl rfl rfl rfl rfl ?_
            refine g_bipush 81 hM rfl rfl rfl ?_
            by_cases hc11 : (gI s 1 8) < 12
            · rw [if_pos hc11] at h
              refine g_ic_lt_t 94 hM rfl rfl (zR_gI _ _ _) (zR_lit rfl) hc11 ?_
              refine g_lv [(0, .ref 0), (3, .int (Int32.ofInt v3)), (4, .int (Int32.ofInt ((v1 * 125) + v2))), (5, .int (Int32.ofInt (gI s 5 ((v1 * 125) + v2))))] rfl ⟨rfl, rfl, rfl, rfl, trivial⟩ ?_
              exact wj_35_94 (by omega) hxl h
            · rw [if_neg hc11] at h
              refine g_ic_lt_f 84 94 hM rfl rfl rfl (zR_gI _ _ _) (zR_lit rfl) hc11 ?_
              cases h
              exact g_throw hM rfl rfl rfl hxl (by omega) rfl
        · rw [if_neg hc9] at h
          refine g_ic_ne_t 94 hM rfl rfl hg5 (zR_lit rfl) hc9 ?_
          refine g_lv [(0, .ref 0), (3, .int (Int32.ofInt v3)), (4, .int (Int32.ofInt ((v1 * 125) + v2))), (5, .int (Int32.ofInt (gI s 5 ((v1 * 125) + v2))))] rfl ⟨rfl, rfl, rfl, rfl, trivial⟩ ?_
          exact wj_35_94 (by omega) hxl h
/-- RelationFinderLaw.bound(LRelationFinder;III[J)I -/
def f_4 (v1 : Int) (v2 : Int) (v3 : Int) (s : zS) : Option (Int × zS) := zb (f_35 v1 v2 v3 s) (fun r2 s3 => Sum.elim (fun v4 => zg (zR v4) (some (0, (sJ s3 205 0 (BitVec.ofInt 64 v4))))) (fun c5 => if c5 = 10 then (some (1, s3)) else (if c5 = 8 then (some (2, s3)) else (if c5 = 9 then (some (3, s3)) else (none)))) r2)
theorem w_4 {k : zK} {d : Nat} {x : am_H} {v1 : Int} {v2 : Int} {v3 : Int} {s s' : zS} {r : Int} (hd : 9 ≤ d) (hxl : x.length < 100000) (h : f_4 v1 v2 v3 s = some (r, s')) : ∃ x', zgrow x x' ∧ zgo k d 4 (0, [(0, .ref 0), (1, .int (Int32.ofInt v1)), (2, .int (Int32.ofInt v2)), (3, .int (Int32.ofInt v3)), (4, .ref 205)], []) (hp s ++ x) (.inl (some (.int (Int32.ofInt r))), hp s' ++ x') := by
  unfold f_4 at h
  have hM := xM_4 k.1
  obtain ⟨r2, s3, h1, h⟩ := zb_some h
  have hwh1 := w_35 (k := k) (d := d - 1) (by omega) hxl h1
  rcases r2 with v4 | c5
  · simp only [ze_l] at h
    refine ⟨x, Or.inl rfl, ?_⟩
    refine g_aload 2 hM rfl rfl rfl ?_
    refine g_iconst 3 hM rfl rfl ?_
    refine g_aload_n 4 hM rfl rfl rfl ?_
    refine g_iload_n 5 hM rfl rfl rfl ?_
    refine g_iload_n 6 hM rfl rfl rfl ?_
    refine g_iload_n 7 hM rfl rfl rfl ?_
    refine g_call 10 _ [.int (Int32.ofInt v4), .int (Int32.ofInt 0), .ref 205] hM rfl rfl rfl rfl rfl (xM_35 _) rfl (z_rcv2 rfl) rfl rfl (by omega) hwh1 rfl ?_
    obtain ⟨hg6, h⟩ := zg_some h
    refine g_i2l 11 hM rfl rfl hg6 ?_
    refine g_lastore 12 hM rfl rfl rfl rfl ⟨by decide, by decide⟩ ?_
    refine g_goto 27 hM rfl rfl ?_
    refine g_iconst 28 hM rfl rfl ?_
    cases h
    exact g_ret hM rfl rfl
  · simp only [ze_r] at h
    refine ⟨x ++ [.inr (c5, am_six)], Or.inr ⟨_, rfl⟩, ?_⟩
    refine g_aload 2 hM rfl rfl rfl ?_
    refine g_iconst 3 hM rfl rfl ?_
    refine g_aload_n 4 hM rfl rfl rfl ?_
    refine g_iload_n 5 hM rfl rfl rfl ?_
    refine g_iload_n 6 hM rfl rfl rfl ?_
    refine g_iload_n 7 hM rfl rfl rfl ?_
    by_cases hc7 : c5 = 10
    · rw [if_pos hc7] at h
      subst hc7
      refine g_callx (h := 15) _ hM rfl rfl rfl rfl rfl (xM_35 _) rfl (z_rcv2 rfl) rfl (by omega) hwh1 (z_atx hxl) rfl ?_
      refine g_astore 17 hM rfl rfl rfl ?_
      refine g_iconst 18 hM rfl rfl ?_
      cases h
      exact g_ret hM rfl rfl
    · rw [if_neg hc7] at h
      by_cases hc8 : c5 = 8
      · rw [if_pos hc8] at h
        subst hc8
        refine g_callx (h := 19) _ hM rfl rfl rfl rfl rfl (xM_35 _) rfl (z_rcv2 rfl) rfl (by omega) hwh1 (z_atx hxl) rfl ?_
        refine g_astore 21 hM rfl rfl rfl ?_
        refine g_iconst 22 hM rfl rfl ?_
        cases h
        exact g_ret hM rfl rfl
      · rw [if_neg hc8] at h
        by_cases hc9 : c5 = 9
        · rw [if_pos hc9] at h
          subst hc9
          refine g_callx (h := 23) _ hM rfl rfl rfl rfl rfl (xM_35 _) rfl (z_rcv2 rfl) rfl (by omega) hwh1 (z_atx hxl) rfl ?_
          refine g_astore 25 hM rfl rfl rfl ?_
          refine g_iconst 26 hM rfl rfl ?_
          cases h
          exact g_ret hM rfl rfl
        · rw [if_neg hc9] at h
          cases h
/-- RelationFinder.fact()I -/
def f_36 (s : zS) : Option ((Int ⊕ Nat) × zS) := if (gI s 0 10) < 16 then (zb (f_17 1 s) (fun r3 s4 => zg (zR r3) (if r3 = 0 then (zb (f_22 (gI s4 0 10) s4) (fun r8 s9 => some ((Sum.inl ((gI (sI s9 0 10 ((gI s9 0 10) + 1)) 0 10) - 1)), (sI s9 0 10 ((gI s9 0 10) + 1))))) else (some ((Sum.inl r3), s4))))) else (zb (f_70 s) (fun r11 s12 => some (Sum.inr 9, s12)))
theorem w_36 {k : zK} {d : Nat} {x : am_H} {s : zS} {q : ((Int ⊕ Nat) × zS)} (hd : 8 ≤ d) (hxl : x.length < 100000) (h : f_36 s = some q) : zgo k d 36 (0, [(0, .ref 0)], []) (hp s ++ x) (zires q.1 x, hp q.2 ++ zext q.1 x) := by
  unfold f_36 at h
  have hM := xM_36 k.1
  refine g_aload_n 1 hM rfl rfl rfl ?_
  refine g_getI 4 10 (gI s 0 10) hM rfl rfl rfl rfl rfl rfl rfl ?_
  refine g_bipush 6 hM rfl rfl rfl ?_
  by_cases hc1 : (gI s 0 10) < 16
  · rw [if_pos hc1] at h
    refine g_ic_lt_t 26 hM rfl rfl (zR_gI _ _ _) (zR_lit rfl) hc1 ?_
    refine g_aload_n 27 hM rfl rfl rfl ?_
    refine g_iconst 28 hM rfl rfl ?_
    obtain ⟨r3, s4, h2, h⟩ := zb_some h
    refine g_call 31 _ [.int (Int32.ofInt r3)] hM rfl rfl rfl rfl rfl (xM_17 _) rfl (z_rcv2 rfl) rfl rfl (by omega) (w_17 (by omega) h2) rfl ?_
    refine g_istore_n 32 hM rfl rfl rfl ?_
    refine g_iload_n 33 hM rfl rfl rfl ?_
    obtain ⟨hg5, h⟩ := zg_some h
    by_cases hc6 : r3 = 0
    · rw [if_pos hc6] at h
      refine g_if_eq_t 38 hM rfl rfl hg5 hc6 ?_
      refine g_aload_n 39 hM rfl rfl rfl ?_
      refine g_aload_n 40 hM rfl rfl rfl ?_
      refine g_getI 43 10 (gI s4 0 10) hM rfl rfl rfl rfl rfl rfl rfl ?_
      obtain ⟨r8, s9, h7, h⟩ := zb_some h
      refine g_call 46 _ [] hM rfl rfl rfl rfl rfl (xM_22 _) rfl (z_rcv2 rfl) rfl rfl (by omega) (w_22 (by omega) h7) rfl ?_
      refine g_aload_n 47 hM rfl rfl rfl ?_
      refine g_dup 48 hM rfl rfl rfl ?_
      refine g_getI 51 10 (gI s9 0 10) hM rfl rfl rfl rfl rfl rfl rfl ?_
      refine g_iconst 52 hM rfl rfl ?_
      refine g_iadd 53 hM rfl rfl ?_
      refine g_putI 56 10 hM rfl rfl rfl rfl rfl rfl rfl ?_
      refine g_aload_n 57 hM rfl rfl rfl ?_
      refine g_getI 60 10 (gI (sI s9 0 10 ((gI s9 0 10) + 1)) 0 10) hM rfl rfl rfl rfl rfl rfl rfl ?_
      refine g_iconst 61 hM rfl rfl ?_
      refine g_isub 62 hM rfl rfl ?_
      cases h
      exact g_ret hM rfl rfl
    · rw [if_neg hc6] at h
      refine g_if_eq_f 36 38 hM rfl rfl rfl hg5 hc6 ?_
      refine g_iload_n 37 hM rfl rfl rfl ?_
      cases h
      exact g_ret hM rfl rfl
  · rw [if_neg hc1] at h
    refine g_ic_lt_f 9 26 hM rfl rfl rfl (zR_gI _ _ _) (zR_lit rfl) hc1 ?_
    refine g_aload_n 10 hM rfl rfl rfl ?_
    refine g_getF 13 hM rfl rfl rfl rfl rfl ?_
    obtain ⟨r11, s12, h10, h⟩ := zb_some h
    refine g_call 16 _ [] hM rfl rfl rfl rfl rfl (xM_70 _) rfl (z_rcv2 rfl) rfl rfl (by omega) (w_70 (by omega) h10) rfl ?_
    cases h
    exact g_throw hM rfl rfl rfl hxl (by omega) rfl
/-- RelationFinderLaw.fact(LRelationFinder;[J)I -/
def f_5 (s : zS) : Option (Int × zS) := zb (f_36 s) (fun r2 s3 => Sum.elim (fun v4 => zg (zR v4) (some (0, (sJ s3 205 0 (BitVec.ofInt 64 v4))))) (fun c5 => if c5 = 9 then (some (1, s3)) else (none)) r2)
theorem w_5 {k : zK} {d : Nat} {x : am_H} {s s' : zS} {r : Int} (hd : 9 ≤ d) (hxl : x.length < 100000) (h : f_5 s = some (r, s')) : ∃ x', zgrow x x' ∧ zgo k d 5 (0, [(0, .ref 0), (1, .ref 205)], []) (hp s ++ x) (.inl (some (.int (Int32.ofInt r))), hp s' ++ x') := by
  unfold f_5 at h
  have hM := xM_5 k.1
  obtain ⟨r2, s3, h1, h⟩ := zb_some h
  have hwh1 := w_36 (k := k) (d := d - 1) (by omega) hxl h1
  rcases r2 with v4 | c5
  · simp only [ze_l] at h
    refine ⟨x, Or.inl rfl, ?_⟩
    refine g_aload_n 1 hM rfl rfl rfl ?_
    refine g_iconst 2 hM rfl rfl ?_
    refine g_aload_n 3 hM rfl rfl rfl ?_
    refine g_call 6 _ [.int (Int32.ofInt v4), .int (Int32.ofInt 0), .ref 205] hM rfl rfl rfl rfl rfl (xM_36 _) rfl (z_rcv2 rfl) rfl rfl (by omega) hwh1 rfl ?_
    obtain ⟨hg6, h⟩ := zg_some h
    refine g_i2l 7 hM rfl rfl hg6 ?_
    refine g_lastore 8 hM rfl rfl rfl rfl ⟨by decide, by decide⟩ ?_
    refine g_goto 14 hM rfl rfl ?_
    refine g_iconst 15 hM rfl rfl ?_
    cases h
    exact g_ret hM rfl rfl
  · simp only [ze_r] at h
    refine ⟨x ++ [.inr (c5, am_six)], Or.inr ⟨_, rfl⟩, ?_⟩
    refine g_aload_n 1 hM rfl rfl rfl ?_
    refine g_iconst 2 hM rfl rfl ?_
    refine g_aload_n 3 hM rfl rfl rfl ?_
    by_cases hc7 : c5 = 9
    · rw [if_pos hc7] at h
      subst hc7
      refine g_callx (h := 11) _ hM rfl rfl rfl rfl rfl (xM_36 _) rfl (z_rcv2 rfl) rfl (by omega) hwh1 (z_atx hxl) rfl ?_
      refine g_astore_n 12 hM rfl rfl rfl ?_
      refine g_iconst 13 hM rfl rfl ?_
      cases h
      exact g_ret hM rfl rfl
    · rw [if_neg hc7] at h
      cases h
/-- RelationFinder.back()I -/
def f_37 (s : zS) : Option ((Int ⊕ Nat) × zS) := if (gI s 0 10) = 0 then (some (Sum.inr 11, s)) else (some ((Sum.inl (gI (sI s 0 10 ((gI s 0 10) - 1)) 0 10)), (sI (sI (sI s 0 10 ((gI s 0 10) - 1)) 0 13 (zand (gI s 0 13) (zxor (1 * 2 ^ zsh (gI (sI s 0 10 ((gI s 0 10) - 1)) 0 10)) (-1)))) 0 12 (-1))))
theorem w_37 {k : zK} {d : Nat} {x : am_H} {s : zS} {q : ((Int ⊕ Nat) × zS)} (hd : 8 ≤ d) (hxl : x.length < 100000) (h : f_37 s = some q) : zgo k d 37 (0, [(0, .ref 0)], []) (hp s ++ x) (zires q.1 x, hp q.2 ++ zext q.1 x) := by
  unfold f_37 at h
  have hM := xM_37 k.1
  refine g_aload_n 1 hM rfl rfl rfl ?_
  refine g_getI 4 10 (gI s 0 10) hM rfl rfl rfl rfl rfl rfl rfl ?_
  by_cases hc1 : (gI s 0 10) = 0
  · rw [if_pos hc1] at h
    refine g_if_ne_f 7 17 hM rfl rfl rfl (zR_gI _ _ _) hc1 ?_
    cases h
    exact g_throw hM rfl rfl rfl hxl (by omega) rfl
  · rw [if_neg hc1] at h
    refine g_if_ne_t 17 hM rfl rfl (zR_gI _ _ _) hc1 ?_
    refine g_aload_n 18 hM rfl rfl rfl ?_
    refine g_dup 19 hM rfl rfl rfl ?_
    refine g_getI 22 10 (gI s 0 10) hM rfl rfl rfl rfl rfl rfl rfl ?_
    refine g_iconst 23 hM rfl rfl ?_
    refine g_isub 24 hM rfl rfl ?_
    refine g_putI 27 10 hM rfl rfl rfl rfl rfl rfl rfl ?_
    refine g_aload_n 28 hM rfl rfl rfl ?_
    refine g_dup 29 hM rfl rfl rfl ?_
    refine g_getI 32 13 (gI s 0 13) hM rfl rfl rfl rfl rfl rfl rfl ?_
    refine g_iconst 33 hM rfl rfl ?_
    refine g_aload_n 34 hM rfl rfl rfl ?_
    refine g_getI 37 10 (gI (sI s 0 10 ((gI s 0 10) - 1)) 0 10) hM rfl rfl rfl rfl rfl rfl rfl ?_
    refine g_ishl 38 hM rfl rfl ?_
    refine g_iconst 39 hM rfl rfl ?_
    refine g_ixor 40 hM rfl rfl ?_
    refine g_iand 41 hM rfl rfl ?_
    refine g_putI 44 13 hM rfl rfl rfl rfl rfl rfl rfl ?_
    refine g_aload_n 45 hM rfl rfl rfl ?_
    refine g_iconst 46 hM rfl rfl ?_
    refine g_putI 49 12 hM rfl rfl rfl rfl rfl rfl rfl ?_
    refine g_aload_n 50 hM rfl rfl rfl ?_
    refine g_getI 53 10 (gI (sI s 0 10 ((gI s 0 10) - 1)) 0 10) hM rfl rfl rfl rfl rfl rfl rfl ?_
    cases h
    exact g_ret hM rfl rfl
/-- RelationFinderLaw.back(LRelationFinder;[J)I -/
def f_6 (s : zS) : Option (Int × zS) := zb (f_37 s) (fun r2 s3 => Sum.elim (fun v4 => zg (zR v4) (some (0, (sJ s3 205 0 (BitVec.ofInt 64 v4))))) (fun c5 => if c5 = 11 then (some (1, s3)) else (none)) r2)
theorem w_6 {k : zK} {d : Nat} {x : am_H} {s s' : zS} {r : Int} (hd : 9 ≤ d) (hxl : x.length < 100000) (h : f_6 s = some (r, s')) : ∃ x', zgrow x x' ∧ zgo k d 6 (0, [(0, .ref 0), (1, .ref 205)], []) (hp s ++ x) (.inl (some (.int (Int32.ofInt r))), hp s' ++ x') := by
  unfold f_6 at h
  have hM := xM_6 k.1
  obtain ⟨r2, s3, h1, h⟩ := zb_some h
  have hwh1 := w_37 (k := k) (d := d - 1) (by omega) hxl h1
  rcases r2 with v4 | c5
  · simp only [ze_l] at h
    refine ⟨x, Or.inl rfl, ?_⟩
    refine g_aload_n 1 hM rfl rfl rfl ?_
    refine g_iconst 2 hM rfl rfl ?_
    refine g_aload_n 3 hM rfl rfl rfl ?_
    refine g_call 6 _ [.int (Int32.ofInt v4), .int (Int32.ofInt 0), .ref 205] hM rfl rfl rfl rfl rfl (xM_37 _) rfl (z_rcv2 rfl) rfl rfl (by omega) hwh1 rfl ?_
    obtain ⟨hg6, h⟩ := zg_some h
    refine g_i2l 7 hM rfl rfl hg6 ?_
    refine g_lastore 8 hM rfl rfl rfl rfl ⟨by decide, by decide⟩ ?_
    refine g_goto 14 hM rfl rfl ?_
    refine g_iconst 15 hM rfl rfl ?_
    cases h
    exact g_ret hM rfl rfl
  · simp only [ze_r] at h
    refine ⟨x ++ [.inr (c5, am_six)], Or.inr ⟨_, rfl⟩, ?_⟩
    refine g_aload_n 1 hM rfl rfl rfl ?_
    refine g_iconst 2 hM rfl rfl ?_
    refine g_aload_n 3 hM rfl rfl rfl ?_
    by_cases hc7 : c5 = 11
    · rw [if_pos hc7] at h
      subst hc7
      refine g_callx (h := 11) _ hM rfl rfl rfl rfl rfl (xM_37 _) rfl (z_rcv2 rfl) rfl (by omega) hwh1 (z_atx hxl) rfl ?_
      refine g_astore_n 12 hM rfl rfl rfl ?_
      refine g_iconst 13 hM rfl rfl ?_
      cases h
      exact g_ret hM rfl rfl
    · rw [if_neg hc7] at h
      cases h
/-- RelationFinder.next()I -/
def f_38 (s : zS) : Option ((Int ⊕ Nat) × zS) := if (gI s 0 12) = (-1) then (some (Sum.inr 11, s)) else (zo (f_24 s) (fun r3 => zb (f_25 ((gI s 0 12) + 1) r3 s) (fun r5 s6 => if (gI (sI s6 0 12 r5) 0 12) = (-1) then (some ((Sum.inl 0), (sI s6 0 12 r5))) else (some ((Sum.inl 1), (sI s6 0 12 r5))))))
theorem w_38 {k : zK} {d : Nat} {x : am_H} {s : zS} {q : ((Int ⊕ Nat) × zS)} (hd : 100 ≤ d) (hxl : x.length < 100000) (h : f_38 s = some q) : zgo k d 38 (0, [(0, .ref 0)], []) (hp s ++ x) (zires q.1 x, hp q.2 ++ zext q.1 x) := by
  unfold f_38 at h
  have hM := xM_38 k.1
  refine g_aload_n 1 hM rfl rfl rfl ?_
  refine g_getI 4 12 (gI s 0 12) hM rfl rfl rfl rfl rfl rfl rfl ?_
  refine g_iconst 5 hM rfl rfl ?_
  by_cases hc1 : (gI s 0 12) = (-1)
  · rw [if_pos hc1] at h
    refine g_ic_ne_f 8 18 hM rfl rfl rfl (zR_gI _ _ _) (zR_lit rfl) hc1 ?_
    cases h
    exact g_throw hM rfl rfl rfl hxl (by omega) rfl
  · rw [if_neg hc1] at h
    refine g_ic_ne_t 18 hM rfl rfl (zR_gI _ _ _) (zR_lit rfl) hc1 ?_
    refine g_aload_n 19 hM rfl rfl rfl ?_
    refine g_aload_n 20 hM rfl rfl rfl ?_
    refine g_aload_n 21 hM rfl rfl rfl ?_
    refine g_getI 24 12 (gI s 0 12) hM rfl rfl rfl rfl rfl rfl rfl ?_
    refine g_iconst 25 hM rfl rfl ?_
    refine g_iadd 26 hM rfl rfl ?_
    refine g_aload_n 27 hM rfl rfl rfl ?_
    obtain ⟨r3, h2, h⟩ := zo_some h
    refine g_call 30 _ [.int (Int32.ofInt r3), .int (Int32.ofInt ((gI s 0 12) + 1)), .ref 0, .ref 0] hM rfl rfl rfl rfl rfl (xM_24 _) rfl (z_rcv2 rfl) rfl rfl (by omega) (w_24 (by omega) h2) rfl ?_
    obtain ⟨r5, s6, h4, h⟩ := zb_some h
    refine g_call 33 _ [.int (Int32.ofInt r5), .ref 0] hM rfl rfl rfl rfl rfl (xM_25 _) rfl (z_rcv2 rfl) rfl rfl (by omega) (w_25 (by omega) h4) rfl ?_
    refine g_putI 36 12 hM rfl rfl rfl rfl rfl rfl rfl ?_
    refine g_aload_n 37 hM rfl rfl rfl ?_
    refine g_getI 40 12 (gI (sI s6 0 12 r5) 0 12) hM rfl rfl rfl rfl rfl rfl rfl ?_
    refine g_iconst 41 hM rfl rfl ?_
    by_cases hc7 : (gI (sI s6 0 12 r5) 0 12) = (-1)
    · rw [if_pos hc7] at h
      refine g_ic_ne_f 44 48 hM rfl rfl rfl (zR_gI _ _ _) (zR_lit rfl) hc7 ?_
      refine g_iconst 45 hM rfl rfl ?_
      refine g_goto 49 hM rfl rfl ?_
      cases h
      exact g_ret hM rfl rfl
    · rw [if_neg hc7] at h
      refine g_ic_ne_t 48 hM rfl rfl (zR_gI _ _ _) (zR_lit rfl) hc7 ?_
      refine g_iconst 49 hM rfl rfl ?_
      cases h
      exact g_ret hM rfl rfl
/-- RelationFinderLaw.next(LRelationFinder;[J)I -/
def f_7 (s : zS) : Option (Int × zS) := zb (f_38 s) (fun r2 s3 => Sum.elim (fun v4 => zg (zR v4) (some (0, (sJ s3 205 0 (BitVec.ofInt 64 v4))))) (fun c5 => if c5 = 11 then (some (1, s3)) else (none)) r2)
theorem w_7 {k : zK} {d : Nat} {x : am_H} {s s' : zS} {r : Int} (hd : 101 ≤ d) (hxl : x.length < 100000) (h : f_7 s = some (r, s')) : ∃ x', zgrow x x' ∧ zgo k d 7 (0, [(0, .ref 0), (1, .ref 205)], []) (hp s ++ x) (.inl (some (.int (Int32.ofInt r))), hp s' ++ x') := by
  unfold f_7 at h
  have hM := xM_7 k.1
  obtain ⟨r2, s3, h1, h⟩ := zb_some h
  have hwh1 := w_38 (k := k) (d := d - 1) (by omega) hxl h1
  rcases r2 with v4 | c5
  · simp only [ze_l] at h
    refine ⟨x, Or.inl rfl, ?_⟩
    refine g_aload_n 1 hM rfl rfl rfl ?_
    refine g_iconst 2 hM rfl rfl ?_
    refine g_aload_n 3 hM rfl rfl rfl ?_
    refine g_call 6 _ [.int (Int32.ofInt v4), .int (Int32.ofInt 0), .ref 205] hM rfl rfl rfl rfl rfl (xM_38 _) rfl (z_rcv2 rfl) rfl rfl (by omega) hwh1 rfl ?_
    obtain ⟨hg6, h⟩ := zg_some h
    refine g_i2l 7 hM rfl rfl hg6 ?_
    refine g_lastore 8 hM rfl rfl rfl rfl ⟨by decide, by decide⟩ ?_
    refine g_goto 14 hM rfl rfl ?_
    refine g_iconst 15 hM rfl rfl ?_
    cases h
    exact g_ret hM rfl rfl
  · simp only [ze_r] at h
    refine ⟨x ++ [.inr (c5, am_six)], Or.inr ⟨_, rfl⟩, ?_⟩
    refine g_aload_n 1 hM rfl rfl rfl ?_
    refine g_iconst 2 hM rfl rfl ?_
    refine g_aload_n 3 hM rfl rfl rfl ?_
    by_cases hc7 : c5 = 11
    · rw [if_pos hc7] at h
      subst hc7
      refine g_callx (h := 11) _ hM rfl rfl rfl rfl rfl (xM_38 _) rfl (z_rcv2 rfl) rfl (by omega) hwh1 (z_atx hxl) rfl ?_
      refine g_astore_n 12 hM rfl rfl rfl ?_
      refine g_iconst 13 hM rfl rfl ?_
      cases h
      exact g_ret hM rfl rfl
    · rw [if_neg hc7] at h
      cases h
/-- RelationFinder.check()I -/
def f_39 (s : zS) : Option ((Int ⊕ Nat) × zS) := if (gI s 0 11) = 0 then (some (Sum.inr 11, s)) else (zo (f_24 s) (fun r3 => zb (f_25 0 (zor r3 65536) s) (fun r5 s6 => if (gI (sI s6 0 12 r5) 0 12) = (-1) then (some ((Sum.inl 0), (sI s6 0 12 r5))) else (some ((Sum.inl 1), (sI s6 0 12 r5))))))
theorem w_39 {k : zK} {d : Nat} {x : am_H} {s : zS} {q : ((Int ⊕ Nat) × zS)} (hd : 100 ≤ d) (hxl : x.length < 100000) (h : f_39 s = some q) : zgo k d 39 (0, [(0, .ref 0)], []) (hp s ++ x) (zires q.1 x, hp q.2 ++ zext q.1 x) := by
  unfold f_39 at h
  have hM := xM_39 k.1
  refine g_aload_n 1 hM rfl rfl rfl ?_
  refine g_getI 4 11 (gI s 0 11) hM rfl rfl rfl rfl rfl rfl rfl ?_
  by_cases hc1 : (gI s 0 11) = 0
  · rw [if_pos hc1] at h
    refine g_if_ne_f 7 17 hM rfl rfl rfl (zR_gI _ _ _) hc1 ?_
    cases h
    exact g_throw hM rfl rfl rfl hxl (by omega) rfl
  · rw [if_neg hc1] at h
    refine g_if_ne_t 17 hM rfl rfl (zR_gI _ _ _) hc1 ?_
    refine g_aload_n 18 hM rfl rfl rfl ?_
    refine g_aload_n 19 hM rfl rfl rfl ?_
    refine g_iconst 20 hM rfl rfl ?_
    refine g_aload_n 21 hM rfl rfl rfl ?_
    obtain ⟨r3, h2, h⟩ := zo_some h
    refine g_call 24 _ [.int (Int32.ofInt r3), .int (Int32.ofInt 0), .ref 0, .ref 0] hM rfl rfl rfl rfl rfl (xM_24 _) rfl (z_rcv2 rfl) rfl rfl (by omega) (w_24 (by omega) h2) rfl ?_
    refine g_ldcI 26 65536 hM rfl rfl rfl (by decide) ?_
    refine g_ior 27 hM rfl rfl ?_
    obtain ⟨r5, s6, h4, h⟩ := zb_some h
    refine g_call 30 _ [.int (Int32.ofInt r5), .ref 0] hM rfl rfl rfl rfl rfl (xM_25 _) rfl (z_rcv2 rfl) rfl rfl (by omega) (w_25 (by omega) h4) rfl ?_
    refine g_putI 33 12 hM rfl rfl rfl rfl rfl rfl rfl ?_
    refine g_aload_n 34 hM rfl rfl rfl ?_
    refine g_getI 37 12 (gI (sI s6 0 12 r5) 0 12) hM rfl rfl rfl rfl rfl rfl rfl ?_
    refine g_iconst 38 hM rfl rfl ?_
    by_cases hc7 : (gI (sI s6 0 12 r5) 0 12) = (-1)
    · rw [if_pos hc7] at h
      refine g_ic_ne_f 41 45 hM rfl rfl rfl (zR_gI _ _ _) (zR_lit rfl) hc7 ?_
      refine g_iconst 42 hM rfl rfl ?_
      refine g_goto 46 hM rfl rfl ?_
      cases h
      exact g_ret hM rfl rfl
    · rw [if_neg hc7] at h
      refine g_ic_ne_t 45 hM rfl rfl (zR_gI _ _ _) (zR_lit rfl) hc7 ?_
      refine g_iconst 46 hM rfl rfl ?_
      cases h
      exact g_ret hM rfl rfl
/-- RelationFinderLaw.check(LRelationFinder;[J)I -/
def f_8 (s : zS) : Option (Int × zS) := zb (f_39 s) (fun r2 s3 => Sum.elim (fun v4 => zg (zR v4) (some (0, (sJ s3 205 0 (BitVec.ofInt 64 v4))))) (fun c5 => if c5 = 11 then (some (1, s3)) else (none)) r2)
theorem w_8 {k : zK} {d : Nat} {x : am_H} {s s' : zS} {r : Int} (hd : 101 ≤ d) (hxl : x.length < 100000) (h : f_8 s = some (r, s')) : ∃ x', zgrow x x' ∧ zgo k d 8 (0, [(0, .ref 0), (1, .ref 205)], []) (hp s ++ x) (.inl (some (.int (Int32.ofInt r))), hp s' ++ x') := by
  unfold f_8 at h
  have hM := xM_8 k.1
  obtain ⟨r2, s3, h1, h⟩ := zb_some h
  have hwh1 := w_39 (k := k) (d := d - 1) (by omega) hxl h1
  rcases r2 with v4 | c5
  · simp only [ze_l] at h
    refine ⟨x, Or.inl rfl, ?_⟩
    refine g_aload_n 1 hM rfl rfl rfl ?_
    refine g_iconst 2 hM rfl rfl ?_
    refine g_aload_n 3 hM rfl rfl rfl ?_
    refine g_call 6 _ [.int (Int32.ofInt v4), .int (Int32.ofInt 0), .ref 205] hM rfl rfl rfl rfl rfl (xM_39 _) rfl (z_rcv2 rfl) rfl rfl (by omega) hwh1 rfl ?_
    obtain ⟨hg6, h⟩ := zg_some h
    refine g_i2l 7 hM rfl rfl hg6 ?_
    refine g_lastore 8 hM rfl rfl rfl rfl ⟨by decide, by decide⟩ ?_
    refine g_goto 14 hM rfl rfl ?_
    refine g_iconst 15 hM rfl rfl ?_
    cases h
    exact g_ret hM rfl rfl
  · simp only [ze_r] at h
    refine ⟨x ++ [.inr (c5, am_six)], Or.inr ⟨_, rfl⟩, ?_⟩
    refine g_aload_n 1 hM rfl rfl rfl ?_
    refine g_iconst 2 hM rfl rfl ?_
    refine g_aload_n 3 hM rfl rfl rfl ?_
    by_cases hc7 : c5 = 11
    · rw [if_pos hc7] at h
      subst hc7
      refine g_callx (h := 11) _ hM rfl rfl rfl rfl rfl (xM_39 _) rfl (z_rcv2 rfl) rfl (by omega) hwh1 (z_atx hxl) rfl ?_
      refine g_astore_n 12 hM rfl rfl rfl ?_
      refine g_iconst 13 hM rfl rfl ?_
      cases h
      exact g_ret hM rfl rfl
    · rw [if_neg hc7] at h
      cases h
/-- RelationFinder$World.contains(II)Z -/
def f_59 (v1 : Int) (v2 : Int) (s : zS) : Option Int := zo (f_53 v1 s) (fun r2 => zg (zR r2) (if r2 = (-1) then (zg (0 ≤ v1 ∧ v1 < 1000) (if (gI s 5 v1) = 2 then (some 1) else (some 0))) else (zg (0 ≤ v2 ∧ zR v2) (if (zand (v2 / 2 ^ zsh (((gI s 1 8) - 1) - r2)) 1) = 0 then (some 0) else (some 1)))))
theorem w_59 {k : zK} {d : Nat} {x : am_H} {v1 : Int} {v2 : Int} {s : zS} {q : Int} (hd : 1 ≤ d) (h : f_59 v1 v2 s = some q) : zgo k d 59 (0, [(0, .ref 1), (1, .int (Int32.ofInt v1)), (2, .int (Int32.ofInt v2))], []) (hp s ++ x) (.inl (some (.int (Int32.ofInt q))), hp s ++ x) := by
  unfold f_59 at h
  have hM := xM_59 k.1
  refine g_aload_n 1 hM rfl rfl rfl ?_
  refine g_iload_n 2 hM rfl rfl rfl ?_
  obtain ⟨r2, h1, h⟩ := zo_some h
  refine g_call 5 _ [.int (Int32.ofInt r2)] hM rfl rfl rfl rfl rfl (xM_53 _) rfl (z_rcv2 rfl) rfl rfl (by omega) (w_53 (by omega) h1) rfl ?_
  refine g_istore_n 6 hM rfl rfl rfl ?_
  refine g_iload_n 7 hM rfl rfl rfl ?_
  refine g_iconst 8 hM rfl rfl ?_
  obtain ⟨hg3, h⟩ := zg_some h
  by_cases hc4 : r2 = (-1)
  · rw [if_pos hc4] at h
    refine g_ic_ne_f 11 29 hM rfl rfl rfl hg3 (zR_lit rfl) hc4 ?_
    refine g_aload_n 12 hM rfl rfl rfl ?_
    refine g_getF 15 hM rfl rfl rfl rfl rfl ?_
    refine g_iload_n 16 hM rfl rfl rfl ?_
    obtain ⟨hg5, h⟩ := zg_some h
    refine g_iaload 17 (gI s 5 v1) hM rfl rfl rfl rfl hg5 rfl ?_
    refine g_iconst 18 hM rfl rfl ?_
    by_cases hc6 : (gI s 5 v1) = 2
    · rw [if_pos hc6] at h
      refine g_ic_ne_f 21 25 hM rfl rfl rfl (zR_gI _ _ _) (zR_lit rfl) hc6 ?_
      refine g_iconst 22 hM rfl rfl ?_
      refine g_goto 49 hM rfl rfl ?_
      cases h
      exact g_ret hM rfl rfl
    · rw [if_neg hc6] at h
      refine g_ic_ne_t 25 hM rfl rfl (zR_gI _ _ _) (zR_lit rfl) hc6 ?_
      refine g_iconst 26 hM rfl rfl ?_
      refine g_goto 49 hM rfl rfl ?_
      cases h
      exact g_ret hM rfl rfl
  · rw [if_neg hc4] at h
    refine g_ic_ne_t 29 hM rfl rfl hg3 (zR_lit rfl) hc4 ?_
    refine g_iload_n 30 hM rfl rfl rfl ?_
    refine g_aload_n 31 hM rfl rfl rfl ?_
    refine g_getI 34 8 (gI s 1 8) hM rfl rfl rfl rfl rfl rfl rfl ?_
    refine g_iconst 35 hM rfl rfl ?_
    refine g_isub 36 hM rfl rfl ?_
    refine g_iload_n 37 hM rfl rfl rfl ?_
    refine g_isub 38 hM rfl rfl ?_
    obtain ⟨hg7, h⟩ := zg_some h
    refine g_iushr 39 hM rfl rfl hg7 ?_
    refine g_iconst 40 hM rfl rfl ?_
    refine g_iand 41 hM rfl rfl ?_
    by_cases hc8 : (zand (v2 / 2 ^ zsh (((gI s 1 8) - 1) - r2)) 1) = 0
    · rw [if_pos hc8] at h
      refine g_if_eq_t 48 hM rfl rfl (zR_and _ _) hc8 ?_
      refine g_iconst 49 hM rfl rfl ?_
      cases h
      exact g_ret hM rfl rfl
    · rw [if_neg hc8] at h
      refine g_if_eq_f 44 48 hM rfl rfl rfl (zR_and _ _) hc8 ?_
      refine g_iconst 45 hM rfl rfl ?_
      refine g_goto 49 hM rfl rfl ?_
      cases h
      exact g_ret hM rfl rfl
/-- RelationFinder.has(II)Z -/
def f_40 (v1 : Int) (v2 : Int) (s : zS) : Option ((Int ⊕ Nat) × zS) := zo (f_55 v1 v2 s) (fun r2 => zg (zR r2) (if r2 = 0 then (some (Sum.inr 10, s)) else (if (gI s 0 12) = (-1) then (some (Sum.inr 11, s)) else (zo (f_59 ((v1 * 125) + v2) (gI s 0 12) s) (fun r7 => zg (r7 = 0 ∨ r7 = 1) (some ((Sum.inl r7), s)))))))
theorem w_40 {k : zK} {d : Nat} {x : am_H} {v1 : Int} {v2 : Int} {s : zS} {q : ((Int ⊕ Nat) × zS)} (hd : 8 ≤ d) (hxl : x.length < 100000) (h : f_40 v1 v2 s = some q) : zgo k d 40 (0, [(0, .ref 0), (1, .int (Int32.ofInt v1)), (2, .int (Int32.ofInt v2))], []) (hp s ++ x) (zires q.1 x, hp q.2 ++ zext q.1 x) := by
  unfold f_40 at h
  have hM := xM_40 k.1
  refine g_aload_n 1 hM rfl rfl rfl ?_
  refine g_getF 4 hM rfl rfl rfl rfl rfl ?_
  refine g_iload_n 5 hM rfl rfl rfl ?_
  refine g_iload_n 6 hM rfl rfl rfl ?_
  obtain ⟨r2, h1, h⟩ := zo_some h
  refine g_call 9 _ [.int (Int32.ofInt r2)] hM rfl rfl rfl rfl rfl (xM_55 _) rfl (z_rcv2 rfl) rfl rfl (by omega) (w_55 (by omega) h1) rfl ?_
  obtain ⟨hg3, h⟩ := zg_some h
  by_cases hc4 : r2 = 0
  · rw [if_pos hc4] at h
    refine g_if_ne_f 12 22 hM rfl rfl rfl hg3 hc4 ?_
    cases h
    exact g_throw hM rfl rfl rfl hxl (by omega) rfl
  · rw [if_neg hc4] at h
    refine g_if_ne_t 22 hM rfl rfl hg3 hc4 ?_
    refine g_aload_n 23 hM rfl rfl rfl ?_
    refine g_getI 26 12 (gI s 0 12) hM rfl rfl rfl rfl rfl rfl rfl ?_
    refine g_iconst 27 hM rfl rfl ?_
    by_cases hc5 : (gI s 0 12) = (-1)
    · rw [if_pos hc5] at h
      refine g_ic_ne_f 30 40 hM rfl rfl rfl (zR_gI _ _ _) (zR_lit rfl) hc5 ?_
      cases h
      exact g_throw hM rfl rfl rfl hxl (by omega) rfl
    · rw [if_neg hc5] at h
      refine g_ic_ne_t 40 hM rfl rfl (zR_gI _ _ _) (zR_lit rfl) hc5 ?_
      refine g_aload_n 41 hM rfl rfl rfl ?_
      refine g_getF 44 hM rfl rfl rfl rfl rfl ?_
      refine g_iload_n 45 hM rfl rfl rfl ?_
      refine g_bipush 47 hM rfl rfl rfl ?_
      refine g_imul 48 hM rfl rfl ?_
      refine g_iload_n 49 hM rfl rfl rfl ?_
      refine g_iadd 50 hM rfl rfl ?_
      refine g_aload_n 51 hM rfl rfl rfl ?_
      refine g_getI 54 12 (gI s 0 12) hM rfl rfl rfl rfl rfl rfl rfl ?_
      obtain ⟨r7, h6, h⟩ := zo_some h
      refine g_call 57 _ [.int (Int32.ofInt r7)] hM rfl rfl rfl rfl rfl (xM_59 _) rfl (z_rcv2 rfl) rfl rfl (by omega) (w_59 (by omega) h6) rfl ?_
      obtain ⟨hg8, h⟩ := zg_some h
      cases h
      exact g_ret hM rfl (z_retB hg8)
/-- RelationFinderLaw.has(LRelationFinder;II[J)I -/
def f_9 (v1 : Int) (v2 : Int) (s : zS) : Option (Int × zS) := zb (f_40 v1 v2 s) (fun r2 s3 => Sum.elim (fun v4 => zg (zR v4) (if v4 = 0 then (some (0, (sJ s3 205 0 (0#64)))) else (some (0, (sJ s3 205 0 (1#64)))))) (fun c5 => if c5 = 10 then (some (1, s3)) else (if c5 = 11 then (some (2, s3)) else (none))) r2)
theorem w_9 {k : zK} {d : Nat} {x : am_H} {v1 : Int} {v2 : Int} {s s' : zS} {r : Int} (hd : 9 ≤ d) (hxl : x.length < 100000) (h : f_9 v1 v2 s = some (r, s')) : ∃ x', zgrow x x' ∧ zgo k d 9 (0, [(0, .ref 0), (1, .int (Int32.ofInt v1)), (2, .int (Int32.ofInt v2)), (3, .ref 205)], []) (hp s ++ x) (.inl (some (.int (Int32.ofInt r))), hp s' ++ x') := by
  unfold f_9 at h
  have hM := xM_9 k.1
  obtain ⟨r2, s3, h1, h⟩ := zb_some h
  have hwh1 := w_40 (k := k) (d := d - 1) (by omega) hxl h1
  rcases r2 with v4 | c5
  · simp only [ze_l] at h
    refine ⟨x, Or.inl rfl, ?_⟩
    refine g_aload_n 1 hM rfl rfl rfl ?_
    refine g_iconst 2 hM rfl rfl ?_
    refine g_aload_n 3 hM rfl rfl rfl ?_
    refine g_iload_n 4 hM rfl rfl rfl ?_
    refine g_iload_n 5 hM rfl rfl rfl ?_
    refine g_call 8 _ [.int (Int32.ofInt v4), .int (Int32.ofInt 0), .ref 205] hM rfl rfl rfl rfl rfl (xM_40 _) rfl (z_rcv2 rfl) rfl rfl (by omega) hwh1 rfl ?_
    obtain ⟨hg6, h⟩ := zg_some h
    by_cases hc7 : v4 = 0
    · rw [if_pos hc7] at h
      refine g_if_eq_t 15 hM rfl rfl hg6 hc7 ?_
      refine g_lconst 16 (0#64) hM rfl rfl rfl ?_
      refine g_lastore 17 hM rfl rfl rfl rfl ⟨by decide, by decide⟩ ?_
      refine g_goto 28 hM rfl rfl ?_
      refine g_iconst 29 hM rfl rfl ?_
      cases h
      exact g_ret hM rfl rfl
    · rw [if_neg hc7] at h
      refine g_if_eq_f 11 15 hM rfl rfl rfl hg6 hc7 ?_
      refine g_lconst 12 (1#64) hM rfl rfl rfl ?_
      refine g_goto 16 hM rfl rfl ?_
      refine g_lastore 17 hM rfl rfl rfl rfl ⟨by decide, by decide⟩ ?_
      refine g_goto 28 hM rfl rfl ?_
      refine g_iconst 29 hM rfl rfl ?_
      cases h
      exact g_ret hM rfl rfl
  · simp only [ze_r] at h
    refine ⟨x ++ [.inr (c5, am_six)], Or.inr ⟨_, rfl⟩, ?_⟩
    refine g_aload_n 1 hM rfl rfl rfl ?_
    refine g_iconst 2 hM rfl rfl ?_
    refine g_aload_n 3 hM rfl rfl rfl ?_
    refine g_iload_n 4 hM rfl rfl rfl ?_
    refine g_iload_n 5 hM rfl rfl rfl ?_
    by_cases hc8 : c5 = 10
    · rw [if_pos hc8] at h
      subst hc8
      refine g_callx (h := 20) _ hM rfl rfl rfl rfl rfl (xM_40 _) rfl (z_rcv2 rfl) rfl (by omega) hwh1 (z_atx hxl) rfl ?_
      refine g_astore 22 hM rfl rfl rfl ?_
      refine g_iconst 23 hM rfl rfl ?_
      cases h
      exact g_ret hM rfl rfl
    · rw [if_neg hc8] at h
      by_cases hc9 : c5 = 11
      · rw [if_pos hc9] at h
        subst hc9
        refine g_callx (h := 24) _ hM rfl rfl rfl rfl rfl (xM_40 _) rfl (z_rcv2 rfl) rfl (by omega) hwh1 (z_atx hxl) rfl ?_
        refine g_astore 26 hM rfl rfl rfl ?_
        refine g_iconst 27 hM rfl rfl ?_
        cases h
        exact g_ret hM rfl rfl
      · rw [if_neg hc9] at h
        cases h
def G_41_27 (k : zK) (d : Nat) (x : am_H) (r : am_A × am_H) (e : (Int × Int × zS)) : Prop := zgo k d 41 (27, [(0, .ref 0), (1, .int (Int32.ofInt e.1)), (2, .int (Int32.ofInt e.2.1))], []) (hp e.2.2 ++ x) r
def K_41_27 (k : zK) (d : Nat) (x : am_H) (r : am_A × am_H) (t : (Int × zS)) : Prop := zgo k d 41 (61, [(0, .ref 0), (1, .int (Int32.ofInt t.1))], []) (hp t.2 ++ x) r
def b_41_27 (v1 : Int) (v2 : Int) (s : zS) : Option ((Int × Int × zS) ⊕ (Int × zS)) := zg (zR v2) (if v2 < (gI s 0 10) then (zb (f_25 0 (zand v1 (zxor (1 * 2 ^ zsh v2) (-1))) s) (fun r4 s5 => zg (zR r4) (if r4 = (-1) then (some (.inl ((zand v1 (zxor (1 * 2 ^ zsh v2) (-1))), (v2 + 1), s5))) else (some (.inl (v1, (v2 + 1), s5)))))) else (some (.inr (v1, s))))
theorem wb_41_27 {k : zK} {d : Nat} {x : am_H} {r : am_A × am_H} {v1 : Int} {v2 : Int} {s : zS} {q : (Int × Int × zS) ⊕ (Int × zS)} (hd : 100 ≤ d) (h : b_41_27 v1 v2 s = some q) (hK : Sum.elim (G_41_27 k d x r) (K_41_27 k d x r) q) : G_41_27 k d x r (v1, v2, s) := by
  unfold b_41_27 at h
  have hM := xM_41 k.1
  show zgo k d 41 (27, [(0, .ref 0), (1, .int (Int32.ofInt v1)), (2, .int (Int32.ofInt v2))], []) (hp s ++ x) r
  refine g_iload_n 28 hM rfl rfl rfl ?_
  refine g_aload_n 29 hM rfl rfl rfl ?_
  refine g_getI 32 10 (gI s 0 10) hM rfl rfl rfl rfl rfl rfl rfl ?_
  obtain ⟨hg1, h⟩ := zg_some h
  by_cases hc2 : v2 < (gI s 0 10)
  · rw [if_pos hc2] at h
    refine g_ic_ge_f 35 61 hM rfl rfl rfl hg1 (zR_gI _ _ _) hc2 ?_
    refine g_iload_n 36 hM rfl rfl rfl ?_
    refine g_iconst 37 hM rfl rfl ?_
    refine g_iload_n 38 hM rfl rfl rfl ?_
    refine g_ishl 39 hM rfl rfl ?_
    refine g_iconst 40 hM rfl rfl ?_
    refine g_ixor 41 hM rfl rfl ?_
    refine g_iand 42 hM rfl rfl ?_
    refine g_istore_n 43 hM rfl rfl rfl ?_
    refine g_aload_n 44 hM rfl rfl rfl ?_
    refine g_iconst 45 hM rfl rfl ?_
    refine g_iload_n 46 hM rfl rfl rfl ?_
    obtain ⟨r4, s5, h3, h⟩ := zb_some h
    refine g_call 49 _ [.int (Int32.ofInt r4)] hM rfl rfl rfl rfl rfl (xM_25 _) rfl (z_rcv2 rfl) rfl rfl (by omega) (w_25 (by omega) h3) rfl ?_
    refine g_iconst 50 hM rfl rfl ?_
    obtain ⟨hg6, h⟩ := zg_some h
    by_cases hc7 : r4 = (-1)
    · rw [if_pos hc7] at h
      refine g_ic_ne_f 53 55 hM rfl rfl rfl hg6 (zR_lit rfl) hc7 ?_
      refine g_iload_n 54 hM rfl rfl rfl ?_
      refine g_istore_n 55 hM rfl rfl rfl ?_
      refine g_iinc 58 hM rfl rfl rfl rfl ?_
      refine g_goto 27 hM rfl rfl ?_
      cases h
      exact g_lv [(0, .ref 0), (1, .int (Int32.ofInt (zand v1 (zxor (1 * 2 ^ zsh v2) (-1))))), (2, .int (Int32.ofInt (v2 + 1)))] rfl ⟨rfl, rfl, rfl, trivial⟩ hK
    · rw [if_neg hc7] at h
      refine g_ic_ne_t 55 hM rfl rfl hg6 (zR_lit rfl) hc7 ?_
      refine g_iinc 58 hM rfl rfl rfl rfl ?_
      refine g_goto 27 hM rfl rfl ?_
      cases h
      exact g_lv [(0, .ref 0), (1, .int (Int32.ofInt v1)), (2, .int (Int32.ofInt (v2 + 1)))] rfl ⟨rfl, rfl, rfl, trivial⟩ hK
  · rw [if_neg hc2] at h
    refine g_ic_ge_t 61 hM rfl rfl hg1 (zR_gI _ _ _) hc2 ?_
    cases h
    exact g_lv [(0, .ref 0), (1, .int (Int32.ofInt v1))] rfl ⟨rfl, rfl, trivial⟩ hK
theorem wl_41_27 {k : zK} {d : Nat} {x : am_H} {r : am_A × am_H} {n : Nat} {e : (Int × Int × zS)} {t : (Int × zS)} (hd : 100 ≤ d) (h : zlp (fun (q : Int × Int × zS) => b_41_27 q.1 q.2.1 q.2.2) n e = some t) (hK : K_41_27 k d x r t) : G_41_27 k d x r e := zlp_go (G := fun e => G_41_27 k d x r e) (K := K_41_27 k d x r) (fun e e1 h1 hg => wb_41_27 (q := .inl e1) hd h1 hg) (fun e t1 h1 hk => wb_41_27 (q := .inr t1) hd h1 hk) n e t h hK
/-- RelationFinder.core()I -/
def f_41 (s : zS) : Option ((Int ⊕ Nat) × zS) := zo (f_24 s) (fun r2 => zb (f_25 0 r2 s) (fun r4 s5 => zg (zR r4) (if r4 = (-1) then (zo (zlp (fun (q : Int × Int × zS) => b_41_27 q.1 q.2.1 q.2.2) zF (r2, 0, s5)) (fun e8 => zo (f_269 e8.1) (fun r11 => some ((Sum.inl r11), (sI e8.2 0 13 e8.1))))) else (some (Sum.inr 11, s5)))))
theorem w_41 {k : zK} {d : Nat} {x : am_H} {s : zS} {q : ((Int ⊕ Nat) × zS)} (hd : 100 ≤ d) (hxl : x.length < 100000) (h : f_41 s = some q) : zgo k d 41 (0, [(0, .ref 0)], []) (hp s ++ x) (zires q.1 x, hp q.2 ++ zext q.1 x) := by
  unfold f_41 at h
  have hM := xM_41 k.1
  refine g_aload_n 1 hM rfl rfl rfl ?_
  obtain ⟨r2, h1, h⟩ := zo_some h
  refine g_call 4 _ [.int (Int32.ofInt r2)] hM rfl rfl rfl rfl rfl (xM_24 _) rfl (z_rcv2 rfl) rfl rfl (by omega) (w_24 (by omega) h1) rfl ?_
  refine g_istore_n 5 hM rfl rfl rfl ?_
  refine g_aload_n 6 hM rfl rfl rfl ?_
  refine g_iconst 7 hM rfl rfl ?_
  refine g_iload_n 8 hM rfl rfl rfl ?_
  obtain ⟨r4, s5, h3, h⟩ := zb_some h
  refine g_call 11 _ [.int (Int32.ofInt r4)] hM rfl rfl rfl rfl rfl (xM_25 _) rfl (z_rcv2 rfl) rfl rfl (by omega) (w_25 (by omega) h3) rfl ?_
  refine g_iconst 12 hM rfl rfl ?_
  obtain ⟨hg6, h⟩ := zg_some h
  by_cases hc7 : r4 = (-1)
  · rw [if_pos hc7] at h
    refine g_ic_eq_t 25 hM rfl rfl hg6 (zR_lit rfl) hc7 ?_
    refine g_iconst 26 hM rfl rfl ?_
    refine g_istore_n 27 hM rfl rfl rfl ?_
    obtain ⟨e8, h9, h⟩ := zo_some h
    refine g_lv [(0, .ref 0), (1, .int (Int32.ofInt r2)), (2, .int (Int32.ofInt 0))] rfl ⟨rfl, rfl, rfl, trivial⟩ ?_
    refine wl_41_27 (by omega) h9 ?_
    show zgo k d 41 (61, [(0, .ref 0), (1, .int (Int32.ofInt e8.1))], []) (hp e8.2 ++ x) (zires q.1 x, hp q.2 ++ zext q.1 x)
    refine g_aload_n 62 hM rfl rfl rfl ?_
    refine g_iload_n 63 hM rfl rfl rfl ?_
    refine g_putI 66 13 hM rfl rfl rfl rfl rfl rfl rfl ?_
    refine g_iload_n 67 hM rfl rfl rfl ?_
    obtain ⟨r11, h10, h⟩ := zo_some h
    refine g_call 70 _ [.int (Int32.ofInt r11)] hM rfl rfl rfl rfl rfl (xM_269 _) rfl rfl rfl rfl (by omega) (w_269 (by omega) h10) rfl ?_
    cases h
    exact g_ret hM rfl rfl
  · rw [if_neg hc7] at h
    refine g_ic_eq_f 15 25 hM rfl rfl rfl hg6 (zR_lit rfl) hc7 ?_
    cases h
    exact g_throw hM rfl rfl rfl hxl (by omega) rfl
/-- RelationFinderLaw.core(LRelationFinder;[J)I -/
def f_10 (s : zS) : Option (Int × zS) := zb (f_41 s) (fun r2 s3 => Sum.elim (fun v4 => zg (zR v4) (some (0, (sJ s3 205 0 (BitVec.ofInt 64 v4))))) (fun c5 => if c5 = 11 then (some (1, s3)) else (none)) r2)
theorem w_10 {k : zK} {d : Nat} {x : am_H} {s s' : zS} {r : Int} (hd : 101 ≤ d) (hxl : x.length < 100000) (h : f_10 s = some (r, s')) : ∃ x', zgrow x x' ∧ zgo k d 10 (0, [(0, .ref 0), (1, .ref 205)], []) (hp s ++ x) (.inl (some (.int (Int32.ofInt r))), hp s' ++ x') := by
  unfold f_10 at h
  have hM := xM_10 k.1
  obtain ⟨r2, s3, h1, h⟩ := zb_some h
  have hwh1 := w_41 (k := k) (d := d - 1) (by omega) hxl h1
  rcases r2 with v4 | c5
  · simp only [ze_l] at h
    refine ⟨x, Or.inl rfl, ?_⟩
    refine g_aload_n 1 hM rfl rfl rfl ?_
    refine g_iconst 2 hM rfl rfl ?_
    refine g_aload_n 3 hM rfl rfl rfl ?_
    refine g_call 6 _ [.int (Int32.ofInt v4), .int (Int32.ofInt 0), .ref 205] hM rfl rfl rfl rfl rfl (xM_41 _) rfl (z_rcv2 rfl) rfl rfl (by omega) hwh1 rfl ?_
    obtain ⟨hg6, h⟩ := zg_some h
    refine g_i2l 7 hM rfl rfl hg6 ?_
    refine g_lastore 8 hM rfl rfl rfl rfl ⟨by decide, by decide⟩ ?_
    refine g_goto 14 hM rfl rfl ?_
    refine g_iconst 15 hM rfl rfl ?_
    cases h
    exact g_ret hM rfl rfl
  · simp only [ze_r] at h
    refine ⟨x ++ [.inr (c5, am_six)], Or.inr ⟨_, rfl⟩, ?_⟩
    refine g_aload_n 1 hM rfl rfl rfl ?_
    refine g_iconst 2 hM rfl rfl ?_
    refine g_aload_n 3 hM rfl rfl rfl ?_
    by_cases hc7 : c5 = 11
    · rw [if_pos hc7] at h
      subst hc7
      refine g_callx (h := 11) _ hM rfl rfl rfl rfl rfl (xM_41 _) rfl (z_rcv2 rfl) rfl (by omega) hwh1 (z_atx hxl) rfl ?_
      refine g_astore_n 12 hM rfl rfl rfl ?_
      refine g_iconst 13 hM rfl rfl ?_
      cases h
      exact g_ret hM rfl rfl
    · rw [if_neg hc7] at h
      cases h
/-- RelationFinder.isInCore(I)Z -/
def f_42 (v1 : Int) (s : zS) : Option ((Int ⊕ Nat) × zS) := zg (zR v1) (if v1 < 0 then (some (Sum.inr 10, s)) else (if v1 < (gI s 0 10) then (zg (0 ≤ (gI s 0 13) ∧ zR (gI s 0 13)) (if (zand ((gI s 0 13) / 2 ^ zsh v1) 1) = 0 then (some ((Sum.inl 0), s)) else (some ((Sum.inl 1), s)))) else (some (Sum.inr 10, s))))
theorem w_42 {k : zK} {d : Nat} {x : am_H} {v1 : Int} {s : zS} {q : ((Int ⊕ Nat) × zS)} (hd : 8 ≤ d) (hxl : x.length < 100000) (h : f_42 v1 s = some q) : zgo k d 42 (0, [(0, .ref 0), (1, .int (Int32.ofInt v1))], []) (hp s ++ x) (zires q.1 x, hp q.2 ++ zext q.1 x) := by
  unfold f_42 at h
  have hM := xM_42 k.1
  refine g_iload_n 1 hM rfl rfl rfl ?_
  obtain ⟨hg1, h⟩ := zg_some h
  by_cases hc2 : v1 < 0
  · rw [if_pos hc2] at h
    refine g_if_lt_t 12 hM rfl rfl hg1 hc2 ?_
    cases h
    exact g_throw hM rfl rfl rfl hxl (by omega) rfl
  · rw [if_neg hc2] at h
    refine g_if_lt_f 4 12 hM rfl rfl rfl hg1 hc2 ?_
    refine g_iload_n 5 hM rfl rfl rfl ?_
    refine g_aload_n 6 hM rfl rfl rfl ?_
    refine g_getI 9 10 (gI s 0 10) hM rfl rfl rfl rfl rfl rfl rfl ?_
    by_cases hc3 : v1 < (gI s 0 10)
    · rw [if_pos hc3] at h
      refine g_ic_lt_t 22 hM rfl rfl hg1 (zR_gI _ _ _) hc3 ?_
      refine g_aload_n 23 hM rfl rfl rfl ?_
      refine g_getI 26 13 (gI s 0 13) hM rfl rfl rfl rfl rfl rfl rfl ?_
      refine g_iload_n 27 hM rfl rfl rfl ?_
      obtain ⟨hg4, h⟩ := zg_some h
      refine g_iushr 28 hM rfl rfl hg4 ?_
      refine g_iconst 29 hM rfl rfl ?_
      refine g_iand 30 hM rfl rfl ?_
      by_cases hc5 : (zand ((gI s 0 13) / 2 ^ zsh v1) 1) = 0
      · rw [if_pos hc5] at h
        refine g_if_eq_t 37 hM rfl rfl (zR_and _ _) hc5 ?_
        refine g_iconst 38 hM rfl rfl ?_
        cases h
        exact g_ret hM rfl rfl
      · rw [if_neg hc5] at h
        refine g_if_eq_f 33 37 hM rfl rfl rfl (zR_and _ _) hc5 ?_
        refine g_iconst 34 hM rfl rfl ?_
        refine g_goto 38 hM rfl rfl ?_
        cases h
        exact g_ret hM rfl rfl
    · rw [if_neg hc3] at h
      refine g_ic_lt_f 12 22 hM rfl rfl rfl hg1 (zR_gI _ _ _) hc3 ?_
      cases h
      exact g_throw hM rfl rfl rfl hxl (by omega) rfl
/-- RelationFinderLaw.isInCore(LRelationFinder;I[J)I -/
def f_11 (v1 : Int) (s : zS) : Option (Int × zS) := zb (f_42 v1 s) (fun r2 s3 => Sum.elim (fun v4 => zg (zR v4) (if v4 = 0 then (some (0, (sJ s3 205 0 (0#64)))) else (some (0, (sJ s3 205 0 (1#64)))))) (fun c5 => if c5 = 10 then (some (1, s3)) else (none)) r2)
theorem w_11 {k : zK} {d : Nat} {x : am_H} {v1 : Int} {s s' : zS} {r : Int} (hd : 9 ≤ d) (hxl : x.length < 100000) (h : f_11 v1 s = some (r, s')) : ∃ x', zgrow x x' ∧ zgo k d 11 (0, [(0, .ref 0), (1, .int (Int32.ofInt v1)), (2, .ref 205)], []) (hp s ++ x) (.inl (some (.int (Int32.ofInt r))), hp s' ++ x') := by
  unfold f_11 at h
  have hM := xM_11 k.1
  obtain ⟨r2, s3, h1, h⟩ := zb_some h
  have hwh1 := w_42 (k := k) (d := d - 1) (by omega) hxl h1
  rcases r2 with v4 | c5
  · simp only [ze_l] at h
    refine ⟨x, Or.inl rfl, ?_⟩
    refine g_aload_n 1 hM rfl rfl rfl ?_
    refine g_iconst 2 hM rfl rfl ?_
    refine g_aload_n 3 hM rfl rfl rfl ?_
    refine g_iload_n 4 hM rfl rfl rfl ?_
    refine g_call 7 _ [.int (Int32.ofInt v4), .int (Int32.ofInt 0), .ref 205] hM rfl rfl rfl rfl rfl (xM_42 _) rfl (z_rcv2 rfl) rfl rfl (by omega) hwh1 rfl ?_
    obtain ⟨hg6, h⟩ := zg_some h
    by_cases hc7 : v4 = 0
    · rw [if_pos hc7] at h
      refine g_if_eq_t 14 hM rfl rfl hg6 hc7 ?_
      refine g_lconst 15 (0#64) hM rfl rfl rfl ?_
      refine g_lastore 16 hM rfl rfl rfl rfl ⟨by decide, by decide⟩ ?_
      refine g_goto 22 hM rfl rfl ?_
      refine g_iconst 23 hM rfl rfl ?_
      cases h
      exact g_ret hM rfl rfl
    · rw [if_neg hc7] at h
      refine g_if_eq_f 10 14 hM rfl rfl rfl hg6 hc7 ?_
      refine g_lconst 11 (1#64) hM rfl rfl rfl ?_
      refine g_goto 15 hM rfl rfl ?_
      refine g_lastore 16 hM rfl rfl rfl rfl ⟨by decide, by decide⟩ ?_
      refine g_goto 22 hM rfl rfl ?_
      refine g_iconst 23 hM rfl rfl ?_
      cases h
      exact g_ret hM rfl rfl
  · simp only [ze_r] at h
    refine ⟨x ++ [.inr (c5, am_six)], Or.inr ⟨_, rfl⟩, ?_⟩
    refine g_aload_n 1 hM rfl rfl rfl ?_
    refine g_iconst 2 hM rfl rfl ?_
    refine g_aload_n 3 hM rfl rfl rfl ?_
    refine g_iload_n 4 hM rfl rfl rfl ?_
    by_cases hc8 : c5 = 10
    · rw [if_pos hc8] at h
      subst hc8
      refine g_callx (h := 19) _ hM rfl rfl rfl rfl rfl (xM_42 _) rfl (z_rcv2 rfl) rfl (by omega) hwh1 (z_atx hxl) rfl ?_
      refine g_astore_n 20 hM rfl rfl rfl ?_
      refine g_iconst 21 hM rfl rfl ?_
      cases h
      exact g_ret hM rfl rfl
    · rw [if_neg hc8] at h
      cases h
/-- RelationFinder.workInPresent()V -/
def f_44 (s : zS) : Option (Unit × zS) := zg (0 ≤ (gI s 0 12) ∧ zR (gI s 0 12) ∧ (0 : Int) < 64 ∧ zR 64) (zg (zR ((gI s 0 12) % 64)) (zb (f_102 (gP s 0 6) ((gI s 0 12) / 64) ((1#64) <<< zshl ((gI s 0 12) % 64)) s) (fun r4 s5 => some ((), s5))))
theorem w_44 {k : zK} {d : Nat} {x : am_H} {s : zS} {q : (Unit × zS)} (hd : 98 ≤ d) (h : f_44 s = some q) : zgo k d 44 (0, [(0, .ref 0)], []) (hp s ++ x) (.inl (none), hp q.2 ++ x) := by
  unfold f_44 at h
  have hM := xM_44 k.1
  refine g_aload_n 1 hM rfl rfl rfl ?_
  refine g_getF 4 hM rfl rfl rfl rfl rfl ?_
  refine g_aload_n 5 hM rfl rfl rfl ?_
  refine g_getP 8 6 (gP s 0 6) hM rfl rfl rfl rfl rfl rfl rfl ?_
  refine g_aload_n 9 hM rfl rfl rfl ?_
  refine g_getI 12 12 (gI s 0 12) hM rfl rfl rfl rfl rfl rfl rfl ?_
  refine g_bipush 14 hM rfl rfl rfl ?_
  obtain ⟨hg1, h⟩ := zg_some h
  refine g_idiv 15 hM rfl rfl hg1 ?_
  refine g_lconst 16 (1#64) hM rfl rfl rfl ?_
  refine g_aload_n 17 hM rfl rfl rfl ?_
  refine g_getI 20 12 (gI s 0 12) hM rfl rfl rfl rfl rfl rfl rfl ?_
  refine g_bipush 22 hM rfl rfl rfl ?_
  refine g_irem 23 hM rfl rfl hg1 ?_
  obtain ⟨hg2, h⟩ := zg_some h
  refine g_lshl 24 hM rfl rfl hg2 ?_
  obtain ⟨r4, s5, h3, h⟩ := zb_some h
  refine g_call 27 _ [] hM rfl rfl rfl rfl rfl (xM_102 _) rfl (z_rcv2 rfl) rfl rfl (by omega) (w_102 (by omega) h3) rfl ?_
  cases h
  exact g_ret hM rfl rfl
