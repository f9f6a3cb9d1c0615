/-! THE PURE LAYER: methods as functions, and runs that do what they say (6). By program. -/
def G_26_11 (k : zK) (d : Nat) (x : am_H) (r : am_A × am_H) (v1 : Int) (v2 : Int) (e : (BitVec 64 × Int × zS)) : Prop := zgo k d 26 (11, [(0, .ref 0), (1, .int (Int32.ofInt v1)), (2, .int (Int32.ofInt v2)), (3, .long (Int64.ofBitVec e.1)), (5, .int (Int32.ofInt e.2.1))], []) (hp e.2.2 ++ x) r
def K_26_11 (k : zK) (d : Nat) (x : am_H) (r : am_A × am_H) (v1 : Int) (v2 : Int) (t : (BitVec 64 × zS)) : Prop := zgo k d 26 (149, [(3, .long (Int64.ofBitVec t.1))], []) (hp t.2 ++ x) r
def G_51_2 (k : zK) (d : Nat) (x : am_H) (r : am_A × am_H) (v1 : Int) (e : (Int × zS)) : Prop := zgo k d 51 (2, [(0, .ref 1), (1, .int (Int32.ofInt v1)), (2, .int (Int32.ofInt e.1))], []) (hp e.2 ++ x) r
def K_51_2 (k : zK) (d : Nat) (x : am_H) (r : am_A × am_H) (v1 : Int) (t : (zS)) : Prop := zgo k d 51 (79, [], []) (hp t ++ x) r
def b_51_2 (v1 : Int) (v2 : Int) (s : zS) : Option ((Int × zS) ⊕ (zS)) := zg (zR v2) (if v2 < (gI s 1 8) then (zg (zR (((gI s 1 8) - 1) - v2)) (if (((gI s 1 8) - 1) - v2) < 6 then (zg (0 ≤ v2 ∧ v2 < 12) (zg (0 ≤ (((gI s 1 8) - 1) - v2) ∧ (((gI s 1 8) - 1) - v2) < 6) (zg (0 ≤ (gI s 7 v2) ∧ (gI s 7 v2) < 1000) (some (.inl ((v2 + 1), (sJ s 6 (gI s 7 v2) (zstp (((gI s 1 8) - 1) - v2))))))))) else (zg (0 ≤ v2 ∧ v2 < 12) (zg (0 ≤ v1 ∧ zR v1) (if (zand (v1 / 2 ^ zsh ((((gI s 1 8) - 1) - v2) - 6)) 1) = 0 then (zg (0 ≤ (gI s 7 v2) ∧ (gI s 7 v2) < 1000) (some (.inl ((v2 + 1), (sJ s 6 (gI s 7 v2) (0#64)))))) else (zg (0 ≤ (gI s 7 v2) ∧ (gI s 7 v2) < 1000) (some (.inl ((v2 + 1), (sJ s 6 (gI s 7 v2) (18446744073709551615#64))))))))))) else (some (.inr s)))
theorem wb_51_2 {k : zK} {d : Nat} {x : am_H} {r : am_A × am_H} {v1 : Int} {v2 : Int} {s : zS} {q : (Int × zS) ⊕ (zS)} (hd : 0 ≤ d) (h : b_51_2 v1 v2 s = some q) (hK : Sum.elim (G_51_2 k d x r v1) (K_51_2 k d x r v1) q) : G_51_2 k d x r v1 (v2, s) := by
  unfold b_51_2 at h
  have hM := xM_51 k.1
  show zgo k d 51 (2, [(0, .ref 1), (1, .int (Int32.ofInt v1)), (2, .int (Int32.ofInt v2))], []) (hp s ++ x) r
  refine g_iload_n 3 hM rfl rfl rfl ?_
  refine g_aload_n 4 hM rfl rfl rfl ?_
  refine g_getI 7 8 (gI s 1 8) hM rfl rfl rfl rfl rfl rfl rfl ?_
  obtain ⟨hg1, h⟩ := zg_some h
  by_cases hc2 : v2 < (gI s 1 8)
  · rw [if_pos hc2] at h
    refine g_ic_ge_f 10 79 hM rfl rfl rfl hg1 (zR_gI _ _ _) hc2 ?_
    refine g_aload_n 11 hM rfl rfl rfl ?_
    refine g_getI 14 8 (gI s 1 8) hM rfl rfl rfl rfl rfl rfl rfl ?_
    refine g_iconst 15 hM rfl rfl ?_
    refine g_isub 16 hM rfl rfl ?_
    refine g_iload_n 17 hM rfl rfl rfl ?_
    refine g_isub 18 hM rfl rfl ?_
    refine g_istore_n 19 hM rfl rfl rfl ?_
    refine g_iload_n 20 hM rfl rfl rfl ?_
    refine g_bipush 22 hM rfl rfl rfl ?_
    obtain ⟨hg3, h⟩ := zg_some h
    by_cases hc4 : (((gI s 1 8) - 1) - v2) < 6
    · rw [if_pos hc4] at h
      refine g_ic_ge_f 25 44 hM rfl rfl rfl hg3 (zR_lit rfl) hc4 ?_
      refine g_aload_n 26 hM rfl rfl rfl ?_
      refine g_getF 29 hM rfl rfl rfl rfl rfl ?_
      refine g_aload_n 30 hM rfl rfl rfl ?_
      refine g_getF 33 hM rfl rfl rfl rfl rfl ?_
      refine g_iload_n 34 hM rfl rfl rfl ?_
      obtain ⟨hg5, h⟩ := zg_some h
      refine g_iaload 35 (gI s 7 v2) hM rfl rfl rfl rfl hg5 rfl ?_
      refine g_getstatic 38 hM rfl rfl rfl ?_
      refine g_iload_n 39 hM rfl rfl rfl ?_
      obtain ⟨hg6, h⟩ := zg_some h
      refine g_klaload2 40 hM rfl rfl hg6 ?_
      obtain ⟨hg7, h⟩ := zg_some h
      refine g_lastore 41 hM rfl rfl rfl rfl hg7 ?_
      refine g_goto 73 hM rfl rfl ?_
      refine g_iinc 76 hM rfl rfl rfl rfl ?_
      refine g_goto 2 hM rfl rfl ?_
      cases h
      exact g_lv [(0, .ref 1), (1, .int (Int32.ofInt v1)), (2, .int (Int32.ofInt (v2 + 1)))] rfl ⟨rfl, rfl, rfl, trivial⟩ hK
    · rw [if_neg hc4] at h
      refine g_ic_ge_t 44 hM rfl rfl hg3 (zR_lit rfl) hc4 ?_
      refine g_aload_n 45 hM rfl rfl rfl ?_
      refine g_getF 48 hM rfl rfl rfl rfl rfl ?_
      refine g_aload_n 49 hM rfl rfl rfl ?_
      refine g_getF 52 hM rfl rfl rfl rfl rfl ?_
      refine g_iload_n 53 hM rfl rfl rfl ?_
      obtain ⟨hg8, h⟩ := zg_some h
      refine g_iaload 54 (gI s 7 v2) hM rfl rfl rfl rfl hg8 rfl ?_
      refine g_iload_n 55 hM rfl rfl rfl ?_
      refine g_iload_n 56 hM rfl rfl rfl ?_
      refine g_bipush 58 hM rfl rfl rfl ?_
      refine g_isub 59 hM rfl rfl ?_
      obtain ⟨hg9, h⟩ := zg_some h
      refine g_iushr 60 hM rfl rfl hg9 ?_
      refine g_iconst 61 hM rfl rfl ?_
      refine g_iand 62 hM rfl rfl ?_
      by_cases hc10 : (zand (v1 / 2 ^ zsh ((((gI s 1 8) - 1) - v2) - 6)) 1) = 0
      · rw [if_pos hc10] at h
        refine g_if_eq_t 71 hM rfl rfl (zR_and _ _) hc10 ?_
        refine g_lconst 72 (0#64) hM rfl rfl rfl ?_
        obtain ⟨hg11, h⟩ := zg_some h
        refine g_lastore 73 hM rfl rfl rfl rfl hg11 ?_
        refine g_iinc 76 hM rfl rfl rfl rfl ?_
        refine g_goto 2 hM rfl rfl ?_
        cases h
        exact g_lv [(0, .ref 1), (1, .int (Int32.ofInt v1)), (2, .int (Int32.ofInt (v2 + 1)))] rfl ⟨rfl, rfl, rfl, trivial⟩ hK
      · rw [if_neg hc10] at h
        refine g_if_eq_f 65 71 hM rfl rfl rfl (zR_and _ _) hc10 ?_
        refine g_ldc2 68 (18446744073709551615#64) hM rfl rfl rfl (by decide) ?_
        refine g_goto 72 hM rfl rfl ?_
        obtain ⟨hg12, h⟩ := zg_some h
        refine g_lastore 73 hM rfl rfl rfl rfl hg12 ?_
        refine g_iinc 76 hM rfl rfl rfl rfl ?_
        refine g_goto 2 hM rfl rfl ?_
        cases h
        exact g_lv [(0, .ref 1), (1, .int (Int32.ofInt v1)), (2, .int (Int32.ofInt (v2 + 1)))] rfl ⟨rfl, rfl, rfl, trivial⟩ hK
  · rw [if_neg hc2] at h
    refine g_ic_ge_t 79 hM rfl rfl hg1 (zR_gI _ _ _) hc2 ?_
    cases h
    exact g_lv [] rfl trivial hK
theorem wl_51_2 {k : zK} {d : Nat} {x : am_H} {r : am_A × am_H} {v1 : Int} {n : Nat} {e : (Int × zS)} {t : (zS)} (hd : 0 ≤ d) (h : zlp (fun (q : Int × zS) => b_51_2 v1 q.1 q.2) n e = some t) (hK : K_51_2 k d x r v1 t) : G_51_2 k d x r v1 e := zlp_go (G := fun e => G_51_2 k d x r v1 e) (K := K_51_2 k d x r v1) (fun e e1 h1 hg => wb_51_2 (q := .inl e1) hd h1 hg) (fun e t1 h1 hk => wb_51_2 (q := .inr t1) hd h1 hk) n e t h hK
/-- RelationFinder$World.show(I)V -/
def f_51 (v1 : Int) (s : zS) : Option (Unit × zS) := zo (zlp (fun (q : Int × zS) => b_51_2 v1 q.1 q.2) zF (0, s)) (fun e1 => some ((), e1))
theorem w_51 {k : zK} {d : Nat} {x : am_H} {v1 : Int} {s : zS} {q : (Unit × zS)} (hd : 0 ≤ d) (h : f_51 v1 s = some q) : zgo k d 51 (0, [(0, .ref 1), (1, .int (Int32.ofInt v1))], []) (hp s ++ x) (.inl (none), hp q.2 ++ x) := by
  unfold f_51 at h
  have hM := xM_51 k.1
  refine g_iconst 1 hM rfl rfl ?_
  refine g_istore_n 2 hM rfl rfl rfl ?_
  obtain ⟨e1, h2, h⟩ := zo_some h
  refine g_lv [(0, .ref 1), (1, .int (Int32.ofInt v1)), (2, .int (Int32.ofInt 0))] rfl ⟨rfl, rfl, rfl, trivial⟩ ?_
  refine wl_51_2 (by omega) h2 ?_
  show zgo k d 51 (79, [], []) (hp e1 ++ x) (.inl (none), hp q.2 ++ x)
  cases h
  exact g_ret hM rfl rfl
def G_102_20 (k : zK) (d : Nat) (x : am_H) (r : am_A × am_H) (c1 : Nat) (w3 : BitVec 64) (v5 : Int) (e : (Int × zS)) : Prop := zgo k d 102 (20, [(0, .ref 17), (1, .ref c1), (3, .long (Int64.ofBitVec w3)), (5, .int (Int32.ofInt v5)), (6, .int (Int32.ofInt e.1))], []) (hp e.2 ++ x) r
def K_102_20 (k : zK) (d : Nat) (x : am_H) (r : am_A × am_H) (c1 : Nat) (w3 : BitVec 64) (v5 : Int) (t : (zS)) : Prop := zgo k d 102 (41, [(0, .ref 17), (1, .ref c1), (3, .long (Int64.ofBitVec w3))], []) (hp t ++ x) r
def b_102_20 (c1 : Nat) (w3 : BitVec 64) (v5 : Int) (v6 : Int) (s : zS) : Option ((Int × zS) ⊕ (zS)) := zg (zR v6) (zg (zR v5) (if v6 < v5 then (zg (0 ≤ v6 ∧ v6 < 1000) (some (.inl ((v6 + 1), (sJ s 23 v6 (0#64)))))) else (some (.inr s))))
theorem wb_102_20 {k : zK} {d : Nat} {x : am_H} {r : am_A × am_H} {c1 : Nat} {w3 : BitVec 64} {v5 : Int} {v6 : Int} {s : zS} {q : (Int × zS) ⊕ (zS)} (hd : 97 ≤ d) (h : b_102_20 c1 w3 v5 v6 s = some q) (hK : Sum.elim (G_102_20 k d x r c1 w3 v5) (K_102_20 k d x r c1 w3 v5) q) : G_102_20 k d x r c1 w3 v5 (v6, s) := by
  unfold b_102_20 at h
  have hM := xM_102 k.1
  show zgo k d 102 (20, [(0, .ref 17), (1, .ref c1), (3, .long (Int64.ofBitVec w3)), (5, .int (Int32.ofInt v5)), (6, .int (Int32.ofInt v6))], []) (hp s ++ x) r
  refine g_iload 22 hM rfl rfl rfl ?_
  refine g_iload 24 hM rfl rfl rfl ?_
  obtain ⟨hg1, h⟩ := zg_some h
  obtain ⟨hg2, h⟩ := zg_some h
  by_cases hc3 : v6 < v5
  · rw [if_pos hc3] at h
    refine g_ic_ge_f 27 41 hM rfl rfl rfl hg1 hg2 hc3 ?_
    refine g_aload_n 28 hM rfl rfl rfl ?_
    refine g_getF 31 hM rfl rfl rfl rfl rfl ?_
    refine g_iload 33 hM rfl rfl rfl ?_
    refine g_lconst 34 (0#64) hM rfl rfl rfl ?_
    obtain ⟨hg4, h⟩ := zg_some h
    refine g_lastore 35 hM rfl rfl rfl rfl hg4 ?_
    refine g_iinc 38 hM rfl rfl rfl rfl ?_
    refine g_goto 20 hM rfl rfl ?_
    cases h
    exact g_lv [(0, .ref 17), (1, .ref c1), (3, .long (Int64.ofBitVec w3)), (5, .int (Int32.ofInt v5)), (6, .int (Int32.ofInt (v6 + 1)))] rfl ⟨rfl, rfl, rfl, rfl, rfl, trivial⟩ hK
  · rw [if_neg hc3] at h
    refine g_ic_ge_t 41 hM rfl rfl hg1 hg2 hc3 ?_
    cases h
    exact g_lv [(0, .ref 17), (1, .ref c1), (3, .long (Int64.ofBitVec w3))] rfl ⟨rfl, rfl, rfl, trivial⟩ hK
theorem wl_102_20 {k : zK} {d : Nat} {x : am_H} {r : am_A × am_H} {c1 : Nat} {w3 : BitVec 64} {v5 : Int} {n : Nat} {e : (Int × zS)} {t : (zS)} (hd : 97 ≤ d) (h : zlp (fun (q : Int × zS) => b_102_20 c1 w3 v5 q.1 q.2) n e = some t) (hK : K_102_20 k d x r c1 w3 v5 t) : G_102_20 k d x r c1 w3 v5 e := zlp_go (G := fun e => G_102_20 k d x r c1 w3 v5 e) (K := K_102_20 k d x r c1 w3 v5) (fun e e1 h1 hg => wb_102_20 (q := .inl e1) hd h1 hg) (fun e t1 h1 hk => wb_102_20 (q := .inr t1) hd h1 hk) n e t h hK
def G_103_14 (k : zK) (d : Nat) (x : am_H) (r : am_A × am_H) (c1 : Nat) (v3 : Int) (w4 : BitVec 64) (v6 : Int) (e : (Int × Int × zS)) : Prop := zgo k d 103 (14, [(0, .ref 17), (1, .ref c1), (3, .int (Int32.ofInt v3)), (4, .long (Int64.ofBitVec w4)), (6, .int (Int32.ofInt v6)), (7, .int (Int32.ofInt e.1)), (8, .int (Int32.ofInt e.2.1))], []) (hp e.2.2 ++ x) r
def K_103_14 (k : zK) (d : Nat) (x : am_H) (r : am_A × am_H) (c1 : Nat) (v3 : Int) (w4 : BitVec 64) (v6 : Int) (t : ((zS) ⊕ (Unit × zS))) : Prop := Sum.elim (fun e => zgo k d 103 (129, [], []) (hp e ++ x) r) (fun q => r = (.inl (none), hp q.2 ++ x)) t
def G_105_17 (k : zK) (d : Nat) (x : am_H) (r : am_A × am_H) (c1 : Nat) (v2 : Int) (s : zS) (e : (Int × Int)) : Prop := zgo k d 105 (17, [(0, .ref 17), (1, .ref c1), (2, .int (Int32.ofInt v2)), (3, .int (Int32.ofInt e.1)), (4, .int (Int32.ofInt e.2))], []) (hp s ++ x) r
def K_105_17 (k : zK) (d : Nat) (x : am_H) (r : am_A × am_H) (c1 : Nat) (v2 : Int) (s : zS) (t : (Int)) : Prop := zgo k d 105 (56, [(1, .ref c1), (2, .int (Int32.ofInt v2)), (3, .int (Int32.ofInt t))], []) (hp s ++ x) r
def b_105_17 (c1 : Nat) (v2 : Int) (s : zS) (v3 : Int) (v4 : Int) : Option ((Int × Int) ⊕ (Int)) := zg (zR v4) (if v4 < 20 then (zg (zC c1 = true) (zg (0 ≤ v2 ∧ v2 < 200) (zg (0 ≤ (gI s (c1 + 6) v2) ∧ zR (gI s (c1 + 6) v2)) (if (zand ((gI s (c1 + 6) v2) / 2 ^ zsh v4) 1) = 0 then (some (.inl (v3, (v4 + 1)))) else (zg (0 ≤ v4 ∧ v4 < 20) (some (.inl (((v3 * 5) + (gI s 20 v4)), (v4 + 1))))))))) else (some (.inr v3)))
theorem wb_105_17 {k : zK} {d : Nat} {x : am_H} {r : am_A × am_H} {c1 : Nat} {v2 : Int} {v3 : Int} {v4 : Int} {s : zS} {q : (Int × Int) ⊕ (Int)} (hd : 0 ≤ d) (h : b_105_17 c1 v2 s v3 v4 = some q) (hK : Sum.elim (G_105_17 k d x r c1 v2 s) (K_105_17 k d x r c1 v2 s) q) : G_105_17 k d x r c1 v2 s (v3, v4) := by
  unfold b_105_17 at h
  have hM := xM_105 k.1
  show zgo k d 105 (17, [(0, .ref 17), (1, .ref c1), (2, .int (Int32.ofInt v2)), (3, .int (Int32.ofInt v3)), (4, .int (Int32.ofInt v4))], []) (hp s ++ x) r
  refine g_iload 19 hM rfl rfl rfl ?_
  refine g_bipush 21 hM rfl rfl rfl ?_
  obtain ⟨hg1, h⟩ := zg_some h
  by_cases hc2 : v4 < 20
  · rw [if_pos hc2] at h
    refine g_ic_ge_f 24 56 hM rfl rfl rfl hg1 (zR_lit rfl) hc2 ?_
    refine g_aload_n 25 hM rfl rfl rfl ?_
    obtain ⟨hg3, h⟩ := zg_some h
    refine g_getR 28 hM rfl rfl rfl (zC_obj hg3) rfl ?_
    refine g_iload_n 29 hM rfl rfl rfl ?_
    obtain ⟨hg4, h⟩ := zg_some h
    refine g_iaload 30 (gI s (c1 + 6) v2) hM rfl rfl (zC_a6 hg3) rfl hg4 rfl ?_
    refine g_iload 32 hM rfl rfl rfl ?_
    obtain ⟨hg5, h⟩ := zg_some h
    refine g_iushr 33 hM rfl rfl hg5 ?_
    refine g_iconst 34 hM rfl rfl ?_
    refine g_iand 35 hM rfl rfl ?_
    by_cases hc6 : (zand ((gI s (c1 + 6) v2) / 2 ^ zsh v4) 1) = 0
    · rw [if_pos hc6] at h
      refine g_if_eq_t 50 hM rfl rfl (zR_and _ _) hc6 ?_
      refine g_iinc 53 hM rfl rfl rfl rfl ?_
      refine g_goto 17 hM rfl rfl ?_
      cases h
      exact g_lv [(0, .ref 17), (1, .ref c1), (2, .int (Int32.ofInt v2)), (3, .int (Int32.ofInt v3)), (4, .int (Int32.ofInt (v4 + 1)))] rfl ⟨rfl, rfl, rfl, rfl, rfl, trivial⟩ hK
    · rw [if_neg hc6] at h
      refine g_if_eq_f 38 50 hM rfl rfl rfl (zR_and _ _) hc6 ?_
      refine g_iload_n 39 hM rfl rfl rfl ?_
      refine g_iconst 40 hM rfl rfl ?_
      refine g_imul 41 hM rfl rfl ?_
      refine g_aload_n 42 hM rfl rfl rfl ?_
      refine g_getF 45 hM rfl rfl rfl rfl rfl ?_
      refine g_iload 47 hM rfl rfl rfl ?_
      obtain ⟨hg7, h⟩ := zg_some h
      refine g_iaload 48 (gI s 20 v4) hM rfl rfl rfl rfl hg7 rfl ?_
      refine g_iadd 49 hM rfl rfl ?_
      refine g_istore_n 50 hM rfl rfl rfl ?_
      refine g_iinc 53 hM rfl rfl rfl rfl ?_
      refine g_goto 17 hM rfl rfl ?_
      cases h
      exact g_lv [(0, .ref 17), (1, .ref c1), (2, .int (Int32.ofInt v2)), (3, .int (Int32.ofInt ((v3 * 5) + (gI s 20 v4)))), (4, .int (Int32.ofInt (v4 + 1)))] rfl ⟨rfl, rfl, rfl, rfl, rfl, trivial⟩ hK
  · rw [if_neg hc2] at h
    refine g_ic_ge_t 56 hM rfl rfl hg1 (zR_lit rfl) hc2 ?_
    cases h
    exact g_lv [(1, .ref c1), (2, .int (Int32.ofInt v2)), (3, .int (Int32.ofInt v3))] rfl ⟨rfl, rfl, rfl, trivial⟩ hK
theorem wl_105_17 {k : zK} {d : Nat} {x : am_H} {r : am_A × am_H} {c1 : Nat} {v2 : Int} {s : zS} {n : Nat} {e : (Int × Int)} {t : (Int)} (hd : 0 ≤ d) (h : zlp (fun (q : Int × Int) => b_105_17 c1 v2 s q.1 q.2) n e = some t) (hK : K_105_17 k d x r c1 v2 s t) : G_105_17 k d x r c1 v2 s e := zlp_go (G := fun e => G_105_17 k d x r c1 v2 s e) (K := K_105_17 k d x r c1 v2 s) (fun e e1 h1 hg => wb_105_17 (q := .inl e1) hd h1 hg) (fun e t1 h1 hk => wb_105_17 (q := .inr t1) hd h1 hk) n e t h hK
/-- RelationFinder$Machine.memoPlace(LRelationFinder$Code;I)I -/
def f_105 (c1 : Nat) (v2 : Int) (s : zS) : Option Int := zg (zC c1 = true) (zg (0 ≤ v2 ∧ v2 < 200) (if (gI s (c1 + 7) v2) = (-1) then (some (-1)) else (zo (zlp (fun (q : Int × Int) => b_105_17 c1 v2 s q.1 q.2) zF (0, 0)) (fun e4 => some (((gI s (c1 + 7) v2) * 25) + e4)))))
theorem w_105 {k : zK} {d : Nat} {x : am_H} {c1 : Nat} {v2 : Int} {s : zS} {q : Int} (hd : 0 ≤ d) (h : f_105 c1 v2 s = some q) : zgo k d 105 (0, [(0, .ref 17), (1, .ref c1), (2, .int (Int32.ofInt v2))], []) (hp s ++ x) (.inl (some (.int (Int32.ofInt q))), hp s ++ x) := by
  unfold f_105 at h
  have hM := xM_105 k.1
  refine g_aload_n 1 hM rfl rfl rfl ?_
  obtain ⟨hg1, h⟩ := zg_some h
  refine g_getR 4 hM rfl rfl rfl (zC_obj hg1) rfl ?_
  refine g_iload_n 5 hM rfl rfl rfl ?_
  obtain ⟨hg2, h⟩ := zg_some h
  refine g_iaload 6 (gI s (c1 + 7) v2) hM rfl rfl (zC_a7 hg1) rfl hg2 rfl ?_
  refine g_iconst 7 hM rfl rfl ?_
  by_cases hc3 : (gI s (c1 + 7) v2) = (-1)
  · rw [if_pos hc3] at h
    refine g_ic_ne_f 10 12 hM rfl rfl rfl (zR_gI _ _ _) (zR_lit rfl) hc3 ?_
    refine g_iconst 11 hM rfl rfl ?_
    cases h
    exact g_ret hM rfl rfl
  · rw [if_neg hc3] at h
    refine g_ic_ne_t 12 hM rfl rfl (zR_gI _ _ _) (zR_lit rfl) hc3 ?_
    refine g_iconst 13 hM rfl rfl ?_
    refine g_istore_n 14 hM rfl rfl rfl ?_
    refine g_iconst 15 hM rfl rfl ?_
    refine g_istore 17 hM rfl rfl rfl ?_
    obtain ⟨e4, h5, h⟩ := zo_some h
    refine g_lv [(0, .ref 17), (1, .ref c1), (2, .int (Int32.ofInt v2)), (3, .int (Int32.ofInt 0)), (4, .int (Int32.ofInt 0))] rfl ⟨rfl, rfl, rfl, rfl, rfl, trivial⟩ ?_
    refine wl_105_17 (by omega) h5 ?_
    show zgo k d 105 (56, [(1, .ref c1), (2, .int (Int32.ofInt v2)), (3, .int (Int32.ofInt e4))], []) (hp s ++ x) (.inl (some (.int (Int32.ofInt q))), hp s ++ x)
    refine g_aload_n 57 hM rfl rfl rfl ?_
    refine g_getR 60 hM rfl rfl rfl (zC_obj hg1) rfl ?_
    refine g_iload_n 61 hM rfl rfl rfl ?_
    refine g_iaload 62 (gI s (c1 + 7) v2) hM rfl rfl (zC_a7 hg1) rfl hg2 rfl ?_
    refine g_bipush 64 hM rfl rfl rfl ?_
    refine g_imul 65 hM rfl rfl ?_
    refine g_iload_n 66 hM rfl rfl rfl ?_
    refine g_iadd 67 hM rfl rfl ?_
    cases h
    exact g_ret hM rfl rfl
def G_107_14 (k : zK) (d : Nat) (x : am_H) (r : am_A × am_H) (c1 : Nat) (v2 : Int) (w3 : BitVec 64) (v5 : Int) (v6 : Int) (e : (Int × zS)) : Prop := zgo k d 107 (14, [(0, .ref 17), (1, .ref c1), (2, .int (Int32.ofInt v2)), (3, .long (Int64.ofBitVec w3)), (5, .int (Int32.ofInt v5)), (6, .int (Int32.ofInt v6)), (7, .int (Int32.ofInt e.1))], []) (hp e.2 ++ x) r
def K_107_14 (k : zK) (d : Nat) (x : am_H) (r : am_A × am_H) (c1 : Nat) (v2 : Int) (w3 : BitVec 64) (v5 : Int) (v6 : Int) (t : (zS)) : Prop := zgo k d 107 (104, [], []) (hp t ++ x) r
/-- RelationFinder$Machine.formulaOf(LRelationFinder$Code;IIJI)J -/
def f_108 (rec : Nat → Int → Int → BitVec 64 → Int → zS → Option (Unit × zS)) (c1 : Nat) (v2 : Int) (v3 : Int) (w4 : BitVec 64) (v6 : Int) (s : zS) : Option ((BitVec 64) × zS) := if (gI s 17 3) < 22 then (zb (rec c1 v2 v3 w4 v6 s) (fun r3 s4 => zg (0 ≤ ((gI s 17 3) * 125) ∧ ((gI s 17 3) * 125) < 2750) (some ((gJ s4 18 ((gI s 17 3) * 125)), (sI s4 17 3 (gI s 17 3)))))) else (some ((0#64), s))
theorem w_108 {k : zK} {d : Nat} {x : am_H} {rec : Nat → Int → Int → BitVec 64 → Int → zS → Option (Unit × zS)} {Dr : Nat} {c1 : Nat} {v2 : Int} {v3 : Int} {w4 : BitVec 64} {v6 : Int} {s : zS} {q : ((BitVec 64) × zS)} (hd : Dr + 1 ≤ d) (hrec : zRec k rec Dr) (h : f_108 rec c1 v2 v3 w4 v6 s = some q) : zgo k d 108 (0, [(0, .ref 17), (1, .ref c1), (2, .int (Int32.ofInt v2)), (3, .int (Int32.ofInt v3)), (4, .long (Int64.ofBitVec w4)), (6, .int (Int32.ofInt v6))], []) (hp s ++ x) (.inl (some (.long (Int64.ofBitVec q.1))), hp q.2 ++ x) := by
  unfold f_108 at h
  have hM := xM_108 k.1
  refine g_aload_n 1 hM rfl rfl rfl ?_
  refine g_getI 4 3 (gI s 17 3) hM rfl rfl rfl rfl rfl rfl rfl ?_
  refine g_istore 6 hM rfl rfl rfl ?_
  refine g_iload 8 hM rfl rfl rfl ?_
  refine g_bipush 10 hM rfl rfl rfl ?_
  by_cases hc1 : (gI s 17 3) < 22
  · rw [if_pos hc1] at h
    refine g_ic_lt_t 15 hM rfl rfl (zR_gI _ _ _) (zR_lit rfl) hc1 ?_
    refine g_aload_n 16 hM rfl rfl rfl ?_
    refine g_aload_n 17 hM rfl rfl rfl ?_
    refine g_iload_n 18 hM rfl rfl rfl ?_
    refine g_iload_n 19 hM rfl rfl rfl ?_
    refine g_lload 21 hM rfl rfl rfl ?_
    refine g_iload 23 hM rfl rfl rfl ?_
    obtain ⟨r3, s4, h2, h⟩ := zb_some h
    refine g_call 26 _ [] hM rfl rfl rfl rfl rfl (xM_103 _) rfl (z_rcv2 rfl) rfl rfl (by omega) (hrec _ _ _ _ _ _ _ h2 _ _ (by omega)) rfl ?_
    refine g_aload_n 27 hM rfl rfl rfl ?_
    refine g_iload 29 hM rfl rfl rfl ?_
    refine g_putI 32 3 hM rfl rfl rfl rfl rfl rfl rfl ?_
    refine g_aload_n 33 hM rfl rfl rfl ?_
    refine g_getF 36 hM rfl rfl rfl rfl rfl ?_
    refine g_iload 38 hM rfl rfl rfl ?_
    refine g_bipush 40 hM rfl rfl rfl ?_
    refine g_imul 41 hM rfl rfl ?_
    obtain ⟨hg5, h⟩ := zg_some h
    refine g_laload 42 (gJ s4 18 ((gI s 17 3) * 125)) hM rfl rfl rfl rfl hg5 rfl ?_
    cases h
    exact g_ret hM rfl rfl
  · rw [if_neg hc1] at h
    refine g_ic_lt_f 13 15 hM rfl rfl rfl (zR_gI _ _ _) (zR_lit rfl) hc1 ?_
    refine g_lconst 14 (0#64) hM rfl rfl rfl ?_
    cases h
    exact g_ret hM rfl rfl
def b_107_14 (rec : Nat → Int → Int → BitVec 64 → Int → zS → Option (Unit × zS)) (c1 : Nat) (v2 : Int) (w3 : BitVec 64) (v5 : Int) (v6 : Int) (v7 : Int) (s : zS) : Option ((Int × zS) ⊕ (zS)) := zg (zR v7) (if v7 < (gI s 1 0) then (zg (0 ≤ (v6 + v7) ∧ (v6 + v7) < 2750) (if ((gJ s 18 (v6 + v7)) &&& w3) = (0#64) then (some (.inl ((v7 + 1), (sJ s 18 (v6 + v7) ((gJ s 18 (v6 + v7)) &&& w3))))) else (zg (zC c1 = true) (zg (0 ≤ v2 ∧ v2 < 200) (zg (0 ≤ (gI s (c1 + 2) v2) ∧ (gI s (c1 + 2) v2) < 20) (zb (f_108 rec c1 (gI (sI s 20 (gI s (c1 + 2) v2) v7) (c1 + 4) v2) (gI (sI s 20 (gI s (c1 + 2) v2) v7) (c1 + 5) v2) ((gJ s 18 (v6 + v7)) &&& w3) v5 (sI s 20 (gI s (c1 + 2) v2) v7)) (fun r9 s10 => some (.inl ((v7 + 1), (sJ s10 18 (v6 + v7) (((gJ s 18 (v6 + v7)) &&& w3) &&& r9))))))))))) else (some (.inr s)))
theorem wb_107_14 {k : zK} {d : Nat} {x : am_H} {r : am_A × am_H} {rec : Nat → Int → Int → BitVec 64 → Int → zS → Option (Unit × zS)} {Dr : Nat} {c1 : Nat} {v2 : Int} {w3 : BitVec 64} {v5 : Int} {v6 : Int} {v7 : Int} {s : zS} {q : (Int × zS) ⊕ (zS)} (hd : Dr + 2 ≤ d) (hrec : zRec k rec Dr) (h : b_107_14 rec c1 v2 w3 v5 v6 v7 s = some q) (hK : Sum.elim (G_107_14 k d x r c1 v2 w3 v5 v6) (K_107_14 k d x r c1 v2 w3 v5 v6) q) : G_107_14 k d x r c1 v2 w3 v5 v6 (v7, s) := by
  unfold b_107_14 at h
  have hM := xM_107 k.1
  show zgo k d 107 (14, [(0, .ref 17), (1, .ref c1), (2, .int (Int32.ofInt v2)), (3, .long (Int64.ofBitVec w3)), (5, .int (Int32.ofInt v5)), (6, .int (Int32.ofInt v6)), (7, .int (Int32.ofInt v7))], []) (hp s ++ x) r
  refine g_iload 16 hM rfl rfl rfl ?_
  refine g_aload_n 17 hM rfl rfl rfl ?_
  refine g_getF 20 hM rfl rfl rfl rfl rfl ?_
  refine g_getI 23 0 (gI s 1 0) hM rfl rfl rfl rfl rfl rfl rfl ?_
  obtain ⟨hg1, h⟩ := zg_some h
  by_cases hc2 : v7 < (gI s 1 0)
  · rw [if_pos hc2] at h
    refine g_ic_ge_f 26 104 hM rfl rfl rfl hg1 (zR_gI _ _ _) hc2 ?_
    refine g_aload_n 27 hM rfl rfl rfl ?_
    refine g_getF 30 hM rfl rfl rfl rfl rfl ?_
    refine g_iload 32 hM rfl rfl rfl ?_
    refine g_iload 34 hM rfl rfl rfl ?_
    refine g_iadd 35 hM rfl rfl ?_
    obtain ⟨hg3, h⟩ := zg_some h
    refine g_laload 36 (gJ s 18 (v6 + v7)) hM rfl rfl rfl rfl hg3 rfl ?_
    refine g_lload_n 37 hM rfl rfl rfl ?_
    refine g_land 38 hM rfl rfl ?_
    refine g_lstore 40 hM rfl rfl rfl ?_
    refine g_lload 42 hM rfl rfl rfl ?_
    refine g_lconst 43 (0#64) hM rfl rfl rfl ?_
    by_cases hc4 : ((gJ s 18 (v6 + v7)) &&& w3) = (0#64)
    · rw [if_pos hc4] at h
      refine g_lc_eq_t 44 86 hM rfl rfl rfl rfl hc4 ?_
      refine g_aload_n 87 hM rfl rfl rfl ?_
      refine g_getF 90 hM rfl rfl rfl rfl rfl ?_
      refine g_iload 92 hM rfl rfl rfl ?_
      refine g_iload 94 hM rfl rfl rfl ?_
      refine g_iadd 95 hM rfl rfl ?_
      refine g_lload 97 hM rfl rfl rfl ?_
      refine g_lastore 98 hM rfl rfl rfl rfl hg3 ?_
      refine g_iinc 101 hM rfl rfl rfl rfl ?_
      refine g_goto 14 hM rfl rfl ?_
      cases h
      exact g_lv [(0, .ref 17), (1, .ref c1), (2, .int (Int32.ofInt v2)), (3, .long (Int64.ofBitVec w3)), (5, .int (Int32.ofInt v5)), (6, .int (Int32.ofInt v6)), (7, .int (Int32.ofInt (v7 + 1)))] rfl ⟨rfl, rfl, rfl, rfl, rfl, rfl, rfl, trivial⟩ hK
    · rw [if_neg hc4] at h
      refine g_lc_eq_f 44 47 86 hM rfl rfl rfl rfl rfl hc4 ?_
      refine g_aload_n 48 hM rfl rfl rfl ?_
      refine g_getF 51 hM rfl rfl rfl rfl rfl ?_
      refine g_aload_n 52 hM rfl rfl rfl ?_
      obtain ⟨hg5, h⟩ := zg_some h
      refine g_getR 55 hM rfl rfl rfl (zC_obj hg5) rfl ?_
      refine g_iload_n 56 hM rfl rfl rfl ?_
      obtain ⟨hg6, h⟩ := zg_some h
      refine g_iaload 57 (gI s (c1 + 2) v2) hM rfl rfl (zC_a2 hg5) rfl hg6 rfl ?_
      refine g_iload 59 hM rfl rfl rfl ?_
      obtain ⟨hg7, h⟩ := zg_some h
      refine g_iastore 60 hM rfl rfl rfl rfl hg7 ?_
      refine g_lload 62 hM rfl rfl rfl ?_
      refine g_aload_n 63 hM rfl rfl rfl ?_
      refine g_aload_n 64 hM rfl rfl rfl ?_
      refine g_aload_n 65 hM rfl rfl rfl ?_
      refine g_getR 68 hM rfl rfl rfl (zC_obj hg5) rfl ?_
      refine g_iload_n 69 hM rfl rfl rfl ?_
      refine g_iaload 70 (gI (sI s 20 (gI s (c1 + 2) v2) v7) (c1 + 4) v2) hM rfl rfl (zC_a4 hg5) rfl hg6 rfl ?_
      refine g_aload_n 71 hM rfl rfl rfl ?_
      refine g_getR 74 hM rfl rfl rfl (zC_obj hg5) rfl ?_
      refine g_iload_n 75 hM rfl rfl rfl ?_
      refine g_iaload 76 (gI (sI s 20 (gI s (c1 + 2) v2) v7) (c1 + 5) v2) hM rfl rfl (zC_a5 hg5) rfl hg6 rfl ?_
      refine g_lload 78 hM rfl rfl rfl ?_
      refine g_iload 80 hM rfl rfl rfl ?_
      obtain ⟨r9, s10, h8, h⟩ := zb_some h
      refine g_call 83 _ [.long (Int64.ofBitVec r9), .long (Int64.ofBitVec ((gJ s 18 (v6 + v7)) &&& w3))] hM rfl rfl rfl rfl rfl (xM_108 _) rfl (z_rcv2 rfl) rfl rfl (by omega) (w_108 (by omega) hrec h8) rfl ?_
      refine g_land 84 hM rfl rfl ?_
      refine g_lstore 86 hM rfl rfl rfl ?_
      refine g_aload_n 87 hM rfl rfl rfl ?_
      refine g_getF 90 hM rfl rfl rfl rfl rfl ?_
      refine g_iload 92 hM rfl rfl rfl ?_
      refine g_iload 94 hM rfl rfl rfl ?_
      refine g_iadd 95 hM rfl rfl ?_
      refine g_lload 97 hM rfl rfl rfl ?_
      refine g_lastore 98 hM rfl rfl rfl rfl hg3 ?_
      refine g_iinc 101 hM rfl rfl rfl rfl ?_
      refine g_goto 14 hM rfl rfl ?_
      cases h
      exact g_lv [(0, .ref 17), (1, .ref c1), (2, .int (Int32.ofInt v2)), (3, .long (Int64.ofBitVec w3)), (5, .int (Int32.ofInt v5)), (6, .int (Int32.ofInt v6)), (7, .int (Int32.ofInt (v7 + 1)))] rfl ⟨rfl, rfl, rfl, rfl, rfl, rfl, rfl, trivial⟩ hK
  · rw [if_neg hc2] at h
    refine g_ic_ge_t 104 hM rfl rfl hg1 (zR_gI _ _ _) hc2 ?_
    cases h
    exact g_lv [] rfl trivial hK
theorem wl_107_14 {k : zK} {d : Nat} {x : am_H} {r : am_A × am_H} {rec : Nat → Int → Int → BitVec 64 → Int → zS → Option (Unit × zS)} {Dr : Nat} {c1 : Nat} {v2 : Int} {w3 : BitVec 64} {v5 : Int} {v6 : Int} {n : Nat} {e : (Int × zS)} {t : (zS)} (hd : Dr + 2 ≤ d) (hrec : zRec k rec Dr) (h : zlp (fun (q : Int × zS) => b_107_14 rec c1 v2 w3 v5 v6 q.1 q.2) n e = some t) (hK : K_107_14 k d x r c1 v2 w3 v5 v6 t) : G_107_14 k d x r c1 v2 w3 v5 v6 e := zlp_go (G := fun e => G_107_14 k d x r c1 v2 w3 v5 v6 e) (K := K_107_14 k d x r c1 v2 w3 v5 v6) (fun e e1 h1 hg => wb_107_14 (q := .inl e1) hd hrec h1 hg) (fun e t1 h1 hk => wb_107_14 (q := .inr t1) hd hrec h1 hk) n e t h hK
/-- RelationFinder$Machine.sift(LRelationFinder$Code;IJI)V -/
def f_107 (rec : Nat → Int → Int → BitVec 64 → Int → zS → Option (Unit × zS)) (c1 : Nat) (v2 : Int) (w3 : BitVec 64) (v5 : Int) (s : zS) : Option (Unit × zS) := zo (zlp (fun (q : Int × zS) => b_107_14 rec c1 v2 w3 v5 (((gI s 17 3) - 1) * 125) q.1 q.2) zF (0, s)) (fun e1 => some ((), e1))
theorem w_107 {k : zK} {d : Nat} {x : am_H} {rec : Nat → Int → Int → BitVec 64 → Int → zS → Option (Unit × zS)} {Dr : Nat} {c1 : Nat} {v2 : Int} {w3 : BitVec 64} {v5 : Int} {s : zS} {q : (Unit × zS)} (hd : Dr + 2 ≤ d) (hrec : zRec k rec Dr) (h : f_107 rec c1 v2 w3 v5 s = some q) : zgo k d 107 (0, [(0, .ref 17), (1, .ref c1), (2, .int (Int32.ofInt v2)), (3, .long (Int64.ofBitVec w3)), (5, .int (Int32.ofInt v5))], []) (hp s ++ x) (.inl (none), hp q.2 ++ x) := by
  unfold f_107 at h
  have hM := xM_107 k.1
  refine g_aload_n 1 hM rfl rfl rfl ?_
  refine g_getI 4 3 (gI s 17 3) hM rfl rfl rfl rfl rfl rfl rfl ?_
  refine g_iconst 5 hM rfl rfl ?_
  refine g_isub 6 hM rfl rfl ?_
  refine g_bipush 8 hM rfl rfl rfl ?_
  refine g_imul 9 hM rfl rfl ?_
  refine g_istore 11 hM rfl rfl rfl ?_
  refine g_iconst 12 hM rfl rfl ?_
  refine g_istore 14 hM rfl rfl rfl ?_
  obtain ⟨e1, h2, h⟩ := zo_some h
  refine g_lv [(0, .ref 17), (1, .ref c1), (2, .int (Int32.ofInt v2)), (3, .long (Int64.ofBitVec w3)), (5, .int (Int32.ofInt v5)), (6, .int (Int32.ofInt (((gI s 17 3) - 1) * 125))), (7, .int (Int32.ofInt 0))] rfl ⟨rfl, rfl, rfl, rfl, rfl, rfl, rfl, trivial⟩ ?_
  refine wl_107_14 (by omega) hrec h2 ?_
  show zgo k d 107 (104, [], []) (hp e1 ++ x) (.inl (none), hp q.2 ++ x)
  cases h
  exact g_ret hM rfl rfl
/-- RelationFinder$World.sizeOf(I)I -/
def f_52 (v1 : Int) (s : zS) : Option Int := zg (zR v1) (if v1 < 0 then (some 0) else (if 3 < v1 then (some 0) else (zg (0 ≤ v1 ∧ v1 < 4) (some (gI s 2 v1)))))
theorem w_52 {k : zK} {d : Nat} {x : am_H} {v1 : Int} {s : zS} {q : Int} (hd : 0 ≤ d) (h : f_52 v1 s = some q) : zgo k d 52 (0, [(0, .ref 1), (1, .int (Int32.ofInt v1))], []) (hp s ++ x) (.inl (some (.int (Int32.ofInt q))), hp s ++ x) := by
  unfold f_52 at h
  have hM := xM_52 k.1
  refine g_iload_n 1 hM rfl rfl rfl ?_
  obtain ⟨hg1, h⟩ := zg_some h
  by_cases hc2 : v1 < 0
  · rw [if_pos hc2] at h
    refine g_if_lt_t 18 hM rfl rfl hg1 hc2 ?_
    refine g_iconst 19 hM rfl rfl ?_
    cases h
    exact g_ret hM rfl rfl
  · rw [if_neg hc2] at h
    refine g_if_lt_f 4 18 hM rfl rfl rfl hg1 hc2 ?_
    refine g_iload_n 5 hM rfl rfl rfl ?_
    refine g_iconst 6 hM rfl rfl ?_
    by_cases hc3 : 3 < v1
    · rw [if_pos hc3] at h
      refine g_ic_gt_t 18 hM rfl rfl hg1 (zR_lit rfl) hc3 ?_
      refine g_iconst 19 hM rfl rfl ?_
      cases h
      exact g_ret hM rfl rfl
    · rw [if_neg hc3] at h
      refine g_ic_gt_f 9 18 hM rfl rfl rfl hg1 (zR_lit rfl) hc3 ?_
      refine g_aload_n 10 hM rfl rfl rfl ?_
      refine g_getF 13 hM rfl rfl rfl rfl rfl ?_
      refine g_iload_n 14 hM rfl rfl rfl ?_
      obtain ⟨hg4, h⟩ := zg_some h
      refine g_iaload 15 (gI s 2 v1) hM rfl rfl rfl rfl hg4 rfl ?_
      refine g_goto 19 hM rfl rfl ?_
      cases h
      exact g_ret hM rfl rfl
def G_111_24 (k : zK) (d : Nat) (x : am_H) (r : am_A × am_H) (v1 : Int) (w3 : BitVec 64) (v5 : Int) (v6 : Int) (e : (Int × zS)) : Prop := zgo k d 111 (24, [(0, .ref 17), (1, .int (Int32.ofInt v1)), (3, .long (Int64.ofBitVec w3)), (5, .int (Int32.ofInt v5)), (6, .int (Int32.ofInt v6)), (7, .int (Int32.ofInt e.1))], []) (hp e.2 ++ x) r
def K_111_24 (k : zK) (d : Nat) (x : am_H) (r : am_A × am_H) (v1 : Int) (w3 : BitVec 64) (v5 : Int) (v6 : Int) (t : (zS)) : Prop := zgo k d 111 (78, [(0, .ref 17), (1, .int (Int32.ofInt v1)), (3, .long (Int64.ofBitVec w3))], []) (hp t ++ x) r
def b_111_24 (v1 : Int) (w3 : BitVec 64) (v5 : Int) (v6 : Int) (v7 : Int) (s : zS) : Option ((Int × zS) ⊕ (zS)) := zg (zR v7) (zg (zR v6) (if v7 < v6 then (zg (0 ≤ ((v1 * 5) + v7) ∧ ((v1 * 5) + v7) < 5000) (zg (0 ≤ (v5 + v7) ∧ (v5 + v7) < 2750) (some (.inl ((v7 + 1), (sJ s 24 ((v1 * 5) + v7) (((gJ s 24 ((v1 * 5) + v7)) &&& (w3 ^^^ (18446744073709551615#64))) ||| ((gJ s 18 (v5 + v7)) &&& w3)))))))) else (some (.inr s))))
theorem wb_111_24 {k : zK} {d : Nat} {x : am_H} {r : am_A × am_H} {v1 : Int} {w3 : BitVec 64} {v5 : Int} {v6 : Int} {v7 : Int} {s : zS} {q : (Int × zS) ⊕ (zS)} (hd : 1 ≤ d) (h : b_111_24 v1 w3 v5 v6 v7 s = some q) (hK : Sum.elim (G_111_24 k d x r v1 w3 v5 v6) (K_111_24 k d x r v1 w3 v5 v6) q) : G_111_24 k d x r v1 w3 v5 v6 (v7, s) := by
  unfold b_111_24 at h
  have hM := xM_111 k.1
  show zgo k d 111 (24, [(0, .ref 17), (1, .int (Int32.ofInt v1)), (3, .long (Int64.ofBitVec w3)), (5, .int (Int32.ofInt v5)), (6, .int (Int32.ofInt v6)), (7, .int (Int32.ofInt v7))], []) (hp s ++ x) r
  refine g_iload 26 hM rfl rfl rfl ?_
  refine g_iload 28 hM rfl rfl rfl ?_
  obtain ⟨hg1, h⟩ := zg_some h
  obtain ⟨hg2, h⟩ := zg_some h
  by_cases hc3 : v7 < v6
  · rw [if_pos hc3] at h
    refine g_ic_ge_f 31 78 hM rfl rfl rfl hg1 hg2 hc3 ?_
    refine g_iload_n 32 hM rfl rfl rfl ?_
    refine g_iconst 33 hM rfl rfl ?_
    refine g_imul 34 hM rfl rfl ?_
    refine g_iload 36 hM rfl rfl rfl ?_
    refine g_iadd 37 hM rfl rfl ?_
    refine g_istore 39 hM rfl rfl rfl ?_
    refine g_aload_n 40 hM rfl rfl rfl ?_
    refine g_getF 43 hM rfl rfl rfl rfl rfl ?_
    refine g_iload 45 hM rfl rfl rfl ?_
    refine g_aload_n 46 hM rfl rfl rfl ?_
    refine g_getF 49 hM rfl rfl rfl rfl rfl ?_
    refine g_iload 51 hM rfl rfl rfl ?_
    obtain ⟨hg4, h⟩ := zg_some h
    refine g_laload 52 (gJ s 24 ((v1 * 5) + v7)) hM rfl rfl rfl rfl hg4 rfl ?_
    refine g_lload_n 53 hM rfl rfl rfl ?_
    refine g_ldc2 56 (18446744073709551615#64) hM rfl rfl rfl (by decide) ?_
    refine g_lxor 57 hM rfl rfl ?_
    refine g_land 58 hM rfl rfl ?_
    refine g_aload_n 59 hM rfl rfl rfl ?_
    refine g_getF 62 hM rfl rfl rfl rfl rfl ?_
    refine g_iload 64 hM rfl rfl rfl ?_
    refine g_iload 66 hM rfl rfl rfl ?_
    refine g_iadd 67 hM rfl rfl ?_
    obtain ⟨hg5, h⟩ := zg_some h
    refine g_laload 68 (gJ s 18 (v5 + v7)) hM rfl rfl rfl rfl hg5 rfl ?_
    refine g_lload_n 69 hM rfl rfl rfl ?_
    refine g_land 70 hM rfl rfl ?_
    refine g_lor 71 hM rfl rfl ?_
    refine g_lastore 72 hM rfl rfl rfl rfl hg4 ?_
    refine g_iinc 75 hM rfl rfl rfl rfl ?_
    refine g_goto 24 hM rfl rfl ?_
    cases h
    exact g_lv [(0, .ref 17), (1, .int (Int32.ofInt v1)), (3, .long (Int64.ofBitVec w3)), (5, .int (Int32.ofInt v5)), (6, .int (Int32.ofInt v6)), (7, .int (Int32.ofInt (v7 + 1)))] rfl ⟨rfl, rfl, rfl, rfl, rfl, rfl, trivial⟩ hK
  · rw [if_neg hc3] at h
    refine g_ic_ge_t 78 hM rfl rfl hg1 hg2 hc3 ?_
    cases h
    exact g_lv [(0, .ref 17), (1, .int (Int32.ofInt v1)), (3, .long (Int64.ofBitVec w3))] rfl ⟨rfl, rfl, rfl, trivial⟩ hK
theorem wl_111_24 {k : zK} {d : Nat} {x : am_H} {r : am_A × am_H} {v1 : Int} {w3 : BitVec 64} {v5 : Int} {v6 : Int} {n : Nat} {e : (Int × zS)} {t : (zS)} (hd : 1 ≤ d) (h : zlp (fun (q : Int × zS) => b_111_24 v1 w3 v5 v6 q.1 q.2) n e = some t) (hK : K_111_24 k d x r v1 w3 v5 v6 t) : G_111_24 k d x r v1 w3 v5 v6 e := zlp_go (G := fun e => G_111_24 k d x r v1 w3 v5 v6 e) (K := K_111_24 k d x r v1 w3 v5 v6) (fun e e1 h1 hg => wb_111_24 (q := .inl e1) hd h1 hg) (fun e t1 h1 hk => wb_111_24 (q := .inr t1) hd h1 hk) n e t h hK
/-- RelationFinder$Machine.remember(IIJ)V -/
def f_111 (v1 : Int) (v2 : Int) (w3 : BitVec 64) (s : zS) : Option (Unit × zS) := zo (f_52 v2 s) (fun r2 => zo (zlp (fun (q : Int × zS) => b_111_24 v1 w3 (((gI s 17 3) - 1) * 125) r2 q.1 q.2) zF (0, s)) (fun e3 => zg (0 ≤ v1 ∧ v1 < 1000) (some ((), (sJ e3 23 v1 ((gJ e3 23 v1) ||| w3))))))
theorem w_111 {k : zK} {d : Nat} {x : am_H} {v1 : Int} {v2 : Int} {w3 : BitVec 64} {s : zS} {q : (Unit × zS)} (hd : 1 ≤ d) (h : f_111 v1 v2 w3 s = some q) : zgo k d 111 (0, [(0, .ref 17), (1, .int (Int32.ofInt v1)), (2, .int (Int32.ofInt v2)), (3, .long (Int64.ofBitVec w3))], []) (hp s ++ x) (.inl (none), hp q.2 ++ x) := by
  unfold f_111 at h
  have hM := xM_111 k.1
  refine g_aload_n 1 hM rfl rfl rfl ?_
  refine g_getI 4 3 (gI s 17 3) hM rfl rfl rfl rfl rfl rfl rfl ?_
  refine g_iconst 5 hM rfl rfl ?_
  refine g_isub 6 hM rfl rfl ?_
  refine g_bipush 8 hM rfl rfl rfl ?_
  refine g_imul 9 hM rfl rfl ?_
  refine g_istore 11 hM rfl rfl rfl ?_
  refine g_aload_n 12 hM rfl rfl rfl ?_
  refine g_getF 15 hM rfl rfl rfl rfl rfl ?_
  refine g_iload_n 16 hM rfl rfl rfl ?_
  obtain ⟨r2, h1, h⟩ := zo_some h
  refine g_call 19 _ [.int (Int32.ofInt r2)] hM rfl rfl rfl rfl rfl (xM_52 _) rfl (z_rcv2 rfl) rfl rfl (by omega) (w_52 (by omega) h1) rfl ?_
  refine g_istore 21 hM rfl rfl rfl ?_
  refine g_iconst 22 hM rfl rfl ?_
  refine g_istore 24 hM rfl rfl rfl ?_
  obtain ⟨e3, h4, h⟩ := zo_some h
  refine g_lv [(0, .ref 17), (1, .int (Int32.ofInt v1)), (3, .long (Int64.ofBitVec w3)), (5, .int (Int32.ofInt (((gI s 17 3) - 1) * 125))), (6, .int (Int32.ofInt r2)), (7, .int (Int32.ofInt 0))] rfl ⟨rfl, rfl, rfl, rfl, rfl, rfl, trivial⟩ ?_
  refine wl_111_24 (by omega) h4 ?_
  show zgo k d 111 (78, [(0, .ref 17), (1, .int (Int32.ofInt v1)), (3, .long (Int64.ofBitVec w3))], []) (hp e3 ++ x) (.inl (none), hp q.2 ++ x)
  refine g_aload_n 79 hM rfl rfl rfl ?_
  refine g_getF 82 hM rfl rfl rfl rfl rfl ?_
  refine g_iload_n 83 hM rfl rfl rfl ?_
  refine g_dup2 84 hM rfl rfl rfl rfl ?_
  obtain ⟨hg5, h⟩ := zg_some h
  refine g_laload 85 (gJ e3 23 v1) hM rfl rfl rfl rfl hg5 rfl ?_
  refine g_lload_n 86 hM rfl rfl rfl ?_
  refine g_lor 87 hM rfl rfl ?_
  refine g_lastore 88 hM rfl rfl rfl rfl hg5 ?_
  cases h
  exact g_ret hM rfl rfl
def j_104_111 (rec : Nat → Int → Int → BitVec 64 → Int → zS → Option (Unit × zS)) (w3 : BitVec 64) (v6 : Int) (v7 : Int) (s : zS) : Option (Unit × zS) := zg (zR v7) (if v7 = (-1) then (some ((), s)) else (zb (f_111 v7 v6 w3 s) (fun r4 s5 => some ((), s5))))
theorem wj_104_111 {k : zK} {d : Nat} {x : am_H} {rec : Nat → Int → Int → BitVec 64 → Int → zS → Option (Unit × zS)} {Dr : Nat} {w3 : BitVec 64} {v6 : Int} {v7 : Int} {s : zS} {q : (Unit × zS)} (hd : Dr + 3 ≤ d) (hrec : zRec k rec Dr) (h : j_104_111 rec w3 v6 v7 s = some q) : zgo k d 104 (111, [(0, .ref 17), (3, .long (Int64.ofBitVec w3)), (6, .int (Int32.ofInt v6)), (7, .int (Int32.ofInt v7))], []) (hp s ++ x) (.inl (none), hp q.2 ++ x) := by
  unfold j_104_111 at h
  have hM := xM_104 k.1
  refine g_iload 113 hM rfl rfl rfl ?_
  refine g_iconst 114 hM rfl rfl ?_
  obtain ⟨hg1, h⟩ := zg_some h
  by_cases hc2 : v7 = (-1)
  · rw [if_pos hc2] at h
    refine g_ic_eq_t 126 hM rfl rfl hg1 (zR_lit rfl) hc2 ?_
    cases h
    exact g_ret hM rfl rfl
  · rw [if_neg hc2] at h
    refine g_ic_eq_f 117 126 hM rfl rfl rfl hg1 (zR_lit rfl) hc2 ?_
    refine g_aload_n 118 hM rfl rfl rfl ?_
    refine g_iload 120 hM rfl rfl rfl ?_
    refine g_iload 122 hM rfl rfl rfl ?_
    refine g_lload_n 123 hM rfl rfl rfl ?_
    obtain ⟨r4, s5, h3, h⟩ := zb_some h
    refine g_call 126 _ [] hM rfl rfl rfl rfl rfl (xM_111 _) rfl (z_rcv2 rfl) rfl rfl (by omega) (w_111 (by omega) h3) rfl ?_
    cases h
    exact g_ret hM rfl rfl
def G_109_31 (k : zK) (d : Nat) (x : am_H) (r : am_A × am_H) (c1 : Nat) (v2 : Int) (v5 : Int) (v6 : Int) (v7 : Int) (e : (BitVec 64 × BitVec 64 × BitVec 64 × Int × zS)) : Prop := zgo k d 109 (31, [(0, .ref 17), (1, .ref c1), (2, .int (Int32.ofInt v2)), (5, .int (Int32.ofInt v5)), (6, .int (Int32.ofInt v6)), (7, .int (Int32.ofInt v7)), (8, .long (Int64.ofBitVec e.1)), (10, .long (Int64.ofBitVec e.2.1)), (12, .long (Int64.ofBitVec e.2.2.1)), (14, .int (Int32.ofInt e.2.2.2.1))], []) (hp e.2.2.2.2 ++ x) r
def K_109_31 (k : zK) (d : Nat) (x : am_H) (r : am_A × am_H) (c1 : Nat) (v2 : Int) (v5 : Int) (v6 : Int) (v7 : Int) (t : (BitVec 64 × BitVec 64 × zS)) : Prop := zgo k d 109 (183, [(0, .ref 17), (6, .int (Int32.ofInt v6)), (7, .int (Int32.ofInt v7)), (10, .long (Int64.ofBitVec t.1)), (12, .long (Int64.ofBitVec t.2.1))], []) (hp t.2.2 ++ x) r
def j_109_31_123 (rec : Nat → Int → Int → BitVec 64 → Int → zS → Option (Unit × zS)) (c1 : Nat) (v2 : Int) (v5 : Int) (v6 : Int) (v7 : Int) (w8 : BitVec 64) (w10 : BitVec 64) (w12 : BitVec 64) (v14 : Int) (u0 : BitVec 64) (u1 : BitVec 64) (s : zS) : Option ((BitVec 64 × BitVec 64 × BitVec 64 × Int × zS) ⊕ (BitVec 64 × BitVec 64 × zS)) := zg (zR v6) (if v6 = 7 then (some (.inl ((w8 &&& ((w12 ||| (w10 &&& (u0 &&& u1))) ^^^ (18446744073709551615#64))), (w10 ||| (u0 &&& u1)), (w12 ||| (w10 &&& (u0 &&& u1))), (v14 + 1), s))) else (if v6 = 8 then (some (.inl ((w8 &&& ((w12 ||| (w10 &&& (u0 &&& u1))) ^^^ (18446744073709551615#64))), (w10 ||| (u0 &&& u1)), (w12 ||| (w10 &&& (u0 &&& u1))), (v14 + 1), s))) else (some (.inl ((w8 &&& ((w10 ||| (u0 &&& u1)) ^^^ (18446744073709551615#64))), (w10 ||| (u0 &&& u1)), (w12 ||| (w10 &&& (u0 &&& u1))), (v14 + 1), s)))))
theorem wj_109_31_123 {k : zK} {d : Nat} {x : am_H} {r : am_A × am_H} {rec : Nat → Int → Int → BitVec 64 → Int → zS → Option (Unit × zS)} {Dr : Nat} {c1 : Nat} {v2 : Int} {v5 : Int} {v6 : Int} {v7 : Int} {w8 : BitVec 64} {w10 : BitVec 64} {w12 : BitVec 64} {v14 : Int} {u0 : BitVec 64} {u1 : BitVec 64} {s : zS} {q : (BitVec 64 × BitVec 64 × BitVec 64 × Int × zS) ⊕ (BitVec 64 × BitVec 64 × zS)} (hd : Dr + 2 ≤ d) (hrec : zRec k rec Dr) (h : j_109_31_123 rec c1 v2 v5 v6 v7 w8 w10 w12 v14 u0 u1 s = some q) (hK : Sum.elim (G_109_31 k d x r c1 v2 v5 v6 v7) (K_109_31 k d x r c1 v2 v5 v6 v7) q) : zgo k d 109 (123, [(0, .ref 17), (1, .ref c1), (2, .int (Int32.ofInt v2)), (5, .int (Int32.ofInt v5)), (6, .int (Int32.ofInt v6)), (7, .int (Int32.ofInt v7)), (8, .long (Int64.ofBitVec w8)), (10, .long (Int64.ofBitVec w10)), (12, .long (Int64.ofBitVec w12)), (14, .int (Int32.ofInt v14))], [.long (Int64.ofBitVec u1), .long (Int64.ofBitVec u0)]) (hp s ++ x) r := by
  unfold j_109_31_123 at h
  have hM := xM_109 k.1
  refine g_land 124 hM rfl rfl ?_
  refine g_lstore 126 hM rfl rfl rfl ?_
  refine g_lload 128 hM rfl rfl rfl ?_
  refine g_lload 130 hM rfl rfl rfl ?_
  refine g_lload 132 hM rfl rfl rfl ?_
  refine g_land 133 hM rfl rfl ?_
  refine g_lor 134 hM rfl rfl ?_
  refine g_lstore 136 hM rfl rfl rfl ?_
  refine g_lload 138 hM rfl rfl rfl ?_
  refine g_lload 140 hM rfl rfl rfl ?_
  refine g_lor 141 hM rfl rfl ?_
  refine g_lstore 143 hM rfl rfl rfl ?_
  refine g_lload 145 hM rfl rfl rfl ?_
  refine g_iload 147 hM rfl rfl rfl ?_
  refine g_bipush 149 hM rfl rfl rfl ?_
  obtain ⟨hg1, h⟩ := zg_some h
  by_cases hc2 : v6 = 7
  · rw [if_pos hc2] at h
    refine g_ic_eq_t 159 hM rfl rfl hg1 (zR_lit rfl) hc2 ?_
    refine g_lload 161 hM rfl rfl rfl ?_
    refine g_ldc2 164 (18446744073709551615#64) hM rfl rfl rfl (by decide) ?_
    refine g_lxor 165 hM rfl rfl ?_
    refine g_goto 174 hM rfl rfl ?_
    refine g_land 175 hM rfl rfl ?_
    refine g_lstore 177 hM rfl rfl rfl ?_
    refine g_iinc 180 hM rfl rfl rfl rfl ?_
    refine g_goto 31 hM rfl rfl ?_
    cases h
    exact g_lv [(0, .ref 17), (1, .ref c1), (2, .int (Int32.ofInt v2)), (5, .int (Int32.ofInt v5)), (6, .int (Int32.ofInt v6)), (7, .int (Int32.ofInt v7)), (8, .long (Int64.ofBitVec (w8 &&& ((w12 ||| (w10 &&& (u0 &&& u1))) ^^^ (18446744073709551615#64))))), (10, .long (Int64.ofBitVec (w10 ||| (u0 &&& u1)))), (12, .long (Int64.ofBitVec (w12 ||| (w10 &&& (u0 &&& u1))))), (14, .int (Int32.ofInt (v14 + 1)))] rfl ⟨rfl, rfl, rfl, rfl, rfl, rfl, rfl, rfl, rfl, rfl, trivial⟩ hK
  · rw [if_neg hc2] at h
    refine g_ic_eq_f 152 159 hM rfl rfl rfl hg1 (zR_lit rfl) hc2 ?_
    refine g_iload 154 hM rfl rfl rfl ?_
    refine g_bipush 156 hM rfl rfl rfl ?_
    by_cases hc3 : v6 = 8
    · rw [if_pos hc3] at h
      refine g_ic_ne_f 159 168 hM rfl rfl rfl hg1 (zR_lit rfl) hc3 ?_
      refine g_lload 161 hM rfl rfl rfl ?_
      refine g_ldc2 164 (18446744073709551615#64) hM rfl rfl rfl (by decide) ?_
      refine g_lxor 165 hM rfl rfl ?_
      refine g_goto 174 hM rfl rfl ?_
      refine g_land 175 hM rfl rfl ?_
      refine g_lstore 177 hM rfl rfl rfl ?_
      refine g_iinc 180 hM rfl rfl rfl rfl ?_
      refine g_goto 31 hM rfl rfl ?_
      cases h
      exact g_lv [(0, .ref 17), (1, .ref c1), (2, .int (Int32.ofInt v2)), (5, .int (Int32.ofInt v5)), (6, .int (Int32.ofInt v6)), (7, .int (Int32.ofInt v7)), (8, .long (Int64.ofBitVec (w8 &&& ((w12 ||| (w10 &&& (u0 &&& u1))) ^^^ (18446744073709551615#64))))), (10, .long (Int64.ofBitVec (w10 ||| (u0 &&& u1)))), (12, .long (Int64.ofBitVec (w12 ||| (w10 &&& (u0 &&& u1))))), (14, .int (Int32.ofInt (v14 + 1)))] rfl ⟨rfl, rfl, rfl, rfl, rfl, rfl, rfl, rfl, rfl, rfl, trivial⟩ hK
    · rw [if_neg hc3] at h
      refine g_ic_ne_t 168 hM rfl rfl hg1 (zR_lit rfl) hc3 ?_
      refine g_lload 170 hM rfl rfl rfl ?_
      refine g_ldc2 173 (18446744073709551615#64) hM rfl rfl rfl (by decide) ?_
      refine g_lxor 174 hM rfl rfl ?_
      refine g_land 175 hM rfl rfl ?_
      refine g_lstore 177 hM rfl rfl rfl ?_
      refine g_iinc 180 hM rfl rfl rfl rfl ?_
      refine g_goto 31 hM rfl rfl ?_
      cases h
      exact g_lv [(0, .ref 17), (1, .ref c1), (2, .int (Int32.ofInt v2)), (5, .int (Int32.ofInt v5)), (6, .int (Int32.ofInt v6)), (7, .int (Int32.ofInt v7)), (8, .long (Int64.ofBitVec (w8 &&& ((w10 ||| (u0 &&& u1)) ^^^ (18446744073709551615#64))))), (10, .long (Int64.ofBitVec (w10 ||| (u0 &&& u1)))), (12, .long (Int64.ofBitVec (w12 ||| (w10 &&& (u0 &&& u1))))), (14, .int (Int32.ofInt (v14 + 1)))] rfl ⟨rfl, rfl, rfl, rfl, rfl, rfl, rfl, rfl, rfl, rfl, trivial⟩ hK
def b_109_31 (rec : Nat → Int → Int → BitVec 64 → Int → zS → Option (Unit × zS)) (c1 : Nat) (v2 : Int) (v5 : Int) (v6 : Int) (v7 : Int) (w8 : BitVec 64) (w10 : BitVec 64) (w12 : BitVec 64) (v14 : Int) (s : zS) : Option ((BitVec 64 × BitVec 64 × BitVec 64 × Int × zS) ⊕ (BitVec 64 × BitVec 64 × zS)) := zg (zR v14) (if v14 < (gI s 1 0) then (zg (0 ≤ (v7 + v14) ∧ (v7 + v14) < 2750) (if ((gJ s 18 (v7 + v14)) &&& w8) = (0#64) then (some (.inl (w8, w10, w12, (v14 + 1), s))) else (zg (zC c1 = true) (zg (0 ≤ v2 ∧ v2 < 200) (zg (0 ≤ (gI s (c1 + 2) v2) ∧ (gI s (c1 + 2) v2) < 20) (zb (f_108 rec c1 (gI (sI s 20 (gI s (c1 + 2) v2) v14) (c1 + 4) v2) (gI (sI s 20 (gI s (c1 + 2) v2) v14) (c1 + 5) v2) ((gJ s 18 (v7 + v14)) &&& w8) v5 (sI s 20 (gI s (c1 + 2) v2) v14)) (fun r9 s10 => zg (zR v6) (if v6 = 4 then (j_109_31_123 rec c1 v2 v5 v6 v7 w8 w10 w12 v14 ((gJ s 18 (v7 + v14)) &&& w8) (r9 ^^^ (18446744073709551615#64)) s10) else (j_109_31_123 rec c1 v2 v5 v6 v7 w8 w10 w12 v14 ((gJ s 18 (v7 + v14)) &&& w8) r9 s10))))))))) else (some (.inr (w10, w12, s))))
theorem wb_109_31 {k : zK} {d : Nat} {x : am_H} {r : am_A × am_H} {rec : Nat → Int → Int → BitVec 64 → Int → zS → Option (Unit × zS)} {Dr : Nat} {c1 : Nat} {v2 : Int} {v5 : Int} {v6 : Int} {v7 : Int} {w8 : BitVec 64} {w10 : BitVec 64} {w12 : BitVec 64} {v14 : Int} {s : zS} {q : (BitVec 64 × BitVec 64 × BitVec 64 × Int × zS) ⊕ (BitVec 64 × BitVec 64 × zS)} (hd : Dr + 2 ≤ d) (hrec : zRec k rec Dr) (h : b_109_31 rec c1 v2 v5 v6 v7 w8 w10 w12 v14 s = some q) (hK : Sum.elim (G_109_31 k d x r c1 v2 v5 v6 v7) (K_109_31 k d x r c1 v2 v5 v6 v7) q) : G_109_31 k d x r c1 v2 v5 v6 v7 (w8, w10, w12, v14, s) := by
  unfold b_109_31 at h
  have hM := xM_109 k.1
  show zgo k d 109 (31, [(0, .ref 17), (1, .ref c1), (2, .int (Int32.ofInt v2)), (5, .int (Int32.ofInt v5)), (6, .int (Int32.ofInt v6)), (7, .int (Int32.ofInt v7)), (8, .long (Int64.ofBitVec w8)), (10, .long (Int64.ofBitVec w10)), (12, .long (Int64.ofBitVec w12)), (14, .int (Int32.ofInt v14))], []) (hp s ++ x) r
  refine g_iload 33 hM rfl rfl rfl ?_
  refine g_aload_n 34 hM rfl rfl rfl ?_
  refine g_getF 37 hM rfl rfl rfl rfl rfl ?_
  refine g_getI 40 0 (gI s 1 0) hM rfl rfl rfl rfl rfl rfl rfl ?_
  obtain ⟨hg1, h⟩ := zg_some h
  by_cases hc2 : v14 < (gI s 1 0)
  · rw [if_pos hc2] at h
    refine g_ic_ge_f 43 183 hM rfl rfl rfl hg1 (zR_gI _ _ _) hc2 ?_
    refine g_aload_n 44 hM rfl rfl rfl ?_
    refine g_getF 47 hM rfl rfl rfl rfl rfl ?_
    refine g_iload 49 hM rfl rfl rfl ?_
    refine g_iload 51 hM rfl rfl rfl ?_
    refine g_iadd 52 hM rfl rfl ?_
    obtain ⟨hg3, h⟩ := zg_some h
    refine g_laload 53 (gJ s 18 (v7 + v14)) hM rfl rfl rfl rfl hg3 rfl ?_
    refine g_lload 55 hM rfl rfl rfl ?_
    refine g_land 56 hM rfl rfl ?_
    refine g_lstore 58 hM rfl rfl rfl ?_
    refine g_lload 60 hM rfl rfl rfl ?_
    refine g_lconst 61 (0#64) hM rfl rfl rfl ?_
    by_cases hc4 : ((gJ s 18 (v7 + v14)) &&& w8) = (0#64)
    · rw [if_pos hc4] at h
      refine g_lc_ne_f 62 65 68 hM rfl rfl rfl rfl rfl hc4 ?_
      refine g_goto 177 hM rfl rfl ?_
      refine g_iinc 180 hM rfl rfl rfl rfl ?_
      refine g_goto 31 hM rfl rfl ?_
      cases h
      exact g_lv [(0, .ref 17), (1, .ref c1), (2, .int (Int32.ofInt v2)), (5, .int (Int32.ofInt v5)), (6, .int (Int32.ofInt v6)), (7, .int (Int32.ofInt v7)), (8, .long (Int64.ofBitVec w8)), (10, .long (Int64.ofBitVec w10)), (12, .long (Int64.ofBitVec w12)), (14, .int (Int32.ofInt (v14 + 1)))] rfl ⟨rfl, rfl, rfl, rfl, rfl, rfl, rfl, rfl, rfl, rfl, trivial⟩ hK
    · rw [if_neg hc4] at h
      refine g_lc_ne_t 62 68 hM rfl rfl rfl rfl hc4 ?_
      refine g_aload_n 69 hM rfl rfl rfl ?_
      refine g_getF 72 hM rfl rfl rfl rfl rfl ?_
      refine g_aload_n 73 hM rfl rfl rfl ?_
      obtain ⟨hg5, h⟩ := zg_some h
      refine g_getR 76 hM rfl rfl rfl (zC_obj hg5) rfl ?_
      refine g_iload_n 77 hM rfl rfl rfl ?_
      obtain ⟨hg6, h⟩ := zg_some h
      refine g_iaload 78 (gI s (c1 + 2) v2) hM rfl rfl (zC_a2 hg5) rfl hg6 rfl ?_
      refine g_iload 80 hM rfl rfl rfl ?_
      obtain ⟨hg7, h⟩ := zg_some h
      refine g_iastore 81 hM rfl rfl rfl rfl hg7 ?_
      refine g_aload_n 82 hM rfl rfl rfl ?_
      refine g_aload_n 83 hM rfl rfl rfl ?_
      refine g_aload_n 84 hM rfl rfl rfl ?_
      refine g_getR 87 hM rfl rfl rfl (zC_obj hg5) rfl ?_
      refine g_iload_n 88 hM rfl rfl rfl ?_
      refine g_iaload 89 (gI (sI s 20 (gI s (c1 + 2) v2) v14) (c1 + 4) v2) hM rfl rfl (zC_a4 hg5) rfl hg6 rfl ?_
      refine g_aload_n 90 hM rfl rfl rfl ?_
      refine g_getR 93 hM rfl rfl rfl (zC_obj hg5) rfl ?_
      refine g_iload_n 94 hM rfl rfl rfl ?_
      refine g_iaload 95 (gI (sI s 20 (gI s (c1 + 2) v2) v14) (c1 + 5) v2) hM rfl rfl (zC_a5 hg5) rfl hg6 rfl ?_
      refine g_lload 97 hM rfl rfl rfl ?_
      refine g_iload 99 hM rfl rfl rfl ?_
      obtain ⟨r9, s10, h8, h⟩ := zb_some h
      refine g_call 102 _ [.long (Int64.ofBitVec r9)] hM rfl rfl rfl rfl rfl (xM_108 _) rfl (z_rcv2 rfl) rfl rfl (by omega) (w_108 (by omega) hrec h8) rfl ?_
      refine g_lstore 104 hM rfl rfl rfl ?_
      refine g_lload 106 hM rfl rfl rfl ?_
      refine g_iload 108 hM rfl rfl rfl ?_
      refine g_iconst 109 hM rfl rfl ?_
      obtain ⟨hg11, h⟩ := zg_some h
      by_cases hc12 : v6 = 4
      · rw [if_pos hc12] at h
        refine g_ic_ne_f 112 121 hM rfl rfl rfl hg11 (zR_lit rfl) hc12 ?_
        refine g_lload 114 hM rfl rfl rfl ?_
        refine g_ldc2 117 (18446744073709551615#64) hM rfl rfl rfl (by decide) ?_
        refine g_lxor 118 hM rfl rfl ?_
        refine g_goto 123 hM rfl rfl ?_
        refine g_lv [(0, .ref 17), (1, .ref c1), (2, .int (Int32.ofInt v2)), (5, .int (Int32.ofInt v5)), (6, .int (Int32.ofInt v6)), (7, .int (Int32.ofInt v7)), (8, .long (Int64.ofBitVec w8)), (10, .long (Int64.ofBitVec w10)), (12, .long (Int64.ofBitVec w12)), (14, .int (Int32.ofInt v14))] rfl ⟨rfl, rfl, rfl, rfl, rfl, rfl, rfl, rfl, rfl, rfl, trivial⟩ ?_
        exact wj_109_31_123 (by omega) hrec h hK
      · rw [if_neg hc12] at h
        refine g_ic_ne_t 121 hM rfl rfl hg11 (zR_lit rfl) hc12 ?_
        refine g_lload 123 hM rfl rfl rfl ?_
        refine g_lv [(0, .ref 17), (1, .ref c1), (2, .int (Int32.ofInt v2)), (5, .int (Int32.ofInt v5)), (6, .int (Int32.ofInt v6)), (7, .int (Int32.ofInt v7)), (8, .long (Int64.ofBitVec w8)), (10, .long (Int64.ofBitVec w10)), (12, .long (Int64.ofBitVec w12)), (14, .int (Int32.ofInt v14))] rfl ⟨rfl, rfl, rfl, rfl, rfl, rfl, rfl, rfl, rfl, rfl, trivial⟩ ?_
        exact wj_109_31_123 (by omega) hrec h hK
  · rw [if_neg hc2] at h
    refine g_ic_ge_t 183 hM rfl rfl hg1 (zR_gI _ _ _) hc2 ?_
    cases h
    exact g_lv [(0, .ref 17), (6, .int (Int32.ofInt v6)), (7, .int (Int32.ofInt v7)), (10, .long (Int64.ofBitVec w10)), (12, .long (Int64.ofBitVec w12))] rfl ⟨rfl, rfl, rfl, rfl, rfl, trivial⟩ hK
theorem wl_109_31 {k : zK} {d : Nat} {x : am_H} {r : am_A × am_H} {rec : Nat → Int → Int → BitVec 64 → Int → zS → Option (Unit × zS)} {Dr : Nat} {c1 : Nat} {v2 : Int} {v5 : Int} {v6 : Int} {v7 : Int} {n : Nat} {e : (BitVec 64 × BitVec 64 × BitVec 64 × Int × zS)} {t : (BitVec 64 × BitVec 64 × zS)} (hd : Dr + 2 ≤ d) (hrec : zRec k rec Dr) (h : zlp (fun (q : BitVec 64 × BitVec 64 × BitVec 64 × Int × zS) => b_109_31 rec c1 v2 v5 v6 v7 q.1 q.2.1 q.2.2.1 q.2.2.2.1 q.2.2.2.2) n e = some t) (hK : K_109_31 k d x r c1 v2 v5 v6 v7 t) : G_109_31 k d x r c1 v2 v5 v6 v7 e := zlp_go (G := fun e => G_109_31 k d x r c1 v2 v5 v6 v7 e) (K := K_109_31 k d x r c1 v2 v5 v6 v7) (fun e e1 h1 hg => wb_109_31 (q := .inl e1) hd hrec h1 hg) (fun e t1 h1 hk => wb_109_31 (q := .inr t1) hd hrec h1 hk) n e t h hK
def t_110_1 (a : Int) : Nat := zswt 5 8 [32, 48, 34, 40] 48 a
/-- RelationFinder$Machine.verdict(IJJ)J -/
def f_110 (v0 : Int) (w1 : BitVec 64) (w3 : BitVec 64) : Option (BitVec 64) := zg (zR v0) (if t_110_1 v0 = 32 then (some w1) else (if t_110_1 v0 = 34 then (some (w3 ^^^ (18446744073709551615#64))) else (if t_110_1 v0 = 40 then (some (w1 &&& (w3 ^^^ (18446744073709551615#64)))) else (if t_110_1 v0 = 48 then (some (w1 ^^^ (18446744073709551615#64))) else (none)))))
theorem w_110 {k : zK} {d : Nat} {x : am_H} {v0 : Int} {w1 : BitVec 64} {w3 : BitVec 64} {s : zS} {q : (BitVec 64)} (hd : 0 ≤ d) (h : f_110 v0 w1 w3 = some q) : zgo k d 110 (0, [(0, .int (Int32.ofInt v0)), (1, .long (Int64.ofBitVec w1)), (3, .long (Int64.ofBitVec w3))], []) (hp s ++ x) (.inl (some (.long (Int64.ofBitVec q))), hp s ++ x) := by
  unfold f_110 at h
  have hM := xM_110 k.1
  refine g_iload_n 1 hM rfl rfl rfl ?_
  obtain ⟨hg1, h⟩ := zg_some h
  by_cases hc2 : t_110_1 v0 = 32
  · rw [if_pos hc2] at h
    refine g_tsw 32 hM rfl hg1 hc2 rfl rfl rfl ?_
    refine g_lload_n 33 hM rfl rfl rfl ?_
    cases h
    exact g_ret hM rfl rfl
  · rw [if_neg hc2] at h
    by_cases hc3 : t_110_1 v0 = 34
    · rw [if_pos hc3] at h
      refine g_tsw 34 hM rfl hg1 hc3 rfl rfl rfl ?_
      refine g_lload_n 35 hM rfl rfl rfl ?_
      refine g_ldc2 38 (18446744073709551615#64) hM rfl rfl rfl (by decide) ?_
      refine g_lxor 39 hM rfl rfl ?_
      cases h
      exact g_ret hM rfl rfl
    · rw [if_neg hc3] at h
      by_cases hc4 : t_110_1 v0 = 40
      · rw [if_pos hc4] at h
        refine g_tsw 40 hM rfl hg1 hc4 rfl rfl rfl ?_
        refine g_lload_n 41 hM rfl rfl rfl ?_
        refine g_lload_n 42 hM rfl rfl rfl ?_
        refine g_ldc2 45 (18446744073709551615#64) hM rfl rfl rfl (by decide) ?_
        refine g_lxor 46 hM rfl rfl ?_
        refine g_land 47 hM rfl rfl ?_
        cases h
        exact g_ret hM rfl rfl
      · rw [if_neg hc4] at h
        by_cases hc5 : t_110_1 v0 = 48
        · rw [if_pos hc5] at h
          refine g_tsw 48 hM rfl hg1 hc5 rfl rfl rfl ?_
          refine g_lload_n 49 hM rfl rfl rfl ?_
          refine g_ldc2 52 (18446744073709551615#64) hM rfl rfl rfl (by decide) ?_
          refine g_lxor 53 hM rfl rfl ?_
          cases h
          exact g_ret hM rfl rfl
        · rw [if_neg hc5] at h
          cases h
/-- RelationFinder$Machine.quantify(LRelationFinder$Code;IJI)V -/
def f_109 (rec : Nat → Int → Int → BitVec 64 → Int → zS → Option (Unit × zS)) (c1 : Nat) (v2 : Int) (w3 : BitVec 64) (v5 : Int) (s : zS) : Option (Unit × zS) := zg (zC c1 = true) (zg (0 ≤ v2 ∧ v2 < 200) (zo (zlp (fun (q : BitVec 64 × BitVec 64 × BitVec 64 × Int × zS) => b_109_31 rec c1 v2 v5 (gI s (c1 + 3) v2) (((gI s 17 3) - 1) * 125) q.1 q.2.1 q.2.2.1 q.2.2.2.1 q.2.2.2.2) zF (w3, (0#64), (0#64), 0, s)) (fun e3 => zo (f_110 (gI s (c1 + 3) v2) e3.1 e3.2.1) (fun r6 => zg (0 ≤ (((gI s 17 3) - 1) * 125) ∧ (((gI s 17 3) - 1) * 125) < 2750) (zg (0 ≤ ((gI e3.2.2 17 3) - 1) ∧ ((gI e3.2.2 17 3) - 1) < 22) (some ((), (sI (sJ e3.2.2 18 (((gI s 17 3) - 1) * 125) r6) 19 ((gI e3.2.2 17 3) - 1) 0))))))))
theorem w_109 {k : zK} {d : Nat} {x : am_H} {rec : Nat → Int → Int → BitVec 64 → Int → zS → Option (Unit × zS)} {Dr : Nat} {c1 : Nat} {v2 : Int} {w3 : BitVec 64} {v5 : Int} {s : zS} {q : (Unit × zS)} (hd : Dr + 2 ≤ d) (hrec : zRec k rec Dr) (h : f_109 rec c1 v2 w3 v5 s = some q) : zgo k d 109 (0, [(0, .ref 17), (1, .ref c1), (2, .int (Int32.ofInt v2)), (3, .long (Int64.ofBitVec w3)), (5, .int (Int32.ofInt v5))], []) (hp s ++ x) (.inl (none), hp q.2 ++ x) := by
  unfold f_109 at h
  have hM := xM_109 k.1
  refine g_aload_n 1 hM rfl rfl rfl ?_
  obtain ⟨hg1, h⟩ := zg_some h
  refine g_getR 4 hM rfl rfl rfl (zC_obj hg1) rfl ?_
  refine g_iload_n 5 hM rfl rfl rfl ?_
  obtain ⟨hg2, h⟩ := zg_some h
  refine g_iaload 6 (gI s (c1 + 3) v2) hM rfl rfl (zC_a3 hg1) rfl hg2 rfl ?_
  refine g_istore 8 hM rfl rfl rfl ?_
  refine g_aload_n 9 hM rfl rfl rfl ?_
  refine g_getI 12 3 (gI s 17 3) hM rfl rfl rfl rfl rfl rfl rfl ?_
  refine g_iconst 13 hM rfl rfl ?_
  refine g_isub 14 hM rfl rfl ?_
  refine g_bipush 16 hM rfl rfl rfl ?_
  refine g_imul 17 hM rfl rfl ?_
  refine g_istore 19 hM rfl rfl rfl ?_
  refine g_lload_n 20 hM rfl rfl rfl ?_
  refine g_lstore 22 hM rfl rfl rfl ?_
  refine g_lconst 23 (0#64) hM rfl rfl rfl ?_
  refine g_lstore 25 hM rfl rfl rfl ?_
  refine g_lconst 26 (0#64) hM rfl rfl rfl ?_
  refine g_lstore 28 hM rfl rfl rfl ?_
  refine g_iconst 29 hM rfl rfl ?_
  refine g_istore 31 hM rfl rfl rfl ?_
  obtain ⟨e3, h4, h⟩ := zo_some h
  refine g_lv [(0, .ref 17), (1, .ref c1), (2, .int (Int32.ofInt v2)), (5, .int (Int32.ofInt v5)), (6, .int (Int32.ofInt (gI s (c1 + 3) v2))), (7, .int (Int32.ofInt (((gI s 17 3) - 1) * 125))), (8, .long (Int64.ofBitVec w3)), (10, .long (Int64.ofBitVec (0#64))), (12, .long (Int64.ofBitVec (0#64))), (14, .int (Int32.ofInt 0))] rfl ⟨rfl, rfl, rfl, rfl, rfl, rfl, rfl, rfl, rfl, rfl, trivial⟩ ?_
  refine wl_109_31 (by omega) hrec h4 ?_
  show zgo k d 109 (183, [(0, .ref 17), (6, .int (Int32.ofInt (gI s (c1 + 3) v2))), (7, .int (Int32.ofInt (((gI s 17 3) - 1) * 125))), (10, .long (Int64.ofBitVec e3.1)), (12, .long (Int64.ofBitVec e3.2.1))], []) (hp e3.2.2 ++ x) (.inl (none), hp q.2 ++ x)
  refine g_aload_n 184 hM rfl rfl rfl ?_
  refine g_getF 187 hM rfl rfl rfl rfl rfl ?_
  refine g_iload 189 hM rfl rfl rfl ?_
  refine g_iload 191 hM rfl rfl rfl ?_
  refine g_lload 193 hM rfl rfl rfl ?_
  refine g_lload 195 hM rfl rfl rfl ?_
  obtain ⟨r6, h5, h⟩ := zo_some h
  refine g_call 198 _ [.long (Int64.ofBitVec r6), .int (Int32.ofInt (((gI s 17 3) - 1) * 125)), .ref 18] hM rfl rfl rfl rfl rfl (xM_110 _) rfl rfl rfl rfl (by omega) (w_110 (by omega) h5) rfl ?_
  obtain ⟨hg7, h⟩ := zg_some h
  refine g_lastore 199 hM rfl rfl rfl rfl hg7 ?_
  refine g_aload_n 200 hM rfl rfl rfl ?_
  refine g_getF 203 hM rfl rfl rfl rfl rfl ?_
  refine g_aload_n 204 hM rfl rfl rfl ?_
  refine g_getI 207 3 (gI e3.2.2 17 3) hM rfl rfl rfl rfl rfl rfl rfl ?_
  refine g_iconst 208 hM rfl rfl ?_
  refine g_isub 209 hM rfl rfl ?_
  refine g_iconst 210 hM rfl rfl ?_
  obtain ⟨hg8, h⟩ := zg_some h
  refine g_iastore 211 hM rfl rfl rfl rfl hg8 ?_
  cases h
  exact g_ret hM rfl rfl
def j_104_59 (rec : Nat → Int → Int → BitVec 64 → Int → zS → Option (Unit × zS)) (c1 : Nat) (v2 : Int) (w3 : BitVec 64) (v5 : Int) (v6 : Int) (v7 : Int) (s : zS) : Option (Unit × zS) := zg (zC c1 = true) (zg (0 ≤ v2 ∧ v2 < 200) (zb (rec c1 (v2 + 1) (gI s (c1 + 4) v2) w3 v5 s) (fun r4 s5 => if (gI s5 17 3) = 0 then (some ((), s5)) else (zg (zR v6) (if v6 = 1 then (zb (f_107 rec c1 v2 w3 v5 s5) (fun r10 s11 => j_104_111 rec w3 v6 v7 s11)) else (zb (f_109 rec c1 v2 w3 v5 s5) (fun r13 s14 => j_104_111 rec w3 v6 v7 s14)))))))
theorem wj_104_59 {k : zK} {d : Nat} {x : am_H} {rec : Nat → Int → Int → BitVec 64 → Int → zS → Option (Unit × zS)} {Dr : Nat} {c1 : Nat} {v2 : Int} {w3 : BitVec 64} {v5 : Int} {v6 : Int} {v7 : Int} {s : zS} {q : (Unit × zS)} (hd : Dr + 3 ≤ d) (hrec : zRec k rec Dr) (h : j_104_59 rec c1 v2 w3 v5 v6 v7 s = some q) : zgo k d 104 (59, [(0, .ref 17), (1, .ref c1), (2, .int (Int32.ofInt v2)), (3, .long (Int64.ofBitVec w3)), (5, .int (Int32.ofInt v5)), (6, .int (Int32.ofInt v6)), (7, .int (Int32.ofInt v7))], []) (hp s ++ x) (.inl (none), hp q.2 ++ x) := by
  unfold j_104_59 at h
  have hM := xM_104 k.1
  refine g_aload_n 60 hM rfl rfl rfl ?_
  refine g_aload_n 61 hM rfl rfl rfl ?_
  refine g_iload_n 62 hM rfl rfl rfl ?_
  refine g_iconst 63 hM rfl rfl ?_
  refine g_iadd 64 hM rfl rfl ?_
  refine g_aload_n 65 hM rfl rfl rfl ?_
  obtain ⟨hg1, h⟩ := zg_some h
  refine g_getR 68 hM rfl rfl rfl (zC_obj hg1) rfl ?_
  refine g_iload_n 69 hM rfl rfl rfl ?_
  obtain ⟨hg2, h⟩ := zg_some h
  refine g_iaload 70 (gI s (c1 + 4) v2) hM rfl rfl (zC_a4 hg1) rfl hg2 rfl ?_
  refine g_lload_n 71 hM rfl rfl rfl ?_
  refine g_iload 73 hM rfl rfl rfl ?_
  obtain ⟨r4, s5, h3, h⟩ := zb_some h
  refine g_call 76 _ [] hM rfl rfl rfl rfl rfl (xM_103 _) rfl (z_rcv2 rfl) rfl rfl (by omega) (hrec _ _ _ _ _ _ _ h3 _ _ (by omega)) rfl ?_
  refine g_aload_n 77 hM rfl rfl rfl ?_
  refine g_getI 80 3 (gI s5 17 3) hM rfl rfl rfl rfl rfl rfl rfl ?_
  by_cases hc6 : (gI s5 17 3) = 0
  · rw [if_pos hc6] at h
    refine g_if_ne_f 83 84 hM rfl rfl rfl (zR_gI _ _ _) hc6 ?_
    cases h
    exact g_ret hM rfl rfl
  · rw [if_neg hc6] at h
    refine g_if_ne_t 84 hM rfl rfl (zR_gI _ _ _) hc6 ?_
    refine g_iload 86 hM rfl rfl rfl ?_
    refine g_iconst 87 hM rfl rfl ?_
    obtain ⟨hg7, h⟩ := zg_some h
    by_cases hc8 : v6 = 1
    · rw [if_pos hc8] at h
      refine g_ic_ne_f 90 102 hM rfl rfl rfl hg7 (zR_lit rfl) hc8 ?_
      refine g_aload_n 91 hM rfl rfl rfl ?_
      refine g_aload_n 92 hM rfl rfl rfl ?_
      refine g_iload_n 93 hM rfl rfl rfl ?_
      refine g_lload_n 94 hM rfl rfl rfl ?_
      refine g_iload 96 hM rfl rfl rfl ?_
      obtain ⟨r10, s11, h9, h⟩ := zb_some h
      refine g_call 99 _ [] hM rfl rfl rfl rfl rfl (xM_107 _) rfl (z_rcv2 rfl) rfl rfl (by omega) (w_107 (by omega) hrec h9) rfl ?_
      refine g_goto 111 hM rfl rfl ?_
      refine g_lv [(0, .ref 17), (3, .long (Int64.ofBitVec w3)), (6, .int (Int32.ofInt v6)), (7, .int (Int32.ofInt v7))] rfl ⟨rfl, rfl, rfl, rfl, trivial⟩ ?_
      exact wj_104_111 (by omega) hrec h
    · rw [if_neg hc8] at h
      refine g_ic_ne_t 102 hM rfl rfl hg7 (zR_lit rfl) hc8 ?_
      refine g_aload_n 103 hM rfl rfl rfl ?_
      refine g_aload_n 104 hM rfl rfl rfl ?_
      refine g_iload_n 105 hM rfl rfl rfl ?_
      refine g_lload_n 106 hM rfl rfl rfl ?_
      refine g_iload 108 hM rfl rfl rfl ?_
      obtain ⟨r13, s14, h12, h⟩ := zb_some h
      refine g_call 111 _ [] hM rfl rfl rfl rfl rfl (xM_109 _) rfl (z_rcv2 rfl) rfl rfl (by omega) (w_109 (by omega) hrec h12) rfl ?_
      refine g_lv [(0, .ref 17), (3, .long (Int64.ofBitVec w3)), (6, .int (Int32.ofInt v6)), (7, .int (Int32.ofInt v7))] rfl ⟨rfl, rfl, rfl, rfl, trivial⟩ ?_
      exact wj_104_111 (by omega) hrec h
def G_106_21 (k : zK) (d : Nat) (x : am_H) (r : am_A × am_H) (v1 : Int) (v2 : Int) (v3 : Int) (v4 : Int) (e : (Int × zS)) : Prop := zgo k d 106 (21, [(0, .ref 17), (1, .int (Int32.ofInt v1)), (2, .int (Int32.ofInt v2)), (3, .int (Int32.ofInt v3)), (4, .int (Int32.ofInt v4)), (5, .int (Int32.ofInt e.1))], []) (hp e.2 ++ x) r
def K_106_21 (k : zK) (d : Nat) (x : am_H) (r : am_A × am_H) (v1 : Int) (v2 : Int) (v3 : Int) (v4 : Int) (t : (zS)) : Prop := zgo k d 106 (54, [(0, .ref 17), (2, .int (Int32.ofInt v2))], []) (hp t ++ x) r
def b_106_21 (v1 : Int) (v2 : Int) (v3 : Int) (v4 : Int) (v5 : Int) (s : zS) : Option ((Int × zS) ⊕ (zS)) := zg (zR v5) (zg (zR v4) (if v5 < v4 then (zg (0 ≤ ((v1 * 5) + v5) ∧ ((v1 * 5) + v5) < 5000) (zg (0 ≤ (v3 + v5) ∧ (v3 + v5) < 2750) (some (.inl ((v5 + 1), (sJ s 18 (v3 + v5) (gJ s 24 ((v1 * 5) + v5)))))))) else (some (.inr s))))
theorem wb_106_21 {k : zK} {d : Nat} {x : am_H} {r : am_A × am_H} {v1 : Int} {v2 : Int} {v3 : Int} {v4 : Int} {v5 : Int} {s : zS} {q : (Int × zS) ⊕ (zS)} (hd : 1 ≤ d) (h : b_106_21 v1 v2 v3 v4 v5 s = some q) (hK : Sum.elim (G_106_21 k d x r v1 v2 v3 v4) (K_106_21 k d x r v1 v2 v3 v4) q) : G_106_21 k d x r v1 v2 v3 v4 (v5, s) := by
  unfold b_106_21 at h
  have hM := xM_106 k.1
  show zgo k d 106 (21, [(0, .ref 17), (1, .int (Int32.ofInt v1)), (2, .int (Int32.ofInt v2)), (3, .int (Int32.ofInt v3)), (4, .int (Int32.ofInt v4)), (5, .int (Int32.ofInt v5))], []) (hp s ++ x) r
  refine g_iload 23 hM rfl rfl rfl ?_
  refine g_iload 25 hM rfl rfl rfl ?_
  obtain ⟨hg1, h⟩ := zg_some h
  obtain ⟨hg2, h⟩ := zg_some h
  by_cases hc3 : v5 < v4
  · rw [if_pos hc3] at h
    refine g_ic_ge_f 28 54 hM rfl rfl rfl hg1 hg2 hc3 ?_
    refine g_aload_n 29 hM rfl rfl rfl ?_
    refine g_getF 32 hM rfl rfl rfl rfl rfl ?_
    refine g_iload_n 33 hM rfl rfl rfl ?_
    refine g_iload 35 hM rfl rfl rfl ?_
    refine g_iadd 36 hM rfl rfl ?_
    refine g_aload_n 37 hM rfl rfl rfl ?_
    refine g_getF 40 hM rfl rfl rfl rfl rfl ?_
    refine g_iload_n 41 hM rfl rfl rfl ?_
    refine g_iconst 42 hM rfl rfl ?_
    refine g_imul 43 hM rfl rfl ?_
    refine g_iload 45 hM rfl rfl rfl ?_
    refine g_iadd 46 hM rfl rfl ?_
    obtain ⟨hg4, h⟩ := zg_some h
    refine g_laload 47 (gJ s 24 ((v1 * 5) + v5)) hM rfl rfl rfl rfl hg4 rfl ?_
    obtain ⟨hg5, h⟩ := zg_some h
    refine g_lastore 48 hM rfl rfl rfl rfl hg5 ?_
    refine g_iinc 51 hM rfl rfl rfl rfl ?_
    refine g_goto 21 hM rfl rfl ?_
    cases h
    exact g_lv [(0, .ref 17), (1, .int (Int32.ofInt v1)), (2, .int (Int32.ofInt v2)), (3, .int (Int32.ofInt v3)), (4, .int (Int32.ofInt v4)), (5, .int (Int32.ofInt (v5 + 1)))] rfl ⟨rfl, rfl, rfl, rfl, rfl, rfl, trivial⟩ hK
  · rw [if_neg hc3] at h
    refine g_ic_ge_t 54 hM rfl rfl hg1 hg2 hc3 ?_
    cases h
    exact g_lv [(0, .ref 17), (2, .int (Int32.ofInt v2))] rfl ⟨rfl, rfl, trivial⟩ hK
theorem wl_106_21 {k : zK} {d : Nat} {x : am_H} {r : am_A × am_H} {v1 : Int} {v2 : Int} {v3 : Int} {v4 : Int} {n : Nat} {e : (Int × zS)} {t : (zS)} (hd : 1 ≤ d) (h : zlp (fun (q : Int × zS) => b_106_21 v1 v2 v3 v4 q.1 q.2) n e = some t) (hK : K_106_21 k d x r v1 v2 v3 v4 t) : G_106_21 k d x r v1 v2 v3 v4 e := zlp_go (G := fun e => G_106_21 k d x r v1 v2 v3 v4 e) (K := K_106_21 k d x r v1 v2 v3 v4) (fun e e1 h1 hg => wb_106_21 (q := .inl e1) hd h1 hg) (fun e t1 h1 hk => wb_106_21 (q := .inr t1) hd h1 hk) n e t h hK
/-- RelationFinder$Machine.recall(II)V -/
def f_106 (v1 : Int) (v2 : Int) (s : zS) : Option (Unit × zS) := zo (f_52 v2 s) (fun r2 => zo (zlp (fun (q : Int × zS) => b_106_21 v1 v2 ((gI s 17 3) * 125) r2 q.1 q.2) zF (0, s)) (fun e3 => zg (0 ≤ (gI e3 17 3) ∧ (gI e3 17 3) < 22) (some ((), (sI (sI e3 19 (gI e3 17 3) v2) 17 3 ((gI e3 17 3) + 1))))))
theorem w_106 {k : zK} {d : Nat} {x : am_H} {v1 : Int} {v2 : Int} {s : zS} {q : (Unit × zS)} (hd : 1 ≤ d) (h : f_106 v1 v2 s = some q) : zgo k d 106 (0, [(0, .ref 17), (1, .int (Int32.ofInt v1)), (2, .int (Int32.ofInt v2))], []) (hp s ++ x) (.inl (none), hp q.2 ++ x) := by
  unfold f_106 at h
  have hM := xM_106 k.1
  refine g_aload_n 1 hM rfl rfl rfl ?_
  refine g_getI 4 3 (gI s 17 3) hM rfl rfl rfl rfl rfl rfl rfl ?_
  refine g_bipush 6 hM rfl rfl rfl ?_
  refine g_imul 7 hM rfl rfl ?_
  refine g_istore_n 8 hM rfl rfl rfl ?_
  refine g_aload_n 9 hM rfl rfl rfl ?_
  refine g_getF 12 hM rfl rfl rfl rfl rfl ?_
  refine g_iload_n 13 hM rfl rfl rfl ?_
  obtain ⟨r2, h1, h⟩ := zo_some h
  refine g_call 16 _ [.int (Int32.ofInt r2)] hM rfl rfl rfl rfl rfl (xM_52 _) rfl (z_rcv2 rfl) rfl rfl (by omega) (w_52 (by omega) h1) rfl ?_
  refine g_istore 18 hM rfl rfl rfl ?_
  refine g_iconst 19 hM rfl rfl ?_
  refine g_istore 21 hM rfl rfl rfl ?_
  obtain ⟨e3, h4, h⟩ := zo_some h
  refine g_lv [(0, .ref 17), (1, .int (Int32.ofInt v1)), (2, .int (Int32.ofInt v2)), (3, .int (Int32.ofInt ((gI s 17 3) * 125))), (4, .int (Int32.ofInt r2)), (5, .int (Int32.ofInt 0))] rfl ⟨rfl, rfl, rfl, rfl, rfl, rfl, trivial⟩ ?_
  refine wl_106_21 (by omega) h4 ?_
  show zgo k d 106 (54, [(0, .ref 17), (2, .int (Int32.ofInt v2))], []) (hp e3 ++ x) (.inl (none), hp q.2 ++ x)
  refine g_aload_n 55 hM rfl rfl rfl ?_
  refine g_getF 58 hM rfl rfl rfl rfl rfl ?_
  refine g_aload_n 59 hM rfl rfl rfl ?_
  refine g_getI 62 3 (gI e3 17 3) hM rfl rfl rfl rfl rfl rfl rfl ?_
  refine g_iload_n 63 hM rfl rfl rfl ?_
  obtain ⟨hg5, h⟩ := zg_some h
  refine g_iastore 64 hM rfl rfl rfl rfl hg5 ?_
  refine g_aload_n 65 hM rfl rfl rfl ?_
  refine g_dup 66 hM rfl rfl rfl ?_
  refine g_getI 69 3 (gI e3 17 3) hM rfl rfl rfl rfl rfl rfl rfl ?_
  refine g_iconst 70 hM rfl rfl ?_
  refine g_iadd 71 hM rfl rfl ?_
  refine g_putI 74 3 hM rfl rfl rfl rfl rfl rfl rfl ?_
  cases h
  exact g_ret hM rfl rfl
def j_104_16 (rec : Nat → Int → Int → BitVec 64 → Int → zS → Option (Unit × zS)) (c1 : Nat) (v2 : Int) (w3 : BitVec 64) (v5 : Int) (t0 : Int) (s : zS) : Option (Unit × zS) := zo (f_105 c1 v2 s) (fun r2 => zg (zR r2) (if r2 = (-1) then (j_104_59 rec c1 v2 w3 v5 t0 r2 s) else (zg (0 ≤ r2 ∧ r2 < 1000) (if (w3 &&& ((gJ s 23 r2) ^^^ (18446744073709551615#64))) = (0#64) then (zb (f_106 r2 t0 s) (fun r8 s9 => some ((), s9))) else (j_104_59 rec c1 v2 w3 v5 t0 r2 s)))))
theorem wj_104_16 {k : zK} {d : Nat} {x : am_H} {rec : Nat → Int → Int → BitVec 64 → Int → zS → Option (Unit × zS)} {Dr : Nat} {c1 : Nat} {v2 : Int} {w3 : BitVec 64} {v5 : Int} {t0 : Int} {s : zS} {q : (Unit × zS)} (hd : Dr + 3 ≤ d) (hrec : zRec k rec Dr) (h : j_104_16 rec c1 v2 w3 v5 t0 s = some q) : zgo k d 104 (16, [(0, .ref 17), (1, .ref c1), (2, .int (Int32.ofInt v2)), (3, .long (Int64.ofBitVec w3)), (5, .int (Int32.ofInt v5))], [.int (Int32.ofInt t0)]) (hp s ++ x) (.inl (none), hp q.2 ++ x) := by
  unfold j_104_16 at h
  have hM := xM_104 k.1
  refine g_istore 18 hM rfl rfl rfl ?_
  refine g_aload_n 19 hM rfl rfl rfl ?_
  refine g_aload_n 20 hM rfl rfl rfl ?_
  refine g_iload_n 21 hM rfl rfl rfl ?_
  obtain ⟨r2, h1, h⟩ := zo_some h
  refine g_call 24 _ [.int (Int32.ofInt r2)] hM rfl rfl rfl rfl rfl (xM_105 _) rfl (z_rcv2 rfl) rfl rfl (by omega) (w_105 (by omega) h1) rfl ?_
  refine g_istore 26 hM rfl rfl rfl ?_
  refine g_iload 28 hM rfl rfl rfl ?_
  refine g_iconst 29 hM rfl rfl ?_
  obtain ⟨hg3, h⟩ := zg_some h
  by_cases hc4 : r2 = (-1)
  · rw [if_pos hc4] at h
    refine g_ic_eq_t 59 hM rfl rfl hg3 (zR_lit rfl) hc4 ?_
    refine g_lv [(0, .ref 17), (1, .ref c1), (2, .int (Int32.ofInt v2)), (3, .long (Int64.ofBitVec w3)), (5, .int (Int32.ofInt v5)), (6, .int (Int32.ofInt t0)), (7, .int (Int32.ofInt r2))] rfl ⟨rfl, rfl, rfl, rfl, rfl, rfl, rfl, trivial⟩ ?_
    exact wj_104_59 (by omega) hrec h
  · rw [if_neg hc4] at h
    refine g_ic_eq_f 32 59 hM rfl rfl rfl hg3 (zR_lit rfl) hc4 ?_
    refine g_lload_n 33 hM rfl rfl rfl ?_
    refine g_aload_n 34 hM rfl rfl rfl ?_
    refine g_getF 37 hM rfl rfl rfl rfl rfl ?_
    refine g_iload 39 hM rfl rfl rfl ?_
    obtain ⟨hg5, h⟩ := zg_some h
    refine g_laload 40 (gJ s 23 r2) hM rfl rfl rfl rfl hg5 rfl ?_
    refine g_ldc2 43 (18446744073709551615#64) hM rfl rfl rfl (by decide) ?_
    refine g_lxor 44 hM rfl rfl ?_
    refine g_land 45 hM rfl rfl ?_
    refine g_lconst 46 (0#64) hM rfl rfl rfl ?_
    by_cases hc6 : (w3 &&& ((gJ s 23 r2) ^^^ (18446744073709551615#64))) = (0#64)
    · rw [if_pos hc6] at h
      refine g_lc_ne_f 47 50 59 hM rfl rfl rfl rfl rfl hc6 ?_
      refine g_aload_n 51 hM rfl rfl rfl ?_
      refine g_iload 53 hM rfl rfl rfl ?_
      refine g_iload 55 hM rfl rfl rfl ?_
      obtain ⟨r8, s9, h7, h⟩ := zb_some h
      refine g_call 58 _ [] hM rfl rfl rfl rfl rfl (xM_106 _) rfl (z_rcv2 rfl) rfl rfl (by omega) (w_106 (by omega) h7) rfl ?_
      cases h
      exact g_ret hM rfl rfl
    · rw [if_neg hc6] at h
      refine g_lc_ne_t 47 59 hM rfl rfl rfl rfl hc6 ?_
      refine g_lv [(0, .ref 17), (1, .ref c1), (2, .int (Int32.ofInt v2)), (3, .long (Int64.ofBitVec w3)), (5, .int (Int32.ofInt v5)), (6, .int (Int32.ofInt t0)), (7, .int (Int32.ofInt r2))] rfl ⟨rfl, rfl, rfl, rfl, rfl, rfl, rfl, trivial⟩ ?_
      exact wj_104_59 (by omega) hrec h
/-- RelationFinder$Machine.bind(LRelationFinder$Code;IJI)V -/
def f_104 (rec : Nat → Int → Int → BitVec 64 → Int → zS → Option (Unit × zS)) (c1 : Nat) (v2 : Int) (w3 : BitVec 64) (v5 : Int) (s : zS) : Option (Unit × zS) := zg (zC c1 = true) (zg (0 ≤ v2 ∧ v2 < 200) (if (gI s (c1 + 3) v2) = 39 then (j_104_16 rec c1 v2 w3 v5 1 s) else (j_104_16 rec c1 v2 w3 v5 0 s)))
theorem w_104 {k : zK} {d : Nat} {x : am_H} {rec : Nat → Int → Int → BitVec 64 → Int → zS → Option (Unit × zS)} {Dr : Nat} {c1 : Nat} {v2 : Int} {w3 : BitVec 64} {v5 : Int} {s : zS} {q : (Unit × zS)} (hd : Dr + 3 ≤ d) (hrec : zRec k rec Dr) (h : f_104 rec c1 v2 w3 v5 s = some q) : zgo k d 104 (0, [(0, .ref 17), (1, .ref c1), (2, .int (Int32.ofInt v2)), (3, .long (Int64.ofBitVec w3)), (5, .int (Int32.ofInt v5))], []) (hp s ++ x) (.inl (none), hp q.2 ++ x) := by
  unfold f_104 at h
  have hM := xM_104 k.1
  refine g_aload_n 1 hM rfl rfl rfl ?_
  obtain ⟨hg1, h⟩ := zg_some h
  refine g_getR 4 hM rfl rfl rfl (zC_obj hg1) rfl ?_
  refine g_iload_n 5 hM rfl rfl rfl ?_
  obtain ⟨hg2, h⟩ := zg_some h
  refine g_iaload 6 (gI s (c1 + 3) v2) hM rfl rfl (zC_a3 hg1) rfl hg2 rfl ?_
  refine g_bipush 8 hM rfl rfl rfl ?_
  by_cases hc3 : (gI s (c1 + 3) v2) = 39
  · rw [if_pos hc3] at h
    refine g_ic_ne_f 11 15 hM rfl rfl rfl (zR_gI _ _ _) (zR_lit rfl) hc3 ?_
    refine g_iconst 12 hM rfl rfl ?_
    refine g_goto 16 hM rfl rfl ?_
    refine g_lv [(0, .ref 17), (1, .ref c1), (2, .int (Int32.ofInt v2)), (3, .long (Int64.ofBitVec w3)), (5, .int (Int32.ofInt v5))] rfl ⟨rfl, rfl, rfl, rfl, rfl, trivial⟩ ?_
    exact wj_104_16 (by omega) hrec h
  · rw [if_neg hc3] at h
    refine g_ic_ne_t 15 hM rfl rfl (zR_gI _ _ _) (zR_lit rfl) hc3 ?_
    refine g_iconst 16 hM rfl rfl ?_
    refine g_lv [(0, .ref 17), (1, .ref c1), (2, .int (Int32.ofInt v2)), (3, .long (Int64.ofBitVec w3)), (5, .int (Int32.ofInt v5))] rfl ⟨rfl, rfl, rfl, rfl, rfl, trivial⟩ ?_
    exact wj_104_16 (by omega) hrec h
def t_114_8 (a : Int) : Nat := zswt 5 44 [245, 245, 245, 245, 253, 290, 290, 290, 290, 261, 184, 184, 184, 184, 184, 276, 290, 283, 290, 290, 290, 290, 269, 253, 253, 253, 226, 261, 290, 290, 290, 290, 290, 290, 290, 290, 290, 290, 184, 213] 290 a
def G_115_71 (k : zK) (d : Nat) (x : am_H) (r : am_A × am_H) (v1 : Int) (v2 : Int) (v3 : Int) (v4 : Int) (v5 : Int) (w6 : BitVec 64) (e : (Int × zS)) : Prop := zgo k d 115 (71, [(0, .ref 17), (1, .int (Int32.ofInt v1)), (2, .int (Int32.ofInt v2)), (3, .int (Int32.ofInt v3)), (4, .int (Int32.ofInt v4)), (5, .int (Int32.ofInt v5)), (6, .long (Int64.ofBitVec w6)), (8, .int (Int32.ofInt e.1))], []) (hp e.2 ++ x) r
def K_115_71 (k : zK) (d : Nat) (x : am_H) (r : am_A × am_H) (v1 : Int) (v2 : Int) (v3 : Int) (v4 : Int) (v5 : Int) (w6 : BitVec 64) (t : (zS)) : Prop := zgo k d 115 (96, [(0, .ref 17), (1, .int (Int32.ofInt v1)), (2, .int (Int32.ofInt v2)), (3, .int (Int32.ofInt v3)), (4, .int (Int32.ofInt v4))], []) (hp t ++ x) r
def b_115_71 (v1 : Int) (v2 : Int) (v3 : Int) (v4 : Int) (v5 : Int) (w6 : BitVec 64) (v8 : Int) (s : zS) : Option ((Int × zS) ⊕ (zS)) := zg (zR v8) (zg (zR v5) (if v8 < v5 then (zg (0 ≤ (v4 + v8) ∧ (v4 + v8) < 2750) (some (.inl ((v8 + 1), (sJ s 18 (v4 + v8) w6))))) else (some (.inr s))))
theorem wb_115_71 {k : zK} {d : Nat} {x : am_H} {r : am_A × am_H} {v1 : Int} {v2 : Int} {v3 : Int} {v4 : Int} {v5 : Int} {w6 : BitVec 64} {v8 : Int} {s : zS} {q : (Int × zS) ⊕ (zS)} (hd : 1 ≤ d) (h : b_115_71 v1 v2 v3 v4 v5 w6 v8 s = some q) (hK : Sum.elim (G_115_71 k d x r v1 v2 v3 v4 v5 w6) (K_115_71 k d x r v1 v2 v3 v4 v5 w6) q) : G_115_71 k d x r v1 v2 v3 v4 v5 w6 (v8, s) := by
  unfold b_115_71 at h
  have hM := xM_115 k.1
  show zgo k d 115 (71, [(0, .ref 17), (1, .int (Int32.ofInt v1)), (2, .int (Int32.ofInt v2)), (3, .int (Int32.ofInt v3)), (4, .int (Int32.ofInt v4)), (5, .int (Int32.ofInt v5)), (6, .long (Int64.ofBitVec w6)), (8, .int (Int32.ofInt v8))], []) (hp s ++ x) r
  refine g_iload 73 hM rfl rfl rfl ?_
  refine g_iload 75 hM rfl rfl rfl ?_
  obtain ⟨hg1, h⟩ := zg_some h
  obtain ⟨hg2, h⟩ := zg_some h
  by_cases hc3 : v8 < v5
  · rw [if_pos hc3] at h
    refine g_ic_ge_f 78 96 hM rfl rfl rfl hg1 hg2 hc3 ?_
    refine g_aload_n 79 hM rfl rfl rfl ?_
    refine g_getF 82 hM rfl rfl rfl rfl rfl ?_
    refine g_iload 84 hM rfl rfl rfl ?_
    refine g_iload 86 hM rfl rfl rfl ?_
    refine g_iadd 87 hM rfl rfl ?_
    refine g_lload 89 hM rfl rfl rfl ?_
    obtain ⟨hg4, h⟩ := zg_some h
    refine g_lastore 90 hM rfl rfl rfl rfl hg4 ?_
    refine g_iinc 93 hM rfl rfl rfl rfl ?_
    refine g_goto 71 hM rfl rfl ?_
    cases h
    exact g_lv [(0, .ref 17), (1, .int (Int32.ofInt v1)), (2, .int (Int32.ofInt v2)), (3, .int (Int32.ofInt v3)), (4, .int (Int32.ofInt v4)), (5, .int (Int32.ofInt v5)), (6, .long (Int64.ofBitVec w6)), (8, .int (Int32.ofInt (v8 + 1)))] rfl ⟨rfl, rfl, rfl, rfl, rfl, rfl, rfl, rfl, trivial⟩ hK
  · rw [if_neg hc3] at h
    refine g_ic_ge_t 96 hM rfl rfl hg1 hg2 hc3 ?_
    cases h
    exact g_lv [(0, .ref 17), (1, .int (Int32.ofInt v1)), (2, .int (Int32.ofInt v2)), (3, .int (Int32.ofInt v3)), (4, .int (Int32.ofInt v4))] rfl ⟨rfl, rfl, rfl, rfl, rfl, trivial⟩ hK
theorem wl_115_71 {k : zK} {d : Nat} {x : am_H} {r : am_A × am_H} {v1 : Int} {v2 : Int} {v3 : Int} {v4 : Int} {v5 : Int} {w6 : BitVec 64} {n : Nat} {e : (Int × zS)} {t : (zS)} (hd : 1 ≤ d) (h : zlp (fun (q : Int × zS) => b_115_71 v1 v2 v3 v4 v5 w6 q.1 q.2) n e = some t) (hK : K_115_71 k d x r v1 v2 v3 v4 v5 w6 t) : G_115_71 k d x r v1 v2 v3 v4 v5 w6 e := zlp_go (G := fun e => G_115_71 k d x r v1 v2 v3 v4 v5 w6 e) (K := K_115_71 k d x r v1 v2 v3 v4 v5 w6) (fun e e1 h1 hg => wb_115_71 (q := .inl e1) hd h1 hg) (fun e t1 h1 hk => wb_115_71 (q := .inr t1) hd h1 hk) n e t h hK
def G_116_2 (k : zK) (d : Nat) (x : am_H) (r : am_A × am_H) (v1 : Int) (e : (Int × zS)) : Prop := zgo k d 116 (2, [(0, .ref 17), (1, .int (Int32.ofInt v1)), (2, .int (Int32.ofInt e.1))], []) (hp e.2 ++ x) r
def K_116_2 (k : zK) (d : Nat) (x : am_H) (r : am_A × am_H) (v1 : Int) (t : (zS)) : Prop := zgo k d 116 (40, [], []) (hp t ++ x) r
def b_116_2 (v1 : Int) (v2 : Int) (s : zS) : Option ((Int × zS) ⊕ (zS)) := zg (zR v2) (if v2 < (gI s 1 0) then (zg (0 ≤ ((v1 + (v2 * (gI s 1 0))) + v2) ∧ ((v1 + (v2 * (gI s 1 0))) + v2) < 2750) (some (.inl ((v2 + 1), (sJ s 18 ((v1 + (v2 * (gI s 1 0))) + v2) (18446744073709551615#64)))))) else (some (.inr s)))
theorem wb_116_2 {k : zK} {d : Nat} {x : am_H} {r : am_A × am_H} {v1 : Int} {v2 : Int} {s : zS} {q : (Int × zS) ⊕ (zS)} (hd : 0 ≤ d) (h : b_116_2 v1 v2 s = some q) (hK : Sum.elim (G_116_2 k d x r v1) (K_116_2 k d x r v1) q) : G_116_2 k d x r v1 (v2, s) := by
  unfold b_116_2 at h
  have hM := xM_116 k.1
  show zgo k d 116 (2, [(0, .ref 17), (1, .int (Int32.ofInt v1)), (2, .int (Int32.ofInt v2))], []) (hp s ++ x) r
  refine g_iload_n 3 hM rfl rfl rfl ?_
  refine g_aload_n 4 hM rfl rfl rfl ?_
  refine g_getF 7 hM rfl rfl rfl rfl rfl ?_
  refine g_getI 10 0 (gI s 1 0) hM rfl rfl rfl rfl rfl rfl rfl ?_
  obtain ⟨hg1, h⟩ := zg_some h
  by_cases hc2 : v2 < (gI s 1 0)
  · rw [if_pos hc2] at h
    refine g_ic_ge_f 13 40 hM rfl rfl rfl hg1 (zR_gI _ _ _) hc2 ?_
    refine g_aload_n 14 hM rfl rfl rfl ?_
    refine g_getF 17 hM rfl rfl rfl rfl rfl ?_
    refine g_iload_n 18 hM rfl rfl rfl ?_
    refine g_iload_n 19 hM rfl rfl rfl ?_
    refine g_aload_n 20 hM rfl rfl rfl ?_
    refine g_getF 23 hM rfl rfl rfl rfl rfl ?_
    refine g_getI 26 0 (gI s 1 0) hM rfl rfl rfl rfl rfl rfl rfl ?_
    refine g_imul 27 hM rfl rfl ?_
    refine g_iadd 28 hM rfl rfl ?_
    refine g_iload_n 29 hM rfl rfl rfl ?_
    refine g_iadd 30 hM rfl rfl ?_
    refine g_ldc2 33 (18446744073709551615#64) hM rfl rfl rfl (by decide) ?_
    obtain ⟨hg3, h⟩ := zg_some h
    refine g_lastore 34 hM rfl rfl rfl rfl hg3 ?_
    refine g_iinc 37 hM rfl rfl rfl rfl ?_
    refine g_goto 2 hM rfl rfl ?_
    cases h
    exact g_lv [(0, .ref 17), (1, .int (Int32.ofInt v1)), (2, .int (Int32.ofInt (v2 + 1)))] rfl ⟨rfl, rfl, rfl, trivial⟩ hK
  · rw [if_neg hc2] at h
    refine g_ic_ge_t 40 hM rfl rfl hg1 (zR_gI _ _ _) hc2 ?_
    cases h
    exact g_lv [] rfl trivial hK
theorem wl_116_2 {k : zK} {d : Nat} {x : am_H} {r : am_A × am_H} {v1 : Int} {n : Nat} {e : (Int × zS)} {t : (zS)} (hd : 0 ≤ d) (h : zlp (fun (q : Int × zS) => b_116_2 v1 q.1 q.2) n e = some t) (hK : K_116_2 k d x r v1 t) : G_116_2 k d x r v1 e := zlp_go (G := fun e => G_116_2 k d x r v1 e) (K := K_116_2 k d x r v1) (fun e e1 h1 hg => wb_116_2 (q := .inl e1) hd h1 hg) (fun e t1 h1 hk => wb_116_2 (q := .inr t1) hd h1 hk) n e t h hK
/-- RelationFinder$Machine.addIdentity(I)V -/
def f_116 (v1 : Int) (s : zS) : Option (Unit × zS) := zo (zlp (fun (q : Int × zS) => b_116_2 v1 q.1 q.2) zF (0, s)) (fun e1 => some ((), e1))
theorem w_116 {k : zK} {d : Nat} {x : am_H} {v1 : Int} {s : zS} {q : (Unit × zS)} (hd : 0 ≤ d) (h : f_116 v1 s = some q) : zgo k d 116 (0, [(0, .ref 17), (1, .int (Int32.ofInt v1))], []) (hp s ++ x) (.inl (none), hp q.2 ++ x) := by
  unfold f_116 at h
  have hM := xM_116 k.1
  refine g_iconst 1 hM rfl rfl ?_
  refine g_istore_n 2 hM rfl rfl rfl ?_
  obtain ⟨e1, h2, h⟩ := zo_some h
  refine g_lv [(0, .ref 17), (1, .int (Int32.ofInt v1)), (2, .int (Int32.ofInt 0))] rfl ⟨rfl, rfl, rfl, trivial⟩ ?_
  refine wl_116_2 (by omega) h2 ?_
  show zgo k d 116 (40, [], []) (hp e1 ++ x) (.inl (none), hp q.2 ++ x)
  cases h
  exact g_ret hM rfl rfl
def j_115_114 (v1 : Int) (v3 : Int) (v4 : Int) (s : zS) : Option (Unit × zS) := zg (0 ≤ (gI s 17 3) ∧ (gI s 17 3) < 22) (zg (zR v1) (if v1 = 17 then (zb (f_116 v4 (sI (sI s 19 (gI s 17 3) v3) 17 3 ((gI s 17 3) + 1))) (fun r5 s6 => some ((), s6))) else (some ((), (sI (sI s 19 (gI s 17 3) v3) 17 3 ((gI s 17 3) + 1))))))
theorem wj_115_114 {k : zK} {d : Nat} {x : am_H} {v1 : Int} {v3 : Int} {v4 : Int} {s : zS} {q : (Unit × zS)} (hd : 1 ≤ d) (h : j_115_114 v1 v3 v4 s = some q) : zgo k d 115 (114, [(0, .ref 17), (1, .int (Int32.ofInt v1)), (3, .int (Int32.ofInt v3)), (4, .int (Int32.ofInt v4))], []) (hp s ++ x) (.inl (none), hp q.2 ++ x) := by
  unfold j_115_114 at h
  have hM := xM_115 k.1
  refine g_aload_n 115 hM rfl rfl rfl ?_
  refine g_getF 118 hM rfl rfl rfl rfl rfl ?_
  refine g_aload_n 119 hM rfl rfl rfl ?_
  refine g_getI 122 3 (gI s 17 3) hM rfl rfl rfl rfl rfl rfl rfl ?_
  refine g_iload_n 123 hM rfl rfl rfl ?_
  obtain ⟨hg1, h⟩ := zg_some h
  refine g_iastore 124 hM rfl rfl rfl rfl hg1 ?_
  refine g_aload_n 125 hM rfl rfl rfl ?_
  refine g_dup 126 hM rfl rfl rfl ?_
  refine g_getI 129 3 (gI s 17 3) hM rfl rfl rfl rfl rfl rfl rfl ?_
  refine g_iconst 130 hM rfl rfl ?_
  refine g_iadd 131 hM rfl rfl ?_
  refine g_putI 134 3 hM rfl rfl rfl rfl rfl rfl rfl ?_
  refine g_iload_n 135 hM rfl rfl rfl ?_
  refine g_bipush 137 hM rfl rfl rfl ?_
  obtain ⟨hg2, h⟩ := zg_some h
  by_cases hc3 : v1 = 17
  · rw [if_pos hc3] at h
    refine g_ic_ne_f 140 146 hM rfl rfl rfl hg2 (zR_lit rfl) hc3 ?_
    refine g_aload_n 141 hM rfl rfl rfl ?_
    refine g_iload 143 hM rfl rfl rfl ?_
    obtain ⟨r5, s6, h4, h⟩ := zb_some h
    refine g_call 146 _ [] hM rfl rfl rfl rfl rfl (xM_116 _) rfl (z_rcv2 rfl) rfl rfl (by omega) (w_116 (by omega) h4) rfl ?_
    cases h
    exact g_ret hM rfl rfl
  · rw [if_neg hc3] at h
    refine g_ic_ne_t 146 hM rfl rfl hg2 (zR_lit rfl) hc3 ?_
    cases h
    exact g_ret hM rfl rfl
def j_115_66 (v1 : Int) (v2 : Int) (v3 : Int) (v4 : Int) (v5 : Int) (u0 : BitVec 64) (s : zS) : Option (Unit × zS) := zo (zlp (fun (q : Int × zS) => b_115_71 v1 v2 v3 v4 v5 u0 q.1 q.2) zF (0, s)) (fun e1 => zg (zR v1) (if v1 = 43 then (zg (0 ≤ (v4 + v2) ∧ (v4 + v2) < 2750) (j_115_114 v1 v3 v4 (sJ e1 18 (v4 + v2) (18446744073709551615#64)))) else (j_115_114 v1 v3 v4 e1)))
theorem wj_115_66 {k : zK} {d : Nat} {x : am_H} {v1 : Int} {v2 : Int} {v3 : Int} {v4 : Int} {v5 : Int} {u0 : BitVec 64} {s : zS} {q : (Unit × zS)} (hd : 1 ≤ d) (h : j_115_66 v1 v2 v3 v4 v5 u0 s = some q) : zgo k d 115 (66, [(0, .ref 17), (1, .int (Int32.ofInt v1)), (2, .int (Int32.ofInt v2)), (3, .int (Int32.ofInt v3)), (4, .int (Int32.ofInt v4)), (5, .int (Int32.ofInt v5))], [.long (Int64.ofBitVec u0)]) (hp s ++ x) (.inl (none), hp q.2 ++ x) := by
  unfold j_115_66 at h
  have hM := xM_115 k.1
  refine g_lstore 68 hM rfl rfl rfl ?_
  refine g_iconst 69 hM rfl rfl ?_
  refine g_istore 71 hM rfl rfl rfl ?_
  obtain ⟨e1, h2, h⟩ := zo_some h
  refine g_lv [(0, .ref 17), (1, .int (Int32.ofInt v1)), (2, .int (Int32.ofInt v2)), (3, .int (Int32.ofInt v3)), (4, .int (Int32.ofInt v4)), (5, .int (Int32.ofInt v5)), (6, .long (Int64.ofBitVec u0)), (8, .int (Int32.ofInt 0))] rfl ⟨rfl, rfl, rfl, rfl, rfl, rfl, rfl, rfl, trivial⟩ ?_
  refine wl_115_71 (by omega) h2 ?_
  show zgo k d 115 (96, [(0, .ref 17), (1, .int (Int32.ofInt v1)), (2, .int (Int32.ofInt v2)), (3, .int (Int32.ofInt v3)), (4, .int (Int32.ofInt v4))], []) (hp e1 ++ x) (.inl (none), hp q.2 ++ x)
  refine g_iload_n 97 hM rfl rfl rfl ?_
  refine g_bipush 99 hM rfl rfl rfl ?_
  obtain ⟨hg3, h⟩ := zg_some h
  by_cases hc4 : v1 = 43
  · rw [if_pos hc4] at h
    refine g_ic_ne_f 102 114 hM rfl rfl rfl hg3 (zR_lit rfl) hc4 ?_
    refine g_aload_n 103 hM rfl rfl rfl ?_
    refine g_getF 106 hM rfl rfl rfl rfl rfl ?_
    refine g_iload 108 hM rfl rfl rfl ?_
    refine g_iload_n 109 hM rfl rfl rfl ?_
    refine g_iadd 110 hM rfl rfl ?_
    refine g_ldc2 113 (18446744073709551615#64) hM rfl rfl rfl (by decide) ?_
    obtain ⟨hg5, h⟩ := zg_some h
    refine g_lastore 114 hM rfl rfl rfl rfl hg5 ?_
    refine g_lv [(0, .ref 17), (1, .int (Int32.ofInt v1)), (3, .int (Int32.ofInt v3)), (4, .int (Int32.ofInt v4))] rfl ⟨rfl, rfl, rfl, rfl, trivial⟩ ?_
    exact wj_115_114 (by omega) h
  · rw [if_neg hc4] at h
    refine g_ic_ne_t 114 hM rfl rfl hg3 (zR_lit rfl) hc4 ?_
    refine g_lv [(0, .ref 17), (1, .int (Int32.ofInt v1)), (3, .int (Int32.ofInt v3)), (4, .int (Int32.ofInt v4))] rfl ⟨rfl, rfl, rfl, rfl, trivial⟩ ?_
    exact wj_115_114 (by omega) h
def j_115_59 (v1 : Int) (v2 : Int) (v3 : Int) (v4 : Int) (v5 : Int) (s : zS) : Option (Unit × zS) := j_115_66 v1 v2 v3 v4 v5 (18446744073709551615#64) s
theorem wj_115_59 {k : zK} {d : Nat} {x : am_H} {v1 : Int} {v2 : Int} {v3 : Int} {v4 : Int} {v5 : Int} {s : zS} {q : (Unit × zS)} (hd : 1 ≤ d) (h : j_115_59 v1 v2 v3 v4 v5 s = some q) : zgo k d 115 (59, [(0, .ref 17), (1, .int (Int32.ofInt v1)), (2, .int (Int32.ofInt v2)), (3, .int (Int32.ofInt v3)), (4, .int (Int32.ofInt v4)), (5, .int (Int32.ofInt v5))], []) (hp s ++ x) (.inl (none), hp q.2 ++ x) := by
  unfold j_115_59 at h
  have hM := xM_115 k.1
  refine g_ldc2 62 (18446744073709551615#64) hM rfl rfl rfl (by decide) ?_
  refine g_goto 66 hM rfl rfl ?_
  refine g_lv [(0, .ref 17), (1, .int (Int32.ofInt v1)), (2, .int (Int32.ofInt v2)), (3, .int (Int32.ofInt v3)), (4, .int (Int32.ofInt v4)), (5, .int (Int32.ofInt v5))] rfl ⟨rfl, rfl, rfl, rfl, rfl, rfl, trivial⟩ ?_
  exact wj_115_66 (by omega) h
def j_115_27 (v1 : Int) (v2 : Int) (t0 : Int) (s : zS) : Option (Unit × zS) := zo (f_52 t0 s) (fun r2 => zg (zR v1) (if v1 = 16 then (j_115_59 v1 v2 t0 ((gI s 17 3) * 125) r2 s) else (if v1 = 18 then (j_115_59 v1 v2 t0 ((gI s 17 3) * 125) r2 s) else (j_115_66 v1 v2 t0 ((gI s 17 3) * 125) r2 (0#64) s))))
theorem wj_115_27 {k : zK} {d : Nat} {x : am_H} {v1 : Int} {v2 : Int} {t0 : Int} {s : zS} {q : (Unit × zS)} (hd : 1 ≤ d) (h : j_115_27 v1 v2 t0 s = some q) : zgo k d 115 (27, [(0, .ref 17), (1, .int (Int32.ofInt v1)), (2, .int (Int32.ofInt v2))], [.int (Int32.ofInt t0)]) (hp s ++ x) (.inl (none), hp q.2 ++ x) := by
  unfold j_115_27 at h
  have hM := xM_115 k.1
  refine g_istore_n 28 hM rfl rfl rfl ?_
  refine g_aload_n 29 hM rfl rfl rfl ?_
  refine g_getI 32 3 (gI s 17 3) hM rfl rfl rfl rfl rfl rfl rfl ?_
  refine g_bipush 34 hM rfl rfl rfl ?_
  refine g_imul 35 hM rfl rfl ?_
  refine g_istore 37 hM rfl rfl rfl ?_
  refine g_aload_n 38 hM rfl rfl rfl ?_
  refine g_getF 41 hM rfl rfl rfl rfl rfl ?_
  refine g_iload_n 42 hM rfl rfl rfl ?_
  obtain ⟨r2, h1, h⟩ := zo_some h
  refine g_call 45 _ [.int (Int32.ofInt r2)] hM rfl rfl rfl rfl rfl (xM_52 _) rfl (z_rcv2 rfl) rfl rfl (by omega) (w_52 (by omega) h1) rfl ?_
  refine g_istore 47 hM rfl rfl rfl ?_
  refine g_iload_n 48 hM rfl rfl rfl ?_
  refine g_bipush 50 hM rfl rfl rfl ?_
  obtain ⟨hg3, h⟩ := zg_some h
  by_cases hc4 : v1 = 16
  · rw [if_pos hc4] at h
    refine g_ic_eq_t 59 hM rfl rfl hg3 (zR_lit rfl) hc4 ?_
    refine g_lv [(0, .ref 17), (1, .int (Int32.ofInt v1)), (2, .int (Int32.ofInt v2)), (3, .int (Int32.ofInt t0)), (4, .int (Int32.ofInt ((gI s 17 3) * 125))), (5, .int (Int32.ofInt r2))] rfl ⟨rfl, rfl, rfl, rfl, rfl, rfl, trivial⟩ ?_
    exact wj_115_59 (by omega) h
  · rw [if_neg hc4] at h
    refine g_ic_eq_f 53 59 hM rfl rfl rfl hg3 (zR_lit rfl) hc4 ?_
    refine g_iload_n 54 hM rfl rfl rfl ?_
    refine g_bipush 56 hM rfl rfl rfl ?_
    by_cases hc5 : v1 = 18
    · rw [if_pos hc5] at h
      refine g_ic_ne_f 59 65 hM rfl rfl rfl hg3 (zR_lit rfl) hc5 ?_
      refine g_lv [(0, .ref 17), (1, .int (Int32.ofInt v1)), (2, .int (Int32.ofInt v2)), (3, .int (Int32.ofInt t0)), (4, .int (Int32.ofInt ((gI s 17 3) * 125))), (5, .int (Int32.ofInt r2))] rfl ⟨rfl, rfl, rfl, rfl, rfl, rfl, trivial⟩ ?_
      exact wj_115_59 (by omega) h
    · rw [if_neg hc5] at h
      refine g_ic_ne_t 65 hM rfl rfl hg3 (zR_lit rfl) hc5 ?_
      refine g_lconst 66 (0#64) hM rfl rfl rfl ?_
      refine g_lv [(0, .ref 17), (1, .int (Int32.ofInt v1)), (2, .int (Int32.ofInt v2)), (3, .int (Int32.ofInt t0)), (4, .int (Int32.ofInt ((gI s 17 3) * 125))), (5, .int (Int32.ofInt r2))] rfl ⟨rfl, rfl, rfl, rfl, rfl, rfl, trivial⟩ ?_
      exact wj_115_66 (by omega) h
def j_115_12 (v1 : Int) (v2 : Int) (s : zS) : Option (Unit × zS) := j_115_27 v1 v2 0 s
theorem wj_115_12 {k : zK} {d : Nat} {x : am_H} {v1 : Int} {v2 : Int} {s : zS} {q : (Unit × zS)} (hd : 1 ≤ d) (h : j_115_12 v1 v2 s = some q) : zgo k d 115 (12, [(0, .ref 17), (1, .int (Int32.ofInt v1)), (2, .int (Int32.ofInt v2))], []) (hp s ++ x) (.inl (none), hp q.2 ++ x) := by
  unfold j_115_12 at h
  have hM := xM_115 k.1
  refine g_iconst 13 hM rfl rfl ?_
  refine g_goto 27 hM rfl rfl ?_
  refine g_lv [(0, .ref 17), (1, .int (Int32.ofInt v1)), (2, .int (Int32.ofInt v2))] rfl ⟨rfl, rfl, rfl, trivial⟩ ?_
  exact wj_115_27 (by omega) h
/-- RelationFinder$Machine.pushConstant(II)V -/
def f_115 (v1 : Int) (v2 : Int) (s : zS) : Option (Unit × zS) := zg (zR v1) (if v1 = 18 then (j_115_12 v1 v2 s) else (if v1 = 19 then (j_115_12 v1 v2 s) else (if v1 = 17 then (j_115_27 v1 v2 2 s) else (j_115_27 v1 v2 1 s))))
theorem w_115 {k : zK} {d : Nat} {x : am_H} {v1 : Int} {v2 : Int} {s : zS} {q : (Unit × zS)} (hd : 1 ≤ d) (h : f_115 v1 v2 s = some q) : zgo k d 115 (0, [(0, .ref 17), (1, .int (Int32.ofInt v1)), (2, .int (Int32.ofInt v2))], []) (hp s ++ x) (.inl (none), hp q.2 ++ x) := by
  unfold f_115 at h
  have hM := xM_115 k.1
  refine g_iload_n 1 hM rfl rfl rfl ?_
  refine g_bipush 3 hM rfl rfl rfl ?_
  obtain ⟨hg1, h⟩ := zg_some h
  by_cases hc2 : v1 = 18
  · rw [if_pos hc2] at h
    refine g_ic_eq_t 12 hM rfl rfl hg1 (zR_lit rfl) hc2 ?_
    refine g_lv [(0, .ref 17), (1, .int (Int32.ofInt v1)), (2, .int (Int32.ofInt v2))] rfl ⟨rfl, rfl, rfl, trivial⟩ ?_
    exact wj_115_12 (by omega) h
  · rw [if_neg hc2] at h
    refine g_ic_eq_f 6 12 hM rfl rfl rfl hg1 (zR_lit rfl) hc2 ?_
    refine g_iload_n 7 hM rfl rfl rfl ?_
    refine g_bipush 9 hM rfl rfl rfl ?_
    by_cases hc3 : v1 = 19
    · rw [if_pos hc3] at h
      refine g_ic_ne_f 12 16 hM rfl rfl rfl hg1 (zR_lit rfl) hc3 ?_
      refine g_lv [(0, .ref 17), (1, .int (Int32.ofInt v1)), (2, .int (Int32.ofInt v2))] rfl ⟨rfl, rfl, rfl, trivial⟩ ?_
      exact wj_115_12 (by omega) h
    · rw [if_neg hc3] at h
      refine g_ic_ne_t 16 hM rfl rfl hg1 (zR_lit rfl) hc3 ?_
      refine g_iload_n 17 hM rfl rfl rfl ?_
      refine g_bipush 19 hM rfl rfl rfl ?_
      by_cases hc4 : v1 = 17
      · rw [if_pos hc4] at h
        refine g_ic_ne_f 22 26 hM rfl rfl rfl hg1 (zR_lit rfl) hc4 ?_
        refine g_iconst 23 hM rfl rfl ?_
        refine g_goto 27 hM rfl rfl ?_
        refine g_lv [(0, .ref 17), (1, .int (Int32.ofInt v1)), (2, .int (Int32.ofInt v2))] rfl ⟨rfl, rfl, rfl, trivial⟩ ?_
        exact wj_115_27 (by omega) h
      · rw [if_neg hc4] at h
        refine g_ic_ne_t 26 hM rfl rfl hg1 (zR_lit rfl) hc4 ?_
        refine g_iconst 27 hM rfl rfl ?_
        refine g_lv [(0, .ref 17), (1, .int (Int32.ofInt v1)), (2, .int (Int32.ofInt v2))] rfl ⟨rfl, rfl, rfl, trivial⟩ ?_
        exact wj_115_27 (by omega) h
def G_117_34 (k : zK) (d : Nat) (x : am_H) (r : am_A × am_H) (v1 : Int) (v2 : Int) (v3 : Int) (v4 : Int) (e : (Int × zS)) : Prop := zgo k d 117 (34, [(0, .ref 17), (1, .int (Int32.ofInt v1)), (2, .int (Int32.ofInt v2)), (3, .int (Int32.ofInt v3)), (4, .int (Int32.ofInt v4)), (5, .int (Int32.ofInt e.1))], []) (hp e.2 ++ x) r
def K_117_34 (k : zK) (d : Nat) (x : am_H) (r : am_A × am_H) (v1 : Int) (v2 : Int) (v3 : Int) (v4 : Int) (t : (zS)) : Prop := zgo k d 117 (68, [(0, .ref 17), (1, .int (Int32.ofInt v1))], []) (hp t ++ x) r
def b_117_34 (v1 : Int) (v2 : Int) (v3 : Int) (v4 : Int) (v5 : Int) (s : zS) : Option ((Int × zS) ⊕ (zS)) := zg (zR v5) (zg (zR v4) (if v5 < v4 then (zg (0 ≤ (v3 + v5) ∧ (v3 + v5) < 1000) (zg (0 ≤ (v2 + v5) ∧ (v2 + v5) < 2750) (some (.inl ((v5 + 1), (sJ s 18 (v2 + v5) (gJ s 6 (v3 + v5)))))))) else (some (.inr s))))
theorem wb_117_34 {k : zK} {d : Nat} {x : am_H} {r : am_A × am_H} {v1 : Int} {v2 : Int} {v3 : Int} {v4 : Int} {v5 : Int} {s : zS} {q : (Int × zS) ⊕ (zS)} (hd : 1 ≤ d) (h : b_117_34 v1 v2 v3 v4 v5 s = some q) (hK : Sum.elim (G_117_34 k d x r v1 v2 v3 v4) (K_117_34 k d x r v1 v2 v3 v4) q) : G_117_34 k d x r v1 v2 v3 v4 (v5, s) := by
  unfold b_117_34 at h
  have hM := xM_117 k.1
  show zgo k d 117 (34, [(0, .ref 17), (1, .int (Int32.ofInt v1)), (2, .int (Int32.ofInt v2)), (3, .int (Int32.ofInt v3)), (4, .int (Int32.ofInt v4)), (5, .int (Int32.ofInt v5))], []) (hp s ++ x) r
  refine g_iload 36 hM rfl rfl rfl ?_
  refine g_iload 38 hM rfl rfl rfl ?_
  obtain ⟨hg1, h⟩ := zg_some h
  obtain ⟨hg2, h⟩ := zg_some h
  by_cases hc3 : v5 < v4
  · rw [if_pos hc3] at h
    refine g_ic_ge_f 41 68 hM rfl rfl rfl hg1 hg2 hc3 ?_
    refine g_aload_n 42 hM rfl rfl rfl ?_
    refine g_getF 45 hM rfl rfl rfl rfl rfl ?_
    refine g_iload_n 46 hM rfl rfl rfl ?_
    refine g_iload 48 hM rfl rfl rfl ?_
    refine g_iadd 49 hM rfl rfl ?_
    refine g_aload_n 50 hM rfl rfl rfl ?_
    refine g_getF 53 hM rfl rfl rfl rfl rfl ?_
    refine g_getF 56 hM rfl rfl rfl rfl rfl ?_
    refine g_iload_n 57 hM rfl rfl rfl ?_
    refine g_iload 59 hM rfl rfl rfl ?_
    refine g_iadd 60 hM rfl rfl ?_
    obtain ⟨hg4, h⟩ := zg_some h
    refine g_laload 61 (gJ s 6 (v3 + v5)) hM rfl rfl rfl rfl hg4 rfl ?_
    obtain ⟨hg5, h⟩ := zg_some h
    refine g_lastore 62 hM rfl rfl rfl rfl hg5 ?_
    refine g_iinc 65 hM rfl rfl rfl rfl ?_
    refine g_goto 34 hM rfl rfl ?_
    cases h
    exact g_lv [(0, .ref 17), (1, .int (Int32.ofInt v1)), (2, .int (Int32.ofInt v2)), (3, .int (Int32.ofInt v3)), (4, .int (Int32.ofInt v4)), (5, .int (Int32.ofInt (v5 + 1)))] rfl ⟨rfl, rfl, rfl, rfl, rfl, rfl, trivial⟩ hK
  · rw [if_neg hc3] at h
    refine g_ic_ge_t 68 hM rfl rfl hg1 hg2 hc3 ?_
    cases h
    exact g_lv [(0, .ref 17), (1, .int (Int32.ofInt v1))] rfl ⟨rfl, rfl, trivial⟩ hK
theorem wl_117_34 {k : zK} {d : Nat} {x : am_H} {r : am_A × am_H} {v1 : Int} {v2 : Int} {v3 : Int} {v4 : Int} {n : Nat} {e : (Int × zS)} {t : (zS)} (hd : 1 ≤ d) (h : zlp (fun (q : Int × zS) => b_117_34 v1 v2 v3 v4 q.1 q.2) n e = some t) (hK : K_117_34 k d x r v1 v2 v3 v4 t) : G_117_34 k d x r v1 v2 v3 v4 e := zlp_go (G := fun e => G_117_34 k d x r v1 v2 v3 v4 e) (K := K_117_34 k d x r v1 v2 v3 v4) (fun e e1 h1 hg => wb_117_34 (q := .inl e1) hd h1 hg) (fun e t1 h1 hk => wb_117_34 (q := .inr t1) hd h1 hk) n e t h hK
/-- RelationFinder$Machine.pushRelation(I)V -/
def f_117 (v1 : Int) (s : zS) : Option (Unit × zS) := zg (0 ≤ v1 ∧ v1 < 8) (zo (f_52 (gI s 4 v1) s) (fun r3 => zo (zlp (fun (q : Int × zS) => b_117_34 v1 ((gI s 17 3) * 125) (v1 * 125) r3 q.1 q.2) zF (0, s)) (fun e4 => zg (0 ≤ (gI e4 17 3) ∧ (gI e4 17 3) < 22) (some ((), (sI (sI e4 19 (gI e4 17 3) (gI e4 4 v1)) 17 3 ((gI e4 17 3) + 1)))))))
theorem w_117 {k : zK} {d : Nat} {x : am_H} {v1 : Int} {s : zS} {q : (Unit × zS)} (hd : 1 ≤ d) (h : f_117 v1 s = some q) : zgo k d 117 (0, [(0, .ref 17), (1, .int (Int32.ofInt v1))], []) (hp s ++ x) (.inl (none), hp q.2 ++ x) := by
  unfold f_117 at h
  have hM := xM_117 k.1
  refine g_aload_n 1 hM rfl rfl rfl ?_
  refine g_getI 4 3 (gI s 17 3) hM rfl rfl rfl rfl rfl rfl rfl ?_
  refine g_bipush 6 hM rfl rfl rfl ?_
  refine g_imul 7 hM rfl rfl ?_
  refine g_istore_n 8 hM rfl rfl rfl ?_
  refine g_iload_n 9 hM rfl rfl rfl ?_
  refine g_bipush 11 hM rfl rfl rfl ?_
  refine g_imul 12 hM rfl rfl ?_
  refine g_istore_n 13 hM rfl rfl rfl ?_
  refine g_aload_n 14 hM rfl rfl rfl ?_
  refine g_getF 17 hM rfl rfl rfl rfl rfl ?_
  refine g_aload_n 18 hM rfl rfl rfl ?_
  refine g_getF 21 hM rfl rfl rfl rfl rfl ?_
  refine g_getF 24 hM rfl rfl rfl rfl rfl ?_
  refine g_iload_n 25 hM rfl rfl rfl ?_
  obtain ⟨hg1, h⟩ := zg_some h
  refine g_iaload 26 (gI s 4 v1) hM rfl rfl rfl rfl hg1 rfl ?_
  obtain ⟨r3, h2, h⟩ := zo_some h
  refine g_call 29 _ [.int (Int32.ofInt r3)] hM rfl rfl rfl rfl rfl (xM_52 _) rfl (z_rcv2 rfl) rfl rfl (by omega) (w_52 (by omega) h2) rfl ?_
  refine g_istore 31 hM rfl rfl rfl ?_
  refine g_iconst 32 hM rfl rfl ?_
  refine g_istore 34 hM rfl rfl rfl ?_
  obtain ⟨e4, h5, h⟩ := zo_some h
  refine g_lv [(0, .ref 17), (1, .int (Int32.ofInt v1)), (2, .int (Int32.ofInt ((gI s 17 3) * 125))), (3, .int (Int32.ofInt (v1 * 125))), (4, .int (Int32.ofInt r3)), (5, .int (Int32.ofInt 0))] rfl ⟨rfl, rfl, rfl, rfl, rfl, rfl, trivial⟩ ?_
  refine wl_117_34 (by omega) h5 ?_
  show zgo k d 117 (68, [(0, .ref 17), (1, .int (Int32.ofInt v1))], []) (hp e4 ++ x) (.inl (none), hp q.2 ++ x)
  refine g_aload_n 69 hM rfl rfl rfl ?_
  refine g_getF 72 hM rfl rfl rfl rfl rfl ?_
  refine g_aload_n 73 hM rfl rfl rfl ?_
  refine g_getI 76 3 (gI e4 17 3) hM rfl rfl rfl rfl rfl rfl rfl ?_
  refine g_aload_n 77 hM rfl rfl rfl ?_
  refine g_getF 80 hM rfl rfl rfl rfl rfl ?_
  refine g_getF 83 hM rfl rfl rfl rfl rfl ?_
  refine g_iload_n 84 hM rfl rfl rfl ?_
  refine g_iaload 85 (gI e4 4 v1) hM rfl rfl rfl rfl hg1 rfl ?_
  obtain ⟨hg6, h⟩ := zg_some h
  refine g_iastore 86 hM rfl rfl rfl rfl hg6 ?_
  refine g_aload_n 87 hM rfl rfl rfl ?_
  refine g_dup 88 hM rfl rfl rfl ?_
  refine g_getI 91 3 (gI e4 17 3) hM rfl rfl rfl rfl rfl rfl rfl ?_
  refine g_iconst 92 hM rfl rfl ?_
  refine g_iadd 93 hM rfl rfl ?_
  refine g_putI 96 3 hM rfl rfl rfl rfl rfl rfl rfl ?_
  cases h
  exact g_ret hM rfl rfl
def G_270_6 (k : zK) (d : Nat) (x : am_H) (r : am_A × am_H) (w1 : BitVec 64) (v4 : Int) (e : (Int × zS)) : Prop := zgo k d 270 (6, [(0, .ref 22), (1, .long (Int64.ofBitVec w1)), (3, .int (Int32.ofInt e.1)), (4, .int (Int32.ofInt v4))], []) (hp e.2 ++ x) r
def K_270_6 (k : zK) (d : Nat) (x : am_H) (r : am_A × am_H) (w1 : BitVec 64) (v4 : Int) (t : (zS)) : Prop := zgo k d 270 (22, [], []) (hp t ++ x) r
def b_270_6 (w1 : BitVec 64) (v4 : Int) (v3 : Int) (s : zS) : Option ((Int × zS) ⊕ (zS)) := zg (zR v3) (zg (zR v4) (if v3 < v4 then (zg (0 ≤ v3 ∧ v3 < 10) (some (.inl ((v3 + 1), (sJ s 22 v3 w1))))) else (some (.inr s))))
theorem wb_270_6 {k : zK} {d : Nat} {x : am_H} {r : am_A × am_H} {w1 : BitVec 64} {v4 : Int} {v3 : Int} {s : zS} {q : (Int × zS) ⊕ (zS)} (hd : 0 ≤ d) (h : b_270_6 w1 v4 v3 s = some q) (hK : Sum.elim (G_270_6 k d x r w1 v4) (K_270_6 k d x r w1 v4) q) : G_270_6 k d x r w1 v4 (v3, s) := by
  unfold b_270_6 at h
  have hM := xM_270 k.1
  show zgo k d 270 (6, [(0, .ref 22), (1, .long (Int64.ofBitVec w1)), (3, .int (Int32.ofInt v3)), (4, .int (Int32.ofInt v4))], []) (hp s ++ x) r
  refine g_iload_n 7 hM rfl rfl rfl ?_
  refine g_iload 9 hM rfl rfl rfl ?_
  obtain ⟨hg1, h⟩ := zg_some h
  obtain ⟨hg2, h⟩ := zg_some h
  by_cases hc3 : v3 < v4
  · rw [if_pos hc3] at h
    refine g_ic_ge_f 12 22 hM rfl rfl rfl hg1 hg2 hc3 ?_
    refine g_aload_n 13 hM rfl rfl rfl ?_
    refine g_iload_n 14 hM rfl rfl rfl ?_
    refine g_lload_n 15 hM rfl rfl rfl ?_
    obtain ⟨hg4, h⟩ := zg_some h
    refine g_lastore 16 hM rfl rfl rfl rfl hg4 ?_
    refine g_iinc 19 hM rfl rfl rfl rfl ?_
    refine g_goto 6 hM rfl rfl ?_
    cases h
    exact g_lv [(0, .ref 22), (1, .long (Int64.ofBitVec w1)), (3, .int (Int32.ofInt (v3 + 1))), (4, .int (Int32.ofInt v4))] rfl ⟨rfl, rfl, rfl, rfl, trivial⟩ hK
  · rw [if_neg hc3] at h
    refine g_ic_ge_t 22 hM rfl rfl hg1 hg2 hc3 ?_
    cases h
    exact g_lv [] rfl trivial hK
theorem wl_270_6 {k : zK} {d : Nat} {x : am_H} {r : am_A × am_H} {w1 : BitVec 64} {v4 : Int} {n : Nat} {e : (Int × zS)} {t : (zS)} (hd : 0 ≤ d) (h : zlp (fun (q : Int × zS) => b_270_6 w1 v4 q.1 q.2) n e = some t) (hK : K_270_6 k d x r w1 v4 t) : G_270_6 k d x r w1 v4 e := zlp_go (G := fun e => G_270_6 k d x r w1 v4 e) (K := K_270_6 k d x r w1 v4) (fun e e1 h1 hg => wb_270_6 (q := .inl e1) hd h1 hg) (fun e t1 h1 hk => wb_270_6 (q := .inr t1) hd h1 hk) n e t h hK
/-- java/util/Arrays.fill([JJ)V -/
def f_270 (w1 : BitVec 64) (s : zS) : Option (Unit × zS) := zo (zlp (fun (q : Int × zS) => b_270_6 w1 10 q.1 q.2) zF (0, s)) (fun e1 => some ((), e1))
theorem w_270 {k : zK} {d : Nat} {x : am_H} {w1 : BitVec 64} {s : zS} {q : (Unit × zS)} (hd : 0 ≤ d) (h : f_270 w1 s = some q) : zgo k d 270 (0, [(0, .ref 22), (1, .long (Int64.ofBitVec w1))], []) (hp s ++ x) (.inl (none), hp q.2 ++ x) := by
  unfold f_270 at h
  have hM := xM_270 k.1
  refine g_iconst 1 hM rfl rfl ?_
  refine g_istore_n 2 hM rfl rfl rfl ?_
  refine g_aload_n 3 hM rfl rfl rfl ?_
  refine g_alen 4 10 hM rfl rfl rfl rfl rfl ?_
  refine g_istore 6 hM rfl rfl rfl ?_
  obtain ⟨e1, h2, h⟩ := zo_some h
  refine g_lv [(0, .ref 22), (1, .long (Int64.ofBitVec w1)), (3, .int (Int32.ofInt 0)), (4, .int (Int32.ofInt 10))] rfl ⟨rfl, rfl, rfl, rfl, trivial⟩ ?_
  refine wl_270_6 (by omega) h2 ?_
  show zgo k d 270 (22, [], []) (hp e1 ++ x) (.inl (none), hp q.2 ++ x)
  cases h
  exact g_ret hM rfl rfl
def G_118_50 (k : zK) (d : Nat) (x : am_H) (r : am_A × am_H) (v1 : Int) (v2 : Int) (v3 : Int) (v4 : Int) (e : (Int × zS)) : Prop := zgo k d 118 (50, [(0, .ref 17), (1, .int (Int32.ofInt v1)), (2, .int (Int32.ofInt v2)), (3, .int (Int32.ofInt v3)), (4, .int (Int32.ofInt v4)), (5, .int (Int32.ofInt e.1))], []) (hp e.2 ++ x) r
def K_118_50 (k : zK) (d : Nat) (x : am_H) (r : am_A × am_H) (v1 : Int) (v2 : Int) (v3 : Int) (v4 : Int) (t : (zS)) : Prop := zgo k d 118 (125, [(0, .ref 17), (1, .int (Int32.ofInt v1)), (2, .int (Int32.ofInt v2)), (3, .int (Int32.ofInt v3))], []) (hp t ++ x) r
def G_118_71 (k : zK) (d : Nat) (x : am_H) (r : am_A × am_H) (v1 : Int) (v2 : Int) (v3 : Int) (v4 : Int) (v5 : Int) (e : (BitVec 64 × Int × zS)) : Prop := zgo k d 118 (71, [(0, .ref 17), (1, .int (Int32.ofInt v1)), (2, .int (Int32.ofInt v2)), (3, .int (Int32.ofInt v3)), (4, .int (Int32.ofInt v4)), (5, .int (Int32.ofInt v5)), (6, .long (Int64.ofBitVec e.1)), (8, .int (Int32.ofInt e.2.1))], []) (hp e.2.2 ++ x) r
def K_118_71 (k : zK) (d : Nat) (x : am_H) (r : am_A × am_H) (v1 : Int) (v2 : Int) (v3 : Int) (v4 : Int) (v5 : Int) (t : (zS)) : Prop := zgo k d 118 (119, [(0, .ref 17), (1, .int (Int32.ofInt v1)), (2, .int (Int32.ofInt v2)), (3, .int (Int32.ofInt v3)), (4, .int (Int32.ofInt v4)), (5, .int (Int32.ofInt v5))], []) (hp t ++ x) r
def b_118_71 (v1 : Int) (v2 : Int) (v3 : Int) (v4 : Int) (v5 : Int) (w6 : BitVec 64) (v8 : Int) (s : zS) : Option ((BitVec 64 × Int × zS) ⊕ (zS)) := zg (zR v8) (if v8 < 10 then (if w6 = (0#64) then (some (.inr s)) else (zg (0 ≤ v8 ∧ v8 < 10) (some (.inl (((gJ s 22 v8) &&& w6), (v8 + 1), (sJ s 22 v8 ((gJ s 22 v8) ^^^ w6))))))) else (some (.inr s)))
theorem wb_118_71 {k : zK} {d : Nat} {x : am_H} {r : am_A × am_H} {v1 : Int} {v2 : Int} {v3 : Int} {v4 : Int} {v5 : Int} {w6 : BitVec 64} {v8 : Int} {s : zS} {q : (BitVec 64 × Int × zS) ⊕ (zS)} (hd : 1 ≤ d) (h : b_118_71 v1 v2 v3 v4 v5 w6 v8 s = some q) (hK : Sum.elim (G_118_71 k d x r v1 v2 v3 v4 v5) (K_118_71 k d x r v1 v2 v3 v4 v5) q) : G_118_71 k d x r v1 v2 v3 v4 v5 (w6, v8, s) := by
  unfold b_118_71 at h
  have hM := xM_118 k.1
  show zgo k d 118 (71, [(0, .ref 17), (1, .int (Int32.ofInt v1)), (2, .int (Int32.ofInt v2)), (3, .int (Int32.ofInt v3)), (4, .int (Int32.ofInt v4)), (5, .int (Int32.ofInt v5)), (6, .long (Int64.ofBitVec w6)), (8, .int (Int32.ofInt v8))], []) (hp s ++ x) r
  refine g_iload 73 hM rfl rfl rfl ?_
  refine g_bipush 75 hM rfl rfl rfl ?_
  obtain ⟨hg1, h⟩ := zg_some h
  by_cases hc2 : v8 < 10
  · rw [if_pos hc2] at h
    refine g_ic_ge_f 78 119 hM rfl rfl rfl hg1 (zR_lit rfl) hc2 ?_
    refine g_lload 80 hM rfl rfl rfl ?_
    refine g_lconst 81 (0#64) hM rfl rfl rfl ?_
    by_cases hc3 : w6 = (0#64)
    · rw [if_pos hc3] at h
      refine g_lc_eq_t 82 119 hM rfl rfl rfl rfl hc3 ?_
      cases h
      exact g_lv [(0, .ref 17), (1, .int (Int32.ofInt v1)), (2, .int (Int32.ofInt v2)), (3, .int (Int32.ofInt v3)), (4, .int (Int32.ofInt v4)), (5, .int (Int32.ofInt v5))] rfl ⟨rfl, rfl, rfl, rfl, rfl, rfl, trivial⟩ hK
    · rw [if_neg hc3] at h
      refine g_lc_eq_f 82 85 119 hM rfl rfl rfl rfl rfl hc3 ?_
      refine g_aload_n 86 hM rfl rfl rfl ?_
      refine g_getF 89 hM rfl rfl rfl rfl rfl ?_
      refine g_iload 91 hM rfl rfl rfl ?_
      obtain ⟨hg4, h⟩ := zg_some h
      refine g_laload 92 (gJ s 22 v8) hM rfl rfl rfl rfl hg4 rfl ?_
      refine g_lload 94 hM rfl rfl rfl ?_
      refine g_land 95 hM rfl rfl ?_
      refine g_lstore 97 hM rfl rfl rfl ?_
      refine g_aload_n 98 hM rfl rfl rfl ?_
      refine g_getF 101 hM rfl rfl rfl rfl rfl ?_
      refine g_iload 103 hM rfl rfl rfl ?_
      refine g_dup2 104 hM rfl rfl rfl rfl ?_
      refine g_laload 105 (gJ s 22 v8) hM rfl rfl rfl rfl hg4 rfl ?_
      refine g_lload 107 hM rfl rfl rfl ?_
      refine g_lxor 108 hM rfl rfl ?_
      refine g_lastore 109 hM rfl rfl rfl rfl hg4 ?_
      refine g_lload 111 hM rfl rfl rfl ?_
      refine g_lstore 113 hM rfl rfl rfl ?_
      refine g_iinc 116 hM rfl rfl rfl rfl ?_
      refine g_goto 71 hM rfl rfl ?_
      cases h
      exact g_lv [(0, .ref 17), (1, .int (Int32.ofInt v1)), (2, .int (Int32.ofInt v2)), (3, .int (Int32.ofInt v3)), (4, .int (Int32.ofInt v4)), (5, .int (Int32.ofInt v5)), (6, .long (Int64.ofBitVec ((gJ s 22 v8) &&& w6))), (8, .int (Int32.ofInt (v8 + 1)))] rfl ⟨rfl, rfl, rfl, rfl, rfl, rfl, rfl, rfl, trivial⟩ hK
  · rw [if_neg hc2] at h
    refine g_ic_ge_t 119 hM rfl rfl hg1 (zR_lit rfl) hc2 ?_
    cases h
    exact g_lv [(0, .ref 17), (1, .int (Int32.ofInt v1)), (2, .int (Int32.ofInt v2)), (3, .int (Int32.ofInt v3)), (4, .int (Int32.ofInt v4)), (5, .int (Int32.ofInt v5))] rfl ⟨rfl, rfl, rfl, rfl, rfl, rfl, trivial⟩ hK
theorem wl_118_71 {k : zK} {d : Nat} {x : am_H} {r : am_A × am_H} {v1 : Int} {v2 : Int} {v3 : Int} {v4 : Int} {v5 : Int} {n : Nat} {e : (BitVec 64 × Int × zS)} {t : (zS)} (hd : 1 ≤ d) (h : zlp (fun (q : BitVec 64 × Int × zS) => b_118_71 v1 v2 v3 v4 v5 q.1 q.2.1 q.2.2) n e = some t) (hK : K_118_71 k d x r v1 v2 v3 v4 v5 t) : G_118_71 k d x r v1 v2 v3 v4 v5 e := zlp_go (G := fun e => G_118_71 k d x r v1 v2 v3 v4 v5 e) (K := K_118_71 k d x r v1 v2 v3 v4 v5) (fun e e1 h1 hg => wb_118_71 (q := .inl e1) hd h1 hg) (fun e t1 h1 hk => wb_118_71 (q := .inr t1) hd h1 hk) n e t h hK
def b_118_50 (v1 : Int) (v2 : Int) (v3 : Int) (v4 : Int) (v5 : Int) (s : zS) : Option ((Int × zS) ⊕ (zS)) := zg (zR v5) (zg (zR v4) (if v5 < v4 then (zg (0 ≤ (v3 + v5) ∧ (v3 + v5) < 2750) (zo (zlp (fun (q : BitVec 64 × Int × zS) => b_118_71 v1 v2 v3 v4 v5 q.1 q.2.1 q.2.2) zF ((gJ s 18 (v3 + v5)), 0, s)) (fun e5 => some (.inl ((v5 + 1), e5))))) else (some (.inr s))))
theorem wb_118_50 {k : zK} {d : Nat} {x : am_H} {r : am_A × am_H} {v1 : Int} {v2 : Int} {v3 : Int} {v4 : Int} {v5 : Int} {s : zS} {q : (Int × zS) ⊕ (zS)} (hd : 1 ≤ d) (h : b_118_50 v1 v2 v3 v4 v5 s = some q) (hK : Sum.elim (G_118_50 k d x r v1 v2 v3 v4) (K_118_50 k d x r v1 v2 v3 v4) q) : G_118_50 k d x r v1 v2 v3 v4 (v5, s) := by
  unfold b_118_50 at h
  have hM := xM_118 k.1
  show zgo k d 118 (50, [(0, .ref 17), (1, .int (Int32.ofInt v1)), (2, .int (Int32.ofInt v2)), (3, .int (Int32.ofInt v3)), (4, .int (Int32.ofInt v4)), (5, .int (Int32.ofInt v5))], []) (hp s ++ x) r
  refine g_iload 52 hM rfl rfl rfl ?_
  refine g_iload 54 hM rfl rfl rfl ?_
  obtain ⟨hg1, h⟩ := zg_some h
  obtain ⟨hg2, h⟩ := zg_some h
  by_cases hc3 : v5 < v4
  · rw [if_pos hc3] at h
    refine g_ic_ge_f 57 125 hM rfl rfl rfl hg1 hg2 hc3 ?_
    refine g_aload_n 58 hM rfl rfl rfl ?_
    refine g_getF 61 hM rfl rfl rfl rfl rfl ?_
    refine g_iload_n 62 hM rfl rfl rfl ?_
    refine g_iload 64 hM rfl rfl rfl ?_
    refine g_iadd 65 hM rfl rfl ?_
    obtain ⟨hg4, h⟩ := zg_some h
    refine g_laload 66 (gJ s 18 (v3 + v5)) hM rfl rfl rfl rfl hg4 rfl ?_
    refine g_lstore 68 hM rfl rfl rfl ?_
    refine g_iconst 69 hM rfl rfl ?_
    refine g_istore 71 hM rfl rfl rfl ?_
    obtain ⟨e5, h6, h⟩ := zo_some h
    refine g_lv [(0, .ref 17), (1, .int (Int32.ofInt v1)), (2, .int (Int32.ofInt v2)), (3, .int (Int32.ofInt v3)), (4, .int (Int32.ofInt v4)), (5, .int (Int32.ofInt v5)), (6, .long (Int64.ofBitVec (gJ s 18 (v3 + v5)))), (8, .int (Int32.ofInt 0))] rfl ⟨rfl, rfl, rfl, rfl, rfl, rfl, rfl, rfl, trivial⟩ ?_
    refine wl_118_71 (by omega) h6 ?_
    show zgo k d 118 (119, [(0, .ref 17), (1, .int (Int32.ofInt v1)), (2, .int (Int32.ofInt v2)), (3, .int (Int32.ofInt v3)), (4, .int (Int32.ofInt v4)), (5, .int (Int32.ofInt v5))], []) (hp e5 ++ x) r
    refine g_iinc 122 hM rfl rfl rfl rfl ?_
    refine g_goto 50 hM rfl rfl ?_
    cases h
    exact g_lv [(0, .ref 17), (1, .int (Int32.ofInt v1)), (2, .int (Int32.ofInt v2)), (3, .int (Int32.ofInt v3)), (4, .int (Int32.ofInt v4)), (5, .int (Int32.ofInt (v5 + 1)))] rfl ⟨rfl, rfl, rfl, rfl, rfl, rfl, trivial⟩ hK
  · rw [if_neg hc3] at h
    refine g_ic_ge_t 125 hM rfl rfl hg1 hg2 hc3 ?_
    cases h
    exact g_lv [(0, .ref 17), (1, .int (Int32.ofInt v1)), (2, .int (Int32.ofInt v2)), (3, .int (Int32.ofInt v3))] rfl ⟨rfl, rfl, rfl, rfl, trivial⟩ hK
theorem wl_118_50 {k : zK} {d : Nat} {x : am_H} {r : am_A × am_H} {v1 : Int} {v2 : Int} {v3 : Int} {v4 : Int} {n : Nat} {e : (Int × zS)} {t : (zS)} (hd : 1 ≤ d) (h : zlp (fun (q : Int × zS) => b_118_50 v1 v2 v3 v4 q.1 q.2) n e = some t) (hK : K_118_50 k d x r v1 v2 v3 v4 t) : G_118_50 k d x r v1 v2 v3 v4 e := zlp_go (G := fun e => G_118_50 k d x r v1 v2 v3 v4 e) (K := K_118_50 k d x r v1 v2 v3 v4) (fun e e1 h1 hg => wb_118_50 (q := .inl e1) hd h1 hg) (fun e t1 h1 hk => wb_118_50 (q := .inr t1) hd h1 hk) n e t h hK
def G_118_137 (k : zK) (d : Nat) (x : am_H) (r : am_A × am_H) (v1 : Int) (v2 : Int) (v3 : Int) (s : zS) (e : (BitVec 64 × BitVec 64 × Int)) : Prop := zgo k d 118 (137, [(0, .ref 17), (1, .int (Int32.ofInt v1)), (2, .int (Int32.ofInt v2)), (3, .int (Int32.ofInt v3)), (5, .long (Int64.ofBitVec e.1)), (7, .long (Int64.ofBitVec e.2.1)), (9, .int (Int32.ofInt e.2.2))], []) (hp s ++ x) r
def K_118_137 (k : zK) (d : Nat) (x : am_H) (r : am_A × am_H) (v1 : Int) (v2 : Int) (v3 : Int) (s : zS) (t : (BitVec 64 × BitVec 64)) : Prop := zgo k d 118 (207, [(0, .ref 17), (1, .int (Int32.ofInt v1)), (3, .int (Int32.ofInt v3)), (5, .long (Int64.ofBitVec t.1)), (7, .long (Int64.ofBitVec t.2))], []) (hp s ++ x) r
def b_118_137 (v1 : Int) (v2 : Int) (v3 : Int) (s : zS) (w5 : BitVec 64) (w7 : BitVec 64) (v9 : Int) : Option ((BitVec 64 × BitVec 64 × Int) ⊕ (BitVec 64 × BitVec 64)) := zg (zR v9) (if v9 < 0 then (some (.inr (w5, w7))) else (zg (0 ≤ v2 ∧ zR v2) (if (zand (v2 / 2 ^ zsh v9) 1) = 0 then (zg (0 ≤ v9 ∧ v9 < 10) (some (.inl (w5, (w7 &&& ((gJ s 22 v9) ^^^ (18446744073709551615#64))), (v9 + (-1)))))) else (zg (0 ≤ v9 ∧ v9 < 10) (some (.inl ((w5 ||| (w7 &&& ((gJ s 22 v9) ^^^ (18446744073709551615#64)))), (w7 &&& (gJ s 22 v9)), (v9 + (-1)))))))))
theorem wb_118_137 {k : zK} {d : Nat} {x : am_H} {r : am_A × am_H} {v1 : Int} {v2 : Int} {v3 : Int} {w5 : BitVec 64} {w7 : BitVec 64} {v9 : Int} {s : zS} {q : (BitVec 64 × BitVec 64 × Int) ⊕ (BitVec 64 × BitVec 64)} (hd : 1 ≤ d) (h : b_118_137 v1 v2 v3 s w5 w7 v9 = some q) (hK : Sum.elim (G_118_137 k d x r v1 v2 v3 s) (K_118_137 k d x r v1 v2 v3 s) q) : G_118_137 k d x r v1 v2 v3 s (w5, w7, v9) := by
  unfold b_118_137 at h
  have hM := xM_118 k.1
  show zgo k d 118 (137, [(0, .ref 17), (1, .int (Int32.ofInt v1)), (2, .int (Int32.ofInt v2)), (3, .int (Int32.ofInt v3)), (5, .long (Int64.ofBitVec w5)), (7, .long (Int64.ofBitVec w7)), (9, .int (Int32.ofInt v9))], []) (hp s ++ x) r
  refine g_iload 139 hM rfl rfl rfl ?_
  obtain ⟨hg1, h⟩ := zg_some h
  by_cases hc2 : v9 < 0
  · rw [if_pos hc2] at h
    refine g_if_lt_t 207 hM rfl rfl hg1 hc2 ?_
    cases h
    exact g_lv [(0, .ref 17), (1, .int (Int32.ofInt v1)), (3, .int (Int32.ofInt v3)), (5, .long (Int64.ofBitVec w5)), (7, .long (Int64.ofBitVec w7))] rfl ⟨rfl, rfl, rfl, rfl, rfl, trivial⟩ hK
  · rw [if_neg hc2] at h
    refine g_if_lt_f 142 207 hM rfl rfl rfl hg1 hc2 ?_
    refine g_iload_n 143 hM rfl rfl rfl ?_
    refine g_iload 145 hM rfl rfl rfl ?_
    obtain ⟨hg3, h⟩ := zg_some h
    refine g_iushr 146 hM rfl rfl hg3 ?_
    refine g_iconst 147 hM rfl rfl ?_
    refine g_iand 148 hM rfl rfl ?_
    by_cases hc4 : (zand (v2 / 2 ^ zsh v9) 1) = 0
    · rw [if_pos hc4] at h
      refine g_if_eq_t 185 hM rfl rfl (zR_and _ _) hc4 ?_
      refine g_lload 187 hM rfl rfl rfl ?_
      refine g_aload_n 188 hM rfl rfl rfl ?_
      refine g_getF 191 hM rfl rfl rfl rfl rfl ?_
      refine g_iload 193 hM rfl rfl rfl ?_
      obtain ⟨hg5, h⟩ := zg_some h
      refine g_laload 194 (gJ s 22 v9) hM rfl rfl rfl rfl hg5 rfl ?_
      refine g_ldc2 197 (18446744073709551615#64) hM rfl rfl rfl (by decide) ?_
      refine g_lxor 198 hM rfl rfl ?_
      refine g_land 199 hM rfl rfl ?_
      refine g_lstore 201 hM rfl rfl rfl ?_
      refine g_iinc 204 hM rfl rfl rfl rfl ?_
      refine g_goto 137 hM rfl rfl ?_
      cases h
      exact g_lv [(0, .ref 17), (1, .int (Int32.ofInt v1)), (2, .int (Int32.ofInt v2)), (3, .int (Int32.ofInt v3)), (5, .long (Int64.ofBitVec w5)), (7, .long (Int64.ofBitVec (w7 &&& ((gJ s 22 v9) ^^^ (18446744073709551615#64))))), (9, .int (Int32.ofInt (v9 + (-1))))] rfl ⟨rfl, rfl, rfl, rfl, rfl, rfl, rfl, trivial⟩ hK
    · rw [if_neg hc4] at h
      refine g_if_eq_f 151 185 hM rfl rfl rfl (zR_and _ _) hc4 ?_
      refine g_lload 153 hM rfl rfl rfl ?_
      refine g_lload 155 hM rfl rfl rfl ?_
      refine g_aload_n 156 hM rfl rfl rfl ?_
      refine g_getF 159 hM rfl rfl rfl rfl rfl ?_
      refine g_iload 161 hM rfl rfl rfl ?_
      obtain ⟨hg6, h⟩ := zg_some h
      refine g_laload 162 (gJ s 22 v9) hM rfl rfl rfl rfl hg6 rfl ?_
      refine g_ldc2 165 (18446744073709551615#64) hM rfl rfl rfl (by decide) ?_
      refine g_lxor 166 hM rfl rfl ?_
      refine g_land 167 hM rfl rfl ?_
      refine g_lor 168 hM rfl rfl ?_
      refine g_lstore 170 hM rfl rfl rfl ?_
      refine g_lload 172 hM rfl rfl rfl ?_
      refine g_aload_n 173 hM rfl rfl rfl ?_
      refine g_getF 176 hM rfl rfl rfl rfl rfl ?_
      refine g_iload 178 hM rfl rfl rfl ?_
      refine g_laload 179 (gJ s 22 v9) hM rfl rfl rfl rfl hg6 rfl ?_
      refine g_land 180 hM rfl rfl ?_
      refine g_lstore 182 hM rfl rfl rfl ?_
      refine g_goto 201 hM rfl rfl ?_
      refine g_iinc 204 hM rfl rfl rfl rfl ?_
      refine g_goto 137 hM rfl rfl ?_
      cases h
      exact g_lv [(0, .ref 17), (1, .int (Int32.ofInt v1)), (2, .int (Int32.ofInt v2)), (3, .int (Int32.ofInt v3)), (5, .long (Int64.ofBitVec (w5 ||| (w7 &&& ((gJ s 22 v9) ^^^ (18446744073709551615#64)))))), (7, .long (Int64.ofBitVec (w7 &&& (gJ s 22 v9)))), (9, .int (Int32.ofInt (v9 + (-1))))] rfl ⟨rfl, rfl, rfl, rfl, rfl, rfl, rfl, trivial⟩ hK
theorem wl_118_137 {k : zK} {d : Nat} {x : am_H} {r : am_A × am_H} {v1 : Int} {v2 : Int} {v3 : Int} {s : zS} {n : Nat} {e : (BitVec 64 × BitVec 64 × Int)} {t : (BitVec 64 × BitVec 64)} (hd : 1 ≤ d) (h : zlp (fun (q : BitVec 64 × BitVec 64 × Int) => b_118_137 v1 v2 v3 s q.1 q.2.1 q.2.2) n e = some t) (hK : K_118_137 k d x r v1 v2 v3 s t) : G_118_137 k d x r v1 v2 v3 s e := zlp_go (G := fun e => G_118_137 k d x r v1 v2 v3 s e) (K := K_118_137 k d x r v1 v2 v3 s) (fun e e1 h1 hg => wb_118_137 (q := .inl e1) hd h1 hg) (fun e t1 h1 hk => wb_118_137 (q := .inr t1) hd h1 hk) n e t h hK
/-- RelationFinder$Machine.compareSize(II)V -/
def f_118 (v1 : Int) (v2 : Int) (s : zS) : Option (Unit × zS) := if (gI s 17 3) < 1 then (some ((), s)) else (zg (0 ≤ ((gI s 17 3) - 1) ∧ ((gI s 17 3) - 1) < 22) (zo (f_52 (gI s 19 ((gI s 17 3) - 1)) s) (fun r4 => zb (f_270 (0#64) s) (fun r6 s7 => zo (zlp (fun (q : Int × zS) => b_118_50 v1 v2 (((gI s 17 3) - 1) * 125) r4 q.1 q.2) zF (0, s7)) (fun e8 => zo (zlp (fun (q : BitVec 64 × BitVec 64 × Int) => b_118_137 v1 v2 (((gI s 17 3) - 1) * 125) e8 q.1 q.2.1 q.2.2) zF ((0#64), (18446744073709551615#64), 9)) (fun e10 => zg (zR v1) (if v1 = 32 then (zg (0 ≤ (((gI s 17 3) - 1) * 125) ∧ (((gI s 17 3) - 1) * 125) < 2750) (zg (0 ≤ ((gI e8 17 3) - 1) ∧ ((gI e8 17 3) - 1) < 22) (some ((), (sI (sJ e8 18 (((gI s 17 3) - 1) * 125) e10.2) 19 ((gI e8 17 3) - 1) 0))))) else (if v1 = 33 then (zg (0 ≤ (((gI s 17 3) - 1) * 125) ∧ (((gI s 17 3) - 1) * 125) < 2750) (zg (0 ≤ ((gI e8 17 3) - 1) ∧ ((gI e8 17 3) - 1) < 22) (some ((), (sI (sJ e8 18 (((gI s 17 3) - 1) * 125) e10.1) 19 ((gI e8 17 3) - 1) 0))))) else (zg (0 ≤ (((gI s 17 3) - 1) * 125) ∧ (((gI s 17 3) - 1) * 125) < 2750) (zg (0 ≤ ((gI e8 17 3) - 1) ∧ ((gI e8 17 3) - 1) < 22) (some ((), (sI (sJ e8 18 (((gI s 17 3) - 1) * 125) ((e10.1 ||| e10.2) ^^^ (18446744073709551615#64))) 19 ((gI e8 17 3) - 1) 0)))))))))))))
theorem w_118 {k : zK} {d : Nat} {x : am_H} {v1 : Int} {v2 : Int} {s : zS} {q : (Unit × zS)} (hd : 1 ≤ d) (h : f_118 v1 v2 s = some q) : zgo k d 118 (0, [(0, .ref 17), (1, .int (Int32.ofInt v1)), (2, .int (Int32.ofInt v2))], []) (hp s ++ x) (.inl (none), hp q.2 ++ x) := by
  unfold f_118 at h
  have hM := xM_118 k.1
  refine g_aload_n 1 hM rfl rfl rfl ?_
  refine g_getI 4 3 (gI s 17 3) hM rfl rfl rfl rfl rfl rfl rfl ?_
  refine g_iconst 5 hM rfl rfl ?_
  by_cases hc1 : (gI s 17 3) < 1
  · rw [if_pos hc1] at h
    refine g_ic_ge_f 8 9 hM rfl rfl rfl (zR_gI _ _ _) (zR_lit rfl) hc1 ?_
    cases h
    exact g_ret hM rfl rfl
  · rw [if_neg hc1] at h
    refine g_ic_ge_t 9 hM rfl rfl (zR_gI _ _ _) (zR_lit rfl) hc1 ?_
    refine g_aload_n 10 hM rfl rfl rfl ?_
    refine g_getI 13 3 (gI s 17 3) hM rfl rfl rfl rfl rfl rfl rfl ?_
    refine g_iconst 14 hM rfl rfl ?_
    refine g_isub 15 hM rfl rfl ?_
    refine g_bipush 17 hM rfl rfl rfl ?_
    refine g_imul 18 hM rfl rfl ?_
    refine g_istore_n 19 hM rfl rfl rfl ?_
    refine g_aload_n 20 hM rfl rfl rfl ?_
    refine g_getF 23 hM rfl rfl rfl rfl rfl ?_
    refine g_aload_n 24 hM rfl rfl rfl ?_
    refine g_getF 27 hM rfl rfl rfl rfl rfl ?_
    refine g_aload_n 28 hM rfl rfl rfl ?_
    refine g_getI 31 3 (gI s 17 3) hM rfl rfl rfl rfl rfl rfl rfl ?_
    refine g_iconst 32 hM rfl rfl ?_
    refine g_isub 33 hM rfl rfl ?_
    obtain ⟨hg2, h⟩ := zg_some h
    refine g_iaload 34 (gI s 19 ((gI s 17 3) - 1)) hM rfl rfl rfl rfl hg2 rfl ?_
    obtain ⟨r4, h3, h⟩ := zo_some h
    refine g_call 37 _ [.int (Int32.ofInt r4)] hM rfl rfl rfl rfl rfl (xM_52 _) rfl (z_rcv2 rfl) rfl rfl (by omega) (w_52 (by omega) h3) rfl ?_
    refine g_istore 39 hM rfl rfl rfl ?_
    refine g_aload_n 40 hM rfl rfl rfl ?_
    refine g_getF 43 hM rfl rfl rfl rfl rfl ?_
    refine g_lconst 44 (0#64) hM rfl rfl rfl ?_
    obtain ⟨r6, s7, h5, h⟩ := zb_some h
    refine g_call 47 _ [] hM rfl rfl rfl rfl rfl (xM_270 _) rfl rfl rfl rfl (by omega) (w_270 (by omega) h5) rfl ?_
    refine g_iconst 48 hM rfl rfl ?_
    refine g_istore 50 hM rfl rfl rfl ?_
    obtain ⟨e8, h9, h⟩ := zo_some h
    refine g_lv [(0, .ref 17), (1, .int (Int32.ofInt v1)), (2, .int (Int32.ofInt v2)), (3, .int (Int32.ofInt (((gI s 17 3) - 1) * 125))), (4, .int (Int32.ofInt r4)), (5, .int (Int32.ofInt 0))] rfl ⟨rfl, rfl, rfl, rfl, rfl, rfl, trivial⟩ ?_
    refine wl_118_50 (by omega) h9 ?_
    show zgo k d 118 (125, [(0, .ref 17), (1, .int (Int32.ofInt v1)), (2, .int (Int32.ofInt v2)), (3, .int (Int32.ofInt (((gI s 17 3) - 1) * 125)))], []) (hp e8 ++ x) (.inl (none), hp q.2 ++ x)
    refine g_lconst 126 (0#64) hM rfl rfl rfl ?_
    refine g_lstore 128 hM rfl rfl rfl ?_
    refine g_ldc2 131 (18446744073709551615#64) hM rfl rfl rfl (by decide) ?_
    refine g_lstore 133 hM rfl rfl rfl ?_
    refine g_bipush 135 hM rfl rfl rfl ?_
    refine g_istore 137 hM rfl rfl rfl ?_
    obtain ⟨e10, h11, h⟩ := zo_some h
    refine g_lv [(0, .ref 17), (1, .int (Int32.ofInt v1)), (2, .int (Int32.ofInt v2)), (3, .int (Int32.ofInt (((gI s 17 3) - 1) * 125))), (5, .long (Int64.ofBitVec (0#64))), (7, .long (Int64.ofBitVec (18446744073709551615#64))), (9, .int (Int32.ofInt 9))] rfl ⟨rfl, rfl, rfl, rfl, rfl, rfl, rfl, trivial⟩ ?_
    refine wl_118_137 (by omega) h11 ?_
    show zgo k d 118 (207, [(0, .ref 17), (1, .int (Int32.ofInt v1)), (3, .int (Int32.ofInt (((gI s 17 3) - 1) * 125))), (5, .long (Int64.ofBitVec e10.1)), (7, .long (Int64.ofBitVec e10.2))], []) (hp e8 ++ x) (.inl (none), hp q.2 ++ x)
    refine g_aload_n 208 hM rfl rfl rfl ?_
    refine g_getF 211 hM rfl rfl rfl rfl rfl ?_
    refine g_iload_n 212 hM rfl rfl rfl ?_
    refine g_iload_n 213 hM rfl rfl rfl ?_
    refine g_bipush 215 hM rfl rfl rfl ?_
    obtain ⟨hg12, h⟩ := zg_some h
    by_cases hc13 : v1 = 32
    · rw [if_pos hc13] at h
      refine g_ic_ne_f 218 223 hM rfl rfl rfl hg12 (zR_lit rfl) hc13 ?_
      refine g_lload 220 hM rfl rfl rfl ?_
      refine g_goto 243 hM rfl rfl ?_
      obtain ⟨hg14, h⟩ := zg_some h
      refine g_lastore 244 hM rfl rfl rfl rfl hg14 ?_
      refine g_aload_n 245 hM rfl rfl rfl ?_
      refine g_getF 248 hM rfl rfl rfl rfl rfl ?_
      refine g_aload_n 249 hM rfl rfl rfl ?_
      refine g_getI 252 3 (gI e8 17 3) hM rfl rfl rfl rfl rfl rfl rfl ?_
      refine g_iconst 253 hM rfl rfl ?_
      refine g_isub 254 hM rfl rfl ?_
      refine g_iconst 255 hM rfl rfl ?_
      obtain ⟨hg15, h⟩ := zg_some h
      refine g_iastore 256 hM rfl rfl rfl rfl hg15 ?_
      cases h
      exact g_ret hM rfl rfl
    · rw [if_neg hc13] at h
      refine g_ic_ne_t 223 hM rfl rfl hg12 (zR_lit rfl) hc13 ?_
      refine g_iload_n 224 hM rfl rfl rfl ?_
      refine g_bipush 226 hM rfl rfl rfl ?_
      by_cases hc16 : v1 = 33
      · rw [if_pos hc16] at h
        refine g_ic_ne_f 229 234 hM rfl rfl rfl hg12 (zR_lit rfl) hc16 ?_
        refine g_lload 231 hM rfl rfl rfl ?_
        refine g_goto 243 hM rfl rfl ?_
        obtain ⟨hg17, h⟩ := zg_some h
        refine g_lastore 244 hM rfl rfl rfl rfl hg17 ?_
        refine g_aload_n 245 hM rfl rfl rfl ?_
        refine g_getF 248 hM rfl rfl rfl rfl rfl ?_
        refine g_aload_n 249 hM rfl rfl rfl ?_
        refine g_getI 252 3 (gI e8 17 3) hM rfl rfl rfl rfl rfl rfl rfl ?_
        refine g_iconst 253 hM rfl rfl ?_
        refine g_isub 254 hM rfl rfl ?_
        refine g_iconst 255 hM rfl rfl ?_
        obtain ⟨hg18, h⟩ := zg_some h
        refine g_iastore 256 hM rfl rfl rfl rfl hg18 ?_
        cases h
        exact g_ret hM rfl rfl
      · rw [if_neg hc16] at h
        refine g_ic_ne_t 234 hM rfl rfl hg12 (zR_lit rfl) hc16 ?_
        refine g_lload 236 hM rfl rfl rfl ?_
        refine g_lload 238 hM rfl rfl rfl ?_
        refine g_lor 239 hM rfl rfl ?_
        refine g_ldc2 242 (18446744073709551615#64) hM rfl rfl rfl (by decide) ?_
        refine g_lxor 243 hM rfl rfl ?_
        obtain ⟨hg19, h⟩ := zg_some h
        refine g_lastore 244 hM rfl rfl rfl rfl hg19 ?_
        refine g_aload_n 245 hM rfl rfl rfl ?_
        refine g_getF 248 hM rfl rfl rfl rfl rfl ?_
        refine g_aload_n 249 hM rfl rfl rfl ?_
        refine g_getI 252 3 (gI e8 17 3) hM rfl rfl rfl rfl rfl rfl rfl ?_
        refine g_iconst 253 hM rfl rfl ?_
        refine g_isub 254 hM rfl rfl ?_
        refine g_iconst 255 hM rfl rfl ?_
        obtain ⟨hg20, h⟩ := zg_some h
        refine g_iastore 256 hM rfl rfl rfl rfl hg20 ?_
        cases h
        exact g_ret hM rfl rfl
def G_119_47 (k : zK) (d : Nat) (x : am_H) (r : am_A × am_H) (v1 : Int) (v2 : Int) (v3 : Int) (s : zS) (e : (BitVec 64 × BitVec 64 × Int)) : Prop := zgo k d 119 (47, [(0, .ref 17), (1, .int (Int32.ofInt v1)), (2, .int (Int32.ofInt v2)), (3, .int (Int32.ofInt v3)), (4, .long (Int64.ofBitVec e.1)), (6, .long (Int64.ofBitVec e.2.1)), (8, .int (Int32.ofInt e.2.2))], []) (hp s ++ x) r
def K_119_47 (k : zK) (d : Nat) (x : am_H) (r : am_A × am_H) (v1 : Int) (v2 : Int) (v3 : Int) (s : zS) (t : (BitVec 64 × BitVec 64)) : Prop := zgo k d 119 (90, [(0, .ref 17), (1, .int (Int32.ofInt v1)), (2, .int (Int32.ofInt v2)), (4, .long (Int64.ofBitVec t.1)), (6, .long (Int64.ofBitVec t.2))], []) (hp s ++ x) r
def b_119_47 (v1 : Int) (v2 : Int) (v3 : Int) (s : zS) (w4 : BitVec 64) (w6 : BitVec 64) (v8 : Int) : Option ((BitVec 64 × BitVec 64 × Int) ⊕ (BitVec 64 × BitVec 64)) := zg (zR v8) (zg (zR v3) (if v8 < v3 then (zg (0 ≤ (v2 + v8) ∧ (v2 + v8) < 2750) (some (.inl ((w4 ||| (gJ s 18 (v2 + v8))), (w6 ||| (w4 &&& (gJ s 18 (v2 + v8)))), (v8 + 1))))) else (some (.inr (w4, w6)))))
theorem wb_119_47 {k : zK} {d : Nat} {x : am_H} {r : am_A × am_H} {v1 : Int} {v2 : Int} {v3 : Int} {w4 : BitVec 64} {w6 : BitVec 64} {v8 : Int} {s : zS} {q : (BitVec 64 × BitVec 64 × Int) ⊕ (BitVec 64 × BitVec 64)} (hd : 1 ≤ d) (h : b_119_47 v1 v2 v3 s w4 w6 v8 = some q) (hK : Sum.elim (G_119_47 k d x r v1 v2 v3 s) (K_119_47 k d x r v1 v2 v3 s) q) : G_119_47 k d x r v1 v2 v3 s (w4, w6, v8) := by
  unfold b_119_47 at h
  have hM := xM_119 k.1
  show zgo k d 119 (47, [(0, .ref 17), (1, .int (Int32.ofInt v1)), (2, .int (Int32.ofInt v2)), (3, .int (Int32.ofInt v3)), (4, .long (Int64.ofBitVec w4)), (6, .long (Int64.ofBitVec w6)), (8, .int (Int32.ofInt v8))], []) (hp s ++ x) r
  refine g_iload 49 hM rfl rfl rfl ?_
  refine g_iload_n 50 hM rfl rfl rfl ?_
  obtain ⟨hg1, h⟩ := zg_some h
  obtain ⟨hg2, h⟩ := zg_some h
  by_cases hc3 : v8 < v3
  · rw [if_pos hc3] at h
    refine g_ic_ge_f 53 90 hM rfl rfl rfl hg1 hg2 hc3 ?_
    refine g_lload 55 hM rfl rfl rfl ?_
    refine g_lload 57 hM rfl rfl rfl ?_
    refine g_aload_n 58 hM rfl rfl rfl ?_
    refine g_getF 61 hM rfl rfl rfl rfl rfl ?_
    refine g_iload_n 62 hM rfl rfl rfl ?_
    refine g_iload 64 hM rfl rfl rfl ?_
    refine g_iadd 65 hM rfl rfl ?_
    obtain ⟨hg4, h⟩ := zg_some h
    refine g_laload 66 (gJ s 18 (v2 + v8)) hM rfl rfl rfl rfl hg4 rfl ?_
    refine g_land 67 hM rfl rfl ?_
    refine g_lor 68 hM rfl rfl ?_
    refine g_lstore 70 hM rfl rfl rfl ?_
    refine g_lload 72 hM rfl rfl rfl ?_
    refine g_aload_n 73 hM rfl rfl rfl ?_
    refine g_getF 76 hM rfl rfl rfl rfl rfl ?_
    refine g_iload_n 77 hM rfl rfl rfl ?_
    refine g_iload 79 hM rfl rfl rfl ?_
    refine g_iadd 80 hM rfl rfl ?_
    refine g_laload 81 (gJ s 18 (v2 + v8)) hM rfl rfl rfl rfl hg4 rfl ?_
    refine g_lor 82 hM rfl rfl ?_
    refine g_lstore 84 hM rfl rfl rfl ?_
    refine g_iinc 87 hM rfl rfl rfl rfl ?_
    refine g_goto 47 hM rfl rfl ?_
    cases h
    exact g_lv [(0, .ref 17), (1, .int (Int32.ofInt v1)), (2, .int (Int32.ofInt v2)), (3, .int (Int32.ofInt v3)), (4, .long (Int64.ofBitVec (w4 ||| (gJ s 18 (v2 + v8))))), (6, .long (Int64.ofBitVec (w6 ||| (w4 &&& (gJ s 18 (v2 + v8)))))), (8, .int (Int32.ofInt (v8 + 1)))] rfl ⟨rfl, rfl, rfl, rfl, rfl, rfl, rfl, trivial⟩ hK
  · rw [if_neg hc3] at h
    refine g_ic_ge_t 90 hM rfl rfl hg1 hg2 hc3 ?_
    cases h
    exact g_lv [(0, .ref 17), (1, .int (Int32.ofInt v1)), (2, .int (Int32.ofInt v2)), (4, .long (Int64.ofBitVec w4)), (6, .long (Int64.ofBitVec w6))] rfl ⟨rfl, rfl, rfl, rfl, rfl, trivial⟩ hK
theorem wl_119_47 {k : zK} {d : Nat} {x : am_H} {r : am_A × am_H} {v1 : Int} {v2 : Int} {v3 : Int} {s : zS} {n : Nat} {e : (BitVec 64 × BitVec 64 × Int)} {t : (BitVec 64 × BitVec 64)} (hd : 1 ≤ d) (h : zlp (fun (q : BitVec 64 × BitVec 64 × Int) => b_119_47 v1 v2 v3 s q.1 q.2.1 q.2.2) n e = some t) (hK : K_119_47 k d x r v1 v2 v3 s t) : G_119_47 k d x r v1 v2 v3 s e := zlp_go (G := fun e => G_119_47 k d x r v1 v2 v3 s e) (K := K_119_47 k d x r v1 v2 v3 s) (fun e e1 h1 hg => wb_119_47 (q := .inl e1) hd h1 hg) (fun e t1 h1 hk => wb_119_47 (q := .inr t1) hd h1 hk) n e t h hK
/-- RelationFinder$Machine.judgeSize(I)V -/
def f_119 (v1 : Int) (s : zS) : Option (Unit × zS) := if (gI s 17 3) < 1 then (some ((), s)) else (zg (0 ≤ ((gI s 17 3) - 1) ∧ ((gI s 17 3) - 1) < 22) (zo (f_52 (gI s 19 ((gI s 17 3) - 1)) s) (fun r4 => zo (zlp (fun (q : BitVec 64 × BitVec 64 × Int) => b_119_47 v1 (((gI s 17 3) - 1) * 125) r4 s q.1 q.2.1 q.2.2) zF ((0#64), (0#64), 0)) (fun e5 => zo (f_110 v1 e5.1 e5.2) (fun r8 => zg (0 ≤ (((gI s 17 3) - 1) * 125) ∧ (((gI s 17 3) - 1) * 125) < 2750) (some ((), (sI (sJ s 18 (((gI s 17 3) - 1) * 125) r8) 19 ((gI s 17 3) - 1) 0))))))))
theorem w_119 {k : zK} {d : Nat} {x : am_H} {v1 : Int} {s : zS} {q : (Unit × zS)} (hd : 1 ≤ d) (h : f_119 v1 s = some q) : zgo k d 119 (0, [(0, .ref 17), (1, .int (Int32.ofInt v1))], []) (hp s ++ x) (.inl (none), hp q.2 ++ x) := by
  unfold f_119 at h
  have hM := xM_119 k.1
  refine g_aload_n 1 hM rfl rfl rfl ?_
  refine g_getI 4 3 (gI s 17 3) hM rfl rfl rfl rfl rfl rfl rfl ?_
  refine g_iconst 5 hM rfl rfl ?_
  by_cases hc1 : (gI s 17 3) < 1
  · rw [if_pos hc1] at h
    refine g_ic_ge_f 8 9 hM rfl rfl rfl (zR_gI _ _ _) (zR_lit rfl) hc1 ?_
    cases h
    exact g_ret hM rfl rfl
  · rw [if_neg hc1] at h
    refine g_ic_ge_t 9 hM rfl rfl (zR_gI _ _ _) (zR_lit rfl) hc1 ?_
    refine g_aload_n 10 hM rfl rfl rfl ?_
    refine g_getI 13 3 (gI s 17 3) hM rfl rfl rfl rfl rfl rfl rfl ?_
    refine g_iconst 14 hM rfl rfl ?_
    refine g_isub 15 hM rfl rfl ?_
    refine g_bipush 17 hM rfl rfl rfl ?_
    refine g_imul 18 hM rfl rfl ?_
    refine g_istore_n 19 hM rfl rfl rfl ?_
    refine g_aload_n 20 hM rfl rfl rfl ?_
    refine g_getF 23 hM rfl rfl rfl rfl rfl ?_
    refine g_aload_n 24 hM rfl rfl rfl ?_
    refine g_getF 27 hM rfl rfl rfl rfl rfl ?_
    refine g_aload_n 28 hM rfl rfl rfl ?_
    refine g_getI 31 3 (gI s 17 3) hM rfl rfl rfl rfl rfl rfl rfl ?_
    refine g_iconst 32 hM rfl rfl ?_
    refine g_isub 33 hM rfl rfl ?_
    obtain ⟨hg2, h⟩ := zg_some h
    refine g_iaload 34 (gI s 19 ((gI s 17 3) - 1)) hM rfl rfl rfl rfl hg2 rfl ?_
    obtain ⟨r4, h3, h⟩ := zo_some h
    refine g_call 37 _ [.int (Int32.ofInt r4)] hM rfl rfl rfl rfl rfl (xM_52 _) rfl (z_rcv2 rfl) rfl rfl (by omega) (w_52 (by omega) h3) rfl ?_
    refine g_istore_n 38 hM rfl rfl rfl ?_
    refine g_lconst 39 (0#64) hM rfl rfl rfl ?_
    refine g_lstore 41 hM rfl rfl rfl ?_
    refine g_lconst 42 (0#64) hM rfl rfl rfl ?_
    refine g_lstore 44 hM rfl rfl rfl ?_
    refine g_iconst 45 hM rfl rfl ?_
    refine g_istore 47 hM rfl rfl rfl ?_
    obtain ⟨e5, h6, h⟩ := zo_some h
    refine g_lv [(0, .ref 17), (1, .int (Int32.ofInt v1)), (2, .int (Int32.ofInt (((gI s 17 3) - 1) * 125))), (3, .int (Int32.ofInt r4)), (4, .long (Int64.ofBitVec (0#64))), (6, .long (Int64.ofBitVec (0#64))), (8, .int (Int32.ofInt 0))] rfl ⟨rfl, rfl, rfl, rfl, rfl, rfl, rfl, trivial⟩ ?_
    refine wl_119_47 (by omega) h6 ?_
    show zgo k d 119 (90, [(0, .ref 17), (1, .int (Int32.ofInt v1)), (2, .int (Int32.ofInt (((gI s 17 3) - 1) * 125))), (4, .long (Int64.ofBitVec e5.1)), (6, .long (Int64.ofBitVec e5.2))], []) (hp s ++ x) (.inl (none), hp q.2 ++ x)
    refine g_aload_n 91 hM rfl rfl rfl ?_
    refine g_getF 94 hM rfl rfl rfl rfl rfl ?_
    refine g_iload_n 95 hM rfl rfl rfl ?_
    refine g_iload_n 96 hM rfl rfl rfl ?_
    refine g_lload 98 hM rfl rfl rfl ?_
    refine g_lload 100 hM rfl rfl rfl ?_
    obtain ⟨r8, h7, h⟩ := zo_some h
    refine g_call 103 _ [.long (Int64.ofBitVec r8), .int (Int32.ofInt (((gI s 17 3) - 1) * 125)), .ref 18] hM rfl rfl rfl rfl rfl (xM_110 _) rfl rfl rfl rfl (by omega) (w_110 (by omega) h7) rfl ?_
    obtain ⟨hg9, h⟩ := zg_some h
    refine g_lastore 104 hM rfl rfl rfl rfl hg9 ?_
    refine g_aload_n 105 hM rfl rfl rfl ?_
    refine g_getF 108 hM rfl rfl rfl rfl rfl ?_
    refine g_aload_n 109 hM rfl rfl rfl ?_
    refine g_getI 112 3 (gI s 17 3) hM rfl rfl rfl rfl rfl rfl rfl ?_
    refine g_iconst 113 hM rfl rfl ?_
    refine g_isub 114 hM rfl rfl ?_
    refine g_iconst 115 hM rfl rfl ?_
    refine g_iastore 116 hM rfl rfl rfl rfl hg2 ?_
    cases h
    exact g_ret hM rfl rfl
def G_121_10 (k : zK) (d : Nat) (x : am_H) (r : am_A × am_H) (v1 : Int) (v2 : Int) (e : (Int × zS)) : Prop := zgo k d 121 (10, [(0, .ref 17), (1, .int (Int32.ofInt v1)), (2, .int (Int32.ofInt v2)), (3, .int (Int32.ofInt e.1))], []) (hp e.2 ++ x) r
def K_121_10 (k : zK) (d : Nat) (x : am_H) (r : am_A × am_H) (v1 : Int) (v2 : Int) (t : (zS)) : Prop := zgo k d 121 (92, [], []) (hp t ++ x) r
def G_121_18 (k : zK) (d : Nat) (x : am_H) (r : am_A × am_H) (v1 : Int) (v2 : Int) (v3 : Int) (e : (Int × zS)) : Prop := zgo k d 121 (18, [(0, .ref 17), (1, .int (Int32.ofInt v1)), (2, .int (Int32.ofInt v2)), (3, .int (Int32.ofInt v3)), (4, .int (Int32.ofInt e.1))], []) (hp e.2 ++ x) r
def K_121_18 (k : zK) (d : Nat) (x : am_H) (r : am_A × am_H) (v1 : Int) (v2 : Int) (v3 : Int) (t : (zS)) : Prop := zgo k d 121 (86, [(0, .ref 17), (1, .int (Int32.ofInt v1)), (2, .int (Int32.ofInt v2)), (3, .int (Int32.ofInt v3))], []) (hp t ++ x) r
def b_121_18 (v1 : Int) (v2 : Int) (v3 : Int) (v4 : Int) (s : zS) : Option ((Int × zS) ⊕ (zS)) := zg (zR v4) (zg (zR v3) (if v4 < v3 then (zg (0 ≤ ((v1 + (v3 * v2)) + v4) ∧ ((v1 + (v3 * v2)) + v4) < 2750) (zg (0 ≤ ((v1 + (v4 * v2)) + v3) ∧ ((v1 + (v4 * v2)) + v3) < 2750) (some (.inl ((v4 + 1), (sJ (sJ s 18 ((v1 + (v3 * v2)) + v4) (gJ s 18 ((v1 + (v4 * v2)) + v3))) 18 ((v1 + (v4 * v2)) + v3) (gJ s 18 ((v1 + (v3 * v2)) + v4)))))))) else (some (.inr s))))
theorem wb_121_18 {k : zK} {d : Nat} {x : am_H} {r : am_A × am_H} {v1 : Int} {v2 : Int} {v3 : Int} {v4 : Int} {s : zS} {q : (Int × zS) ⊕ (zS)} (hd : 0 ≤ d) (h : b_121_18 v1 v2 v3 v4 s = some q) (hK : Sum.elim (G_121_18 k d x r v1 v2 v3) (K_121_18 k d x r v1 v2 v3) q) : G_121_18 k d x r v1 v2 v3 (v4, s) := by
  unfold b_121_18 at h
  have hM := xM_121 k.1
  show zgo k d 121 (18, [(0, .ref 17), (1, .int (Int32.ofInt v1)), (2, .int (Int32.ofInt v2)), (3, .int (Int32.ofInt v3)), (4, .int (Int32.ofInt v4))], []) (hp s ++ x) r
  refine g_iload 20 hM rfl rfl rfl ?_
  refine g_iload_n 21 hM rfl rfl rfl ?_
  obtain ⟨hg1, h⟩ := zg_some h
  obtain ⟨hg2, h⟩ := zg_some h
  by_cases hc3 : v4 < v3
  · rw [if_pos hc3] at h
    refine g_ic_ge_f 24 86 hM rfl rfl rfl hg1 hg2 hc3 ?_
    refine g_aload_n 25 hM rfl rfl rfl ?_
    refine g_getF 28 hM rfl rfl rfl rfl rfl ?_
    refine g_iload_n 29 hM rfl rfl rfl ?_
    refine g_iload_n 30 hM rfl rfl rfl ?_
    refine g_iload_n 31 hM rfl rfl rfl ?_
    refine g_imul 32 hM rfl rfl ?_
    refine g_iadd 33 hM rfl rfl ?_
    refine g_iload 35 hM rfl rfl rfl ?_
    refine g_iadd 36 hM rfl rfl ?_
    obtain ⟨hg4, h⟩ := zg_some h
    refine g_laload 37 (gJ s 18 ((v1 + (v3 * v2)) + v4)) hM rfl rfl rfl rfl hg4 rfl ?_
    refine g_lstore 39 hM rfl rfl rfl ?_
    refine g_aload_n 40 hM rfl rfl rfl ?_
    refine g_getF 43 hM rfl rfl rfl rfl rfl ?_
    refine g_iload_n 44 hM rfl rfl rfl ?_
    refine g_iload_n 45 hM rfl rfl rfl ?_
    refine g_iload_n 46 hM rfl rfl rfl ?_
    refine g_imul 47 hM rfl rfl ?_
    refine g_iadd 48 hM rfl rfl ?_
    refine g_iload 50 hM rfl rfl rfl ?_
    refine g_iadd 51 hM rfl rfl ?_
    refine g_aload_n 52 hM rfl rfl rfl ?_
    refine g_getF 55 hM rfl rfl rfl rfl rfl ?_
    refine g_iload_n 56 hM rfl rfl rfl ?_
    refine g_iload 58 hM rfl rfl rfl ?_
    refine g_iload_n 59 hM rfl rfl rfl ?_
    refine g_imul 60 hM rfl rfl ?_
    refine g_iadd 61 hM rfl rfl ?_
    refine g_iload_n 62 hM rfl rfl rfl ?_
    refine g_iadd 63 hM rfl rfl ?_
    obtain ⟨hg5, h⟩ := zg_some h
    refine g_laload 64 (gJ s 18 ((v1 + (v4 * v2)) + v3)) hM rfl rfl rfl rfl hg5 rfl ?_
    refine g_lastore 65 hM rfl rfl rfl rfl hg4 ?_
    refine g_aload_n 66 hM rfl rfl rfl ?_
    refine g_getF 69 hM rfl rfl rfl rfl rfl ?_
    refine g_iload_n 70 hM rfl rfl rfl ?_
    refine g_iload 72 hM rfl rfl rfl ?_
    refine g_iload_n 73 hM rfl rfl rfl ?_
    refine g_imul 74 hM rfl rfl ?_
    refine g_iadd 75 hM rfl rfl ?_
    refine g_iload_n 76 hM rfl rfl rfl ?_
    refine g_iadd 77 hM rfl rfl ?_
    refine g_lload 79 hM rfl rfl rfl ?_
    refine g_lastore 80 hM rfl rfl rfl rfl hg5 ?_
    refine g_iinc 83 hM rfl rfl rfl rfl ?_
    refine g_goto 18 hM rfl rfl ?_
    cases h
    exact g_lv [(0, .ref 17), (1, .int (Int32.ofInt v1)), (2, .int (Int32.ofInt v2)), (3, .int (Int32.ofInt v3)), (4, .int (Int32.ofInt (v4 + 1)))] rfl ⟨rfl, rfl, rfl, rfl, rfl, trivial⟩ hK
  · rw [if_neg hc3] at h
    refine g_ic_ge_t 86 hM rfl rfl hg1 hg2 hc3 ?_
    cases h
    exact g_lv [(0, .ref 17), (1, .int (Int32.ofInt v1)), (2, .int (Int32.ofInt v2)), (3, .int (Int32.ofInt v3))] rfl ⟨rfl, rfl, rfl, rfl, trivial⟩ hK
theorem wl_121_18 {k : zK} {d : Nat} {x : am_H} {r : am_A × am_H} {v1 : Int} {v2 : Int} {v3 : Int} {n : Nat} {e : (Int × zS)} {t : (zS)} (hd : 0 ≤ d) (h : zlp (fun (q : Int × zS) => b_121_18 v1 v2 v3 q.1 q.2) n e = some t) (hK : K_121_18 k d x r v1 v2 v3 t) : G_121_18 k d x r v1 v2 v3 e := zlp_go (G := fun e => G_121_18 k d x r v1 v2 v3 e) (K := K_121_18 k d x r v1 v2 v3) (fun e e1 h1 hg => wb_121_18 (q := .inl e1) hd h1 hg) (fun e t1 h1 hk => wb_121_18 (q := .inr t1) hd h1 hk) n e t h hK
def b_121_10 (v1 : Int) (v2 : Int) (v3 : Int) (s : zS) : Option ((Int × zS) ⊕ (zS)) := zg (zR v3) (zg (zR v2) (if v3 < v2 then (zo (zlp (fun (q : Int × zS) => b_121_18 v1 v2 v3 q.1 q.2) zF (0, s)) (fun e4 => some (.inl ((v3 + 1), e4)))) else (some (.inr s))))
theorem wb_121_10 {k : zK} {d : Nat} {x : am_H} {r : am_A × am_H} {v1 : Int} {v2 : Int} {v3 : Int} {s : zS} {q : (Int × zS) ⊕ (zS)} (hd : 0 ≤ d) (h : b_121_10 v1 v2 v3 s = some q) (hK : Sum.elim (G_121_10 k d x r v1 v2) (K_121_10 k d x r v1 v2) q) : G_121_10 k d x r v1 v2 (v3, s) := by
  unfold b_121_10 at h
  have hM := xM_121 k.1
  show zgo k d 121 (10, [(0, .ref 17), (1, .int (Int32.ofInt v1)), (2, .int (Int32.ofInt v2)), (3, .int (Int32.ofInt v3))], []) (hp s ++ x) r
  refine g_iload_n 11 hM rfl rfl rfl ?_
  refine g_iload_n 12 hM rfl rfl rfl ?_
  obtain ⟨hg1, h⟩ := zg_some h
  obtain ⟨hg2, h⟩ := zg_some h
  by_cases hc3 : v3 < v2
  · rw [if_pos hc3] at h
    refine g_ic_ge_f 15 92 hM rfl rfl rfl hg1 hg2 hc3 ?_
    refine g_iconst 16 hM rfl rfl ?_
    refine g_istore 18 hM rfl rfl rfl ?_
    obtain ⟨e4, h5, h⟩ := zo_some h
    refine g_lv [(0, .ref 17), (1, .int (Int32.ofInt v1)), (2, .int (Int32.ofInt v2)), (3, .int (Int32.ofInt v3)), (4, .int (Int32.ofInt 0))] rfl ⟨rfl, rfl, rfl, rfl, rfl, trivial⟩ ?_
    refine wl_121_18 (by omega) h5 ?_
    show zgo k d 121 (86, [(0, .ref 17), (1, .int (Int32.ofInt v1)), (2, .int (Int32.ofInt v2)), (3, .int (Int32.ofInt v3))], []) (hp e4 ++ x) r
    refine g_iinc 89 hM rfl rfl rfl rfl ?_
    refine g_goto 10 hM rfl rfl ?_
    cases h
    exact g_lv [(0, .ref 17), (1, .int (Int32.ofInt v1)), (2, .int (Int32.ofInt v2)), (3, .int (Int32.ofInt (v3 + 1)))] rfl ⟨rfl, rfl, rfl, rfl, trivial⟩ hK
  · rw [if_neg hc3] at h
    refine g_ic_ge_t 92 hM rfl rfl hg1 hg2 hc3 ?_
    cases h
    exact g_lv [] rfl trivial hK
theorem wl_121_10 {k : zK} {d : Nat} {x : am_H} {r : am_A × am_H} {v1 : Int} {v2 : Int} {n : Nat} {e : (Int × zS)} {t : (zS)} (hd : 0 ≤ d) (h : zlp (fun (q : Int × zS) => b_121_10 v1 v2 q.1 q.2) n e = some t) (hK : K_121_10 k d x r v1 v2 t) : G_121_10 k d x r v1 v2 e := zlp_go (G := fun e => G_121_10 k d x r v1 v2 e) (K := K_121_10 k d x r v1 v2) (fun e e1 h1 hg => wb_121_10 (q := .inl e1) hd h1 hg) (fun e t1 h1 hk => wb_121_10 (q := .inr t1) hd h1 hk) n e t h hK
/-- RelationFinder$Machine.turnAbout(I)V -/
def f_121 (v1 : Int) (s : zS) : Option (Unit × zS) := zo (zlp (fun (q : Int × zS) => b_121_10 v1 (gI s 1 0) q.1 q.2) zF (0, s)) (fun e1 => some ((), e1))
theorem w_121 {k : zK} {d : Nat} {x : am_H} {v1 : Int} {s : zS} {q : (Unit × zS)} (hd : 0 ≤ d) (h : f_121 v1 s = some q) : zgo k d 121 (0, [(0, .ref 17), (1, .int (Int32.ofInt v1))], []) (hp s ++ x) (.inl (none), hp q.2 ++ x) := by
  unfold f_121 at h
  have hM := xM_121 k.1
  refine g_aload_n 1 hM rfl rfl rfl ?_
  refine g_getF 4 hM rfl rfl rfl rfl rfl ?_
  refine g_getI 7 0 (gI s 1 0) hM rfl rfl rfl rfl rfl rfl rfl ?_
  refine g_istore_n 8 hM rfl rfl rfl ?_
  refine g_iconst 9 hM rfl rfl ?_
  refine g_istore_n 10 hM rfl rfl rfl ?_
  obtain ⟨e1, h2, h⟩ := zo_some h
  refine g_lv [(0, .ref 17), (1, .int (Int32.ofInt v1)), (2, .int (Int32.ofInt (gI s 1 0))), (3, .int (Int32.ofInt 0))] rfl ⟨rfl, rfl, rfl, rfl, trivial⟩ ?_
  refine wl_121_10 (by omega) h2 ?_
  show zgo k d 121 (92, [], []) (hp e1 ++ x) (.inl (none), hp q.2 ++ x)
  cases h
  exact g_ret hM rfl rfl
def G_122_10 (k : zK) (d : Nat) (x : am_H) (r : am_A × am_H) (v1 : Int) (v2 : Int) (e : (Int × zS)) : Prop := zgo k d 122 (10, [(0, .ref 17), (1, .int (Int32.ofInt v1)), (2, .int (Int32.ofInt v2)), (3, .int (Int32.ofInt e.1))], []) (hp e.2 ++ x) r
def K_122_10 (k : zK) (d : Nat) (x : am_H) (r : am_A × am_H) (v1 : Int) (v2 : Int) (t : (zS)) : Prop := zgo k d 122 (95, [], []) (hp t ++ x) r
def G_122_18 (k : zK) (d : Nat) (x : am_H) (r : am_A × am_H) (v1 : Int) (v2 : Int) (v3 : Int) (e : (Int × zS)) : Prop := zgo k d 122 (18, [(0, .ref 17), (1, .int (Int32.ofInt v1)), (2, .int (Int32.ofInt v2)), (3, .int (Int32.ofInt v3)), (4, .int (Int32.ofInt e.1))], []) (hp e.2 ++ x) r
def K_122_18 (k : zK) (d : Nat) (x : am_H) (r : am_A × am_H) (v1 : Int) (v2 : Int) (v3 : Int) (t : (zS)) : Prop := zgo k d 122 (89, [(0, .ref 17), (1, .int (Int32.ofInt v1)), (2, .int (Int32.ofInt v2)), (3, .int (Int32.ofInt v3))], []) (hp t ++ x) r
def G_122_27 (k : zK) (d : Nat) (x : am_H) (r : am_A × am_H) (v1 : Int) (v2 : Int) (v3 : Int) (v4 : Int) (e : (Int × zS)) : Prop := zgo k d 122 (27, [(0, .ref 17), (1, .int (Int32.ofInt v1)), (2, .int (Int32.ofInt v2)), (3, .int (Int32.ofInt v3)), (4, .int (Int32.ofInt v4)), (5, .int (Int32.ofInt e.1))], []) (hp e.2 ++ x) r
def K_122_27 (k : zK) (d : Nat) (x : am_H) (r : am_A × am_H) (v1 : Int) (v2 : Int) (v3 : Int) (v4 : Int) (t : (zS)) : Prop := zgo k d 122 (83, [(0, .ref 17), (1, .int (Int32.ofInt v1)), (2, .int (Int32.ofInt v2)), (3, .int (Int32.ofInt v3)), (4, .int (Int32.ofInt v4))], []) (hp t ++ x) r
def b_122_27 (v1 : Int) (v2 : Int) (v3 : Int) (v4 : Int) (v5 : Int) (s : zS) : Option ((Int × zS) ⊕ (zS)) := zg (zR v5) (zg (zR v2) (if v5 < v2 then (zg (0 ≤ ((v1 + (v4 * v2)) + v5) ∧ ((v1 + (v4 * v2)) + v5) < 2750) (zg (0 ≤ ((v1 + (v4 * v2)) + v3) ∧ ((v1 + (v4 * v2)) + v3) < 2750) (zg (0 ≤ ((v1 + (v3 * v2)) + v5) ∧ ((v1 + (v3 * v2)) + v5) < 2750) (some (.inl ((v5 + 1), (sJ s 18 ((v1 + (v4 * v2)) + v5) ((gJ s 18 ((v1 + (v4 * v2)) + v5)) ||| ((gJ s 18 ((v1 + (v4 * v2)) + v3)) &&& (gJ s 18 ((v1 + (v3 * v2)) + v5))))))))))) else (some (.inr s))))
theorem wb_122_27 {k : zK} {d : Nat} {x : am_H} {r : am_A × am_H} {v1 : Int} {v2 : Int} {v3 : Int} {v4 : Int} {v5 : Int} {s : zS} {q : (Int × zS) ⊕ (zS)} (hd : 0 ≤ d) (h : b_122_27 v1 v2 v3 v4 v5 s = some q) (hK : Sum.elim (G_122_27 k d x r v1 v2 v3 v4) (K_122_27 k d x r v1 v2 v3 v4) q) : G_122_27 k d x r v1 v2 v3 v4 (v5, s) := by
  unfold b_122_27 at h
  have hM := xM_122 k.1
  show zgo k d 122 (27, [(0, .ref 17), (1, .int (Int32.ofInt v1)), (2, .int (Int32.ofInt v2)), (3, .int (Int32.ofInt v3)), (4, .int (Int32.ofInt v4)), (5, .int (Int32.ofInt v5))], []) (hp s ++ x) r
  refine g_iload 29 hM rfl rfl rfl ?_
  refine g_iload_n 30 hM rfl rfl rfl ?_
  obtain ⟨hg1, h⟩ := zg_some h
  obtain ⟨hg2, h⟩ := zg_some h
  by_cases hc3 : v5 < v2
  · rw [if_pos hc3] at h
    refine g_ic_ge_f 33 83 hM rfl rfl rfl hg1 hg2 hc3 ?_
    refine g_aload_n 34 hM rfl rfl rfl ?_
    refine g_getF 37 hM rfl rfl rfl rfl rfl ?_
    refine g_iload_n 38 hM rfl rfl rfl ?_
    refine g_iload 40 hM rfl rfl rfl ?_
    refine g_iload_n 41 hM rfl rfl rfl ?_
    refine g_imul 42 hM rfl rfl ?_
    refine g_iadd 43 hM rfl rfl ?_
    refine g_iload 45 hM rfl rfl rfl ?_
    refine g_iadd 46 hM rfl rfl ?_
    refine g_dup2 47 hM rfl rfl rfl rfl ?_
    obtain ⟨hg4, h⟩ := zg_some h
    refine g_laload 48 (gJ s 18 ((v1 + (v4 * v2)) + v5)) hM rfl rfl rfl rfl hg4 rfl ?_
    refine g_aload_n 49 hM rfl rfl rfl ?_
    refine g_getF 52 hM rfl rfl rfl rfl rfl ?_
    refine g_iload_n 53 hM rfl rfl rfl ?_
    refine g_iload 55 hM rfl rfl rfl ?_
    refine g_iload_n 56 hM rfl rfl rfl ?_
    refine g_imul 57 hM rfl rfl ?_
    refine g_iadd 58 hM rfl rfl ?_
    refine g_iload_n 59 hM rfl rfl rfl ?_
    refine g_iadd 60 hM rfl rfl ?_
    obtain ⟨hg5, h⟩ := zg_some h
    refine g_laload 61 (gJ s 18 ((v1 + (v4 * v2)) + v3)) hM rfl rfl rfl rfl hg5 rfl ?_
    refine g_aload_n 62 hM rfl rfl rfl ?_
    refine g_getF 65 hM rfl rfl rfl rfl rfl ?_
    refine g_iload_n 66 hM rfl rfl rfl ?_
    refine g_iload_n 67 hM rfl rfl rfl ?_
    refine g_iload_n 68 hM rfl rfl rfl ?_
    refine g_imul 69 hM rfl rfl ?_
    refine g_iadd 70 hM rfl rfl ?_
    refine g_iload 72 hM rfl rfl rfl ?_
    refine g_iadd 73 hM rfl rfl ?_
    obtain ⟨hg6, h⟩ := zg_some h
    refine g_laload 74 (gJ s 18 ((v1 + (v3 * v2)) + v5)) hM rfl rfl rfl rfl hg6 rfl ?_
    refine g_land 75 hM rfl rfl ?_
    refine g_lor 76 hM rfl rfl ?_
    refine g_lastore 77 hM rfl rfl rfl rfl hg4 ?_
    refine g_iinc 80 hM rfl rfl rfl rfl ?_
    refine g_goto 27 hM rfl rfl ?_
    cases h
    exact g_lv [(0, .ref 17), (1, .int (Int32.ofInt v1)), (2, .int (Int32.ofInt v2)), (3, .int (Int32.ofInt v3)), (4, .int (Int32.ofInt v4)), (5, .int (Int32.ofInt (v5 + 1)))] rfl ⟨rfl, rfl, rfl, rfl, rfl, rfl, trivial⟩ hK
  · rw [if_neg hc3] at h
    refine g_ic_ge_t 83 hM rfl rfl hg1 hg2 hc3 ?_
    cases h
    exact g_lv [(0, .ref 17), (1, .int (Int32.ofInt v1)), (2, .int (Int32.ofInt v2)), (3, .int (Int32.ofInt v3)), (4, .int (Int32.ofInt v4))] rfl ⟨rfl, rfl, rfl, rfl, rfl, trivial⟩ hK
theorem wl_122_27 {k : zK} {d : Nat} {x : am_H} {r : am_A × am_H} {v1 : Int} {v2 : Int} {v3 : Int} {v4 : Int} {n : Nat} {e : (Int × zS)} {t : (zS)} (hd : 0 ≤ d) (h : zlp (fun (q : Int × zS) => b_122_27 v1 v2 v3 v4 q.1 q.2) n e = some t) (hK : K_122_27 k d x r v1 v2 v3 v4 t) : G_122_27 k d x r v1 v2 v3 v4 e := zlp_go (G := fun e => G_122_27 k d x r v1 v2 v3 v4 e) (K := K_122_27 k d x r v1 v2 v3 v4) (fun e e1 h1 hg => wb_122_27 (q := .inl e1) hd h1 hg) (fun e t1 h1 hk => wb_122_27 (q := .inr t1) hd h1 hk) n e t h hK
def b_122_18 (v1 : Int) (v2 : Int) (v3 : Int) (v4 : Int) (s : zS) : Option ((Int × zS) ⊕ (zS)) := zg (zR v4) (zg (zR v2) (if v4 < v2 then (zo (zlp (fun (q : Int × zS) => b_122_27 v1 v2 v3 v4 q.1 q.2) zF (0, s)) (fun e4 => some (.inl ((v4 + 1), e4)))) else (some (.inr s))))
theorem wb_122_18 {k : zK} {d : Nat} {x : am_H} {r : am_A × am_H} {v1 : Int} {v2 : Int} {v3 : Int} {v4 : Int} {s : zS} {q : (Int × zS) ⊕ (zS)} (hd : 0 ≤ d) (h : b_122_18 v1 v2 v3 v4 s = some q) (hK : Sum.elim (G_122_18 k d x r v1 v2 v3) (K_122_18 k d x r v1 v2 v3) q) : G_122_18 k d x r v1 v2 v3 (v4, s) := by
  unfold b_122_18 at h
  have hM := xM_122 k.1
  show zgo k d 122 (18, [(0, .ref 17), (1, .int (Int32.ofInt v1)), (2, .int (Int32.ofInt v2)), (3, .int (Int32.ofInt v3)), (4, .int (Int32.ofInt v4))], []) (hp s ++ x) r
  refine g_iload 20 hM rfl rfl rfl ?_
  refine g_iload_n 21 hM rfl rfl rfl ?_
  obtain ⟨hg1, h⟩ := zg_some h
  obtain ⟨hg2, h⟩ := zg_some h
  by_cases hc3 : v4 < v2
  · rw [if_pos hc3] at h
    refine g_ic_ge_f 24 89 hM rfl rfl rfl hg1 hg2 hc3 ?_
    refine g_iconst 25 hM rfl rfl ?_
    refine g_istore 27 hM rfl rfl rfl ?_
    obtain ⟨e4, h5, h⟩ := zo_some h
    refine g_lv [(0, .ref 17), (1, .int (Int32.ofInt v1)), (2, .int (Int32.ofInt v2)), (3, .int (Int32.ofInt v3)), (4, .int (Int32.ofInt v4)), (5, .int (Int32.ofInt 0))] rfl ⟨rfl, rfl, rfl, rfl, rfl, rfl, trivial⟩ ?_
    refine wl_122_27 (by omega) h5 ?_
    show zgo k d 122 (83, [(0, .ref 17), (1, .int (Int32.ofInt v1)), (2, .int (Int32.ofInt v2)), (3, .int (Int32.ofInt v3)), (4, .int (Int32.ofInt v4))], []) (hp e4 ++ x) r
    refine g_iinc 86 hM rfl rfl rfl rfl ?_
    refine g_goto 18 hM rfl rfl ?_
    cases h
    exact g_lv [(0, .ref 17), (1, .int (Int32.ofInt v1)), (2, .int (Int32.ofInt v2)), (3, .int (Int32.ofInt v3)), (4, .int (Int32.ofInt (v4 + 1)))] rfl ⟨rfl, rfl, rfl, rfl, rfl, trivial⟩ hK
  · rw [if_neg hc3] at h
    refine g_ic_ge_t 89 hM rfl rfl hg1 hg2 hc3 ?_
    cases h
    exact g_lv [(0, .ref 17), (1, .int (Int32.ofInt v1)), (2, .int (Int32.ofInt v2)), (3, .int (Int32.ofInt v3))] rfl ⟨rfl, rfl, rfl, rfl, trivial⟩ hK
theorem wl_122_18 {k : zK} {d : Nat} {x : am_H} {r : am_A × am_H} {v1 : Int} {v2 : Int} {v3 : Int} {n : Nat} {e : (Int × zS)} {t : (zS)} (hd : 0 ≤ d) (h : zlp (fun (q : Int × zS) => b_122_18 v1 v2 v3 q.1 q.2) n e = some t) (hK : K_122_18 k d x r v1 v2 v3 t) : G_122_18 k d x r v1 v2 v3 e := zlp_go (G := fun e => G_122_18 k d x r v1 v2 v3 e) (K := K_122_18 k d x r v1 v2 v3) (fun e e1 h1 hg => wb_122_18 (q := .inl e1) hd h1 hg) (fun e t1 h1 hk => wb_122_18 (q := .inr t1) hd h1 hk) n e t h hK
def b_122_10 (v1 : Int) (v2 : Int) (v3 : Int) (s : zS) : Option ((Int × zS) ⊕ (zS)) := zg (zR v3) (zg (zR v2) (if v3 < v2 then (zo (zlp (fun (q : Int × zS) => b_122_18 v1 v2 v3 q.1 q.2) zF (0, s)) (fun e4 => some (.inl ((v3 + 1), e4)))) else (some (.inr s))))
theorem wb_122_10 {k : zK} {d : Nat} {x : am_H} {r : am_A × am_H} {v1 : Int} {v2 : Int} {v3 : Int} {s : zS} {q : (Int × zS) ⊕ (zS)} (hd : 0 ≤ d) (h : b_122_10 v1 v2 v3 s = some q) (hK : Sum.elim (G_122_10 k d x r v1 v2) (K_122_10 k d x r v1 v2) q) : G_122_10 k d x r v1 v2 (v3, s) := by
  unfold b_122_10 at h
  have hM := xM_122 k.1
  show zgo k d 122 (10, [(0, .ref 17), (1, .int (Int32.ofInt v1)), (2, .int (Int32.ofInt v2)), (3, .int (Int32.ofInt v3))], []) (hp s ++ x) r
  refine g_iload_n 11 hM rfl rfl rfl ?_
  refine g_iload_n 12 hM rfl rfl rfl ?_
  obtain ⟨hg1, h⟩ := zg_some h
  obtain ⟨hg2, h⟩ := zg_some h
  by_cases hc3 : v3 < v2
  · rw [if_pos hc3] at h
    refine g_ic_ge_f 15 95 hM rfl rfl rfl hg1 hg2 hc3 ?_
    refine g_iconst 16 hM rfl rfl ?_
    refine g_istore 18 hM rfl rfl rfl ?_
    obtain ⟨e4, h5, h⟩ := zo_some h
    refine g_lv [(0, .ref 17), (1, .int (Int32.ofInt v1)), (2, .int (Int32.ofInt v2)), (3, .int (Int32.ofInt v3)), (4, .int (Int32.ofInt 0))] rfl ⟨rfl, rfl, rfl, rfl, rfl, trivial⟩ ?_
    refine wl_122_18 (by omega) h5 ?_
    show zgo k d 122 (89, [(0, .ref 17), (1, .int (Int32.ofInt v1)), (2, .int (Int32.ofInt v2)), (3, .int (Int32.ofInt v3))], []) (hp e4 ++ x) r
    refine g_iinc 92 hM rfl rfl rfl rfl ?_
    refine g_goto 10 hM rfl rfl ?_
    cases h
    exact g_lv [(0, .ref 17), (1, .int (Int32.ofInt v1)), (2, .int (Int32.ofInt v2)), (3, .int (Int32.ofInt (v3 + 1)))] rfl ⟨rfl, rfl, rfl, rfl, trivial⟩ hK
  · rw [if_neg hc3] at h
    refine g_ic_ge_t 95 hM rfl rfl hg1 hg2 hc3 ?_
    cases h
    exact g_lv [] rfl trivial hK
theorem wl_122_10 {k : zK} {d : Nat} {x : am_H} {r : am_A × am_H} {v1 : Int} {v2 : Int} {n : Nat} {e : (Int × zS)} {t : (zS)} (hd : 0 ≤ d) (h : zlp (fun (q : Int × zS) => b_122_10 v1 v2 q.1 q.2) n e = some t) (hK : K_122_10 k d x r v1 v2 t) : G_122_10 k d x r v1 v2 e := zlp_go (G := fun e => G_122_10 k d x r v1 v2 e) (K := K_122_10 k d x r v1 v2) (fun e e1 h1 hg => wb_122_10 (q := .inl e1) hd h1 hg) (fun e t1 h1 hk => wb_122_10 (q := .inr t1) hd h1 hk) n e t h hK
/-- RelationFinder$Machine.reach(I)V -/
def f_122 (v1 : Int) (s : zS) : Option (Unit × zS) := zo (zlp (fun (q : Int × zS) => b_122_10 v1 (gI s 1 0) q.1 q.2) zF (0, s)) (fun e1 => some ((), e1))
theorem w_122 {k : zK} {d : Nat} {x : am_H} {v1 : Int} {s : zS} {q : (Unit × zS)} (hd : 0 ≤ d) (h : f_122 v1 s = some q) : zgo k d 122 (0, [(0, .ref 17), (1, .int (Int32.ofInt v1))], []) (hp s ++ x) (.inl (none), hp q.2 ++ x) := by
  unfold f_122 at h
  have hM := xM_122 k.1
  refine g_aload_n 1 hM rfl rfl rfl ?_
  refine g_getF 4 hM rfl rfl rfl rfl rfl ?_
  refine g_getI 7 0 (gI s 1 0) hM rfl rfl rfl rfl rfl rfl rfl ?_
  refine g_istore_n 8 hM rfl rfl rfl ?_
  refine g_iconst 9 hM rfl rfl ?_
  refine g_istore_n 10 hM rfl rfl rfl ?_
  obtain ⟨e1, h2, h⟩ := zo_some h
  refine g_lv [(0, .ref 17), (1, .int (Int32.ofInt v1)), (2, .int (Int32.ofInt (gI s 1 0))), (3, .int (Int32.ofInt 0))] rfl ⟨rfl, rfl, rfl, rfl, trivial⟩ ?_
  refine wl_122_10 (by omega) h2 ?_
  show zgo k d 122 (95, [], []) (hp e1 ++ x) (.inl (none), hp q.2 ++ x)
  cases h
  exact g_ret hM rfl rfl
/-- RelationFinder$Machine.applyPrefix(I)V -/
def f_120 (v1 : Int) (s : zS) : Option (Unit × zS) := if (gI s 17 3) < 1 then (some ((), s)) else (zg (zR v1) (if v1 = 9 then (zg (0 ≤ (((gI s 17 3) - 1) * 125) ∧ (((gI s 17 3) - 1) * 125) < 2750) (if v1 = 30 then (zb (f_116 (((gI s 17 3) - 1) * 125) (sJ s 18 (((gI s 17 3) - 1) * 125) ((gJ s 18 (((gI s 17 3) - 1) * 125)) ^^^ (18446744073709551615#64)))) (fun r7 s8 => some ((), s8))) else (some ((), (sJ s 18 (((gI s 17 3) - 1) * 125) ((gJ s 18 (((gI s 17 3) - 1) * 125)) ^^^ (18446744073709551615#64))))))) else (if v1 = 28 then (zb (f_121 (((gI s 17 3) - 1) * 125) s) (fun r11 s12 => if v1 = 30 then (zb (f_116 (((gI s 17 3) - 1) * 125) s12) (fun r15 s16 => some ((), s16))) else (some ((), s12)))) else (zb (f_122 (((gI s 17 3) - 1) * 125) s) (fun r18 s19 => if v1 = 30 then (zb (f_116 (((gI s 17 3) - 1) * 125) s19) (fun r22 s23 => some ((), s23))) else (some ((), s19)))))))
theorem w_120 {k : zK} {d : Nat} {x : am_H} {v1 : Int} {s : zS} {q : (Unit × zS)} (hd : 1 ≤ d) (h : f_120 v1 s = some q) : zgo k d 120 (0, [(0, .ref 17), (1, .int (Int32.ofInt v1))], []) (hp s ++ x) (.inl (none), hp q.2 ++ x) := by
  unfold f_120 at h
  have hM := xM_120 k.1
  refine g_aload_n 1 hM rfl rfl rfl ?_
  refine g_getI 4 3 (gI s 17 3) hM rfl rfl rfl rfl rfl rfl rfl ?_
  refine g_iconst 5 hM rfl rfl ?_
  by_cases hc1 : (gI s 17 3) < 1
  · rw [if_pos hc1] at h
    refine g_ic_ge_f 8 9 hM rfl rfl rfl (zR_gI _ _ _) (zR_lit rfl) hc1 ?_
    cases h
    exact g_ret hM rfl rfl
  · rw [if_neg hc1] at h
    refine g_ic_ge_t 9 hM rfl rfl (zR_gI _ _ _) (zR_lit rfl) hc1 ?_
    refine g_aload_n 10 hM rfl rfl rfl ?_
    refine g_getI 13 3 (gI s 17 3) hM rfl rfl rfl rfl rfl rfl rfl ?_
    refine g_iconst 14 hM rfl rfl ?_
    refine g_isub 15 hM rfl rfl ?_
    refine g_bipush 17 hM rfl rfl rfl ?_
    refine g_imul 18 hM rfl rfl ?_
    refine g_istore_n 19 hM rfl rfl rfl ?_
    refine g_iload_n 20 hM rfl rfl rfl ?_
    refine g_bipush 22 hM rfl rfl rfl ?_
    obtain ⟨hg2, h⟩ := zg_some h
    by_cases hc3 : v1 = 9
    · rw [if_pos hc3] at h
      refine g_ic_ne_f 25 44 hM rfl rfl rfl hg2 (zR_lit rfl) hc3 ?_
      refine g_aload_n 26 hM rfl rfl rfl ?_
      refine g_getF 29 hM rfl rfl rfl rfl rfl ?_
      refine g_iload_n 30 hM rfl rfl rfl ?_
      refine g_aload_n 31 hM rfl rfl rfl ?_
      refine g_getF 34 hM rfl rfl rfl rfl rfl ?_
      refine g_iload_n 35 hM rfl rfl rfl ?_
      obtain ⟨hg4, h⟩ := zg_some h
      refine g_laload 36 (gJ s 18 (((gI s 17 3) - 1) * 125)) hM rfl rfl rfl rfl hg4 rfl ?_
      refine g_ldc2 39 (18446744073709551615#64) hM rfl rfl rfl (by decide) ?_
      refine g_lxor 40 hM rfl rfl ?_
      refine g_lastore 41 hM rfl rfl rfl rfl hg4 ?_
      refine g_goto 63 hM rfl rfl ?_
      refine g_iload_n 64 hM rfl rfl rfl ?_
      refine g_bipush 66 hM rfl rfl rfl ?_
      by_cases hc5 : v1 = 30
      · rw [if_pos hc5] at h
        refine g_ic_ne_f 69 74 hM rfl rfl rfl hg2 (zR_lit rfl) hc5 ?_
        refine g_aload_n 70 hM rfl rfl rfl ?_
        refine g_iload_n 71 hM rfl rfl rfl ?_
        obtain ⟨r7, s8, h6, h⟩ := zb_some h
        refine g_call 74 _ [] hM rfl rfl rfl rfl rfl (xM_116 _) rfl (z_rcv2 rfl) rfl rfl (by omega) (w_116 (by omega) h6) rfl ?_
        cases h
        exact g_ret hM rfl rfl
      · rw [if_neg hc5] at h
        refine g_ic_ne_t 74 hM rfl rfl hg2 (zR_lit rfl) hc5 ?_
        cases h
        exact g_ret hM rfl rfl
    · rw [if_neg hc3] at h
      refine g_ic_ne_t 44 hM rfl rfl hg2 (zR_lit rfl) hc3 ?_
      refine g_iload_n 45 hM rfl rfl rfl ?_
      refine g_bipush 47 hM rfl rfl rfl ?_
      by_cases hc9 : v1 = 28
      · rw [if_pos hc9] at h
        refine g_ic_ne_f 50 58 hM rfl rfl rfl hg2 (zR_lit rfl) hc9 ?_
        refine g_aload_n 51 hM rfl rfl rfl ?_
        refine g_iload_n 52 hM rfl rfl rfl ?_
        obtain ⟨r11, s12, h10, h⟩ := zb_some h
        refine g_call 55 _ [] hM rfl rfl rfl rfl rfl (xM_121 _) rfl (z_rcv2 rfl) rfl rfl (by omega) (w_121 (by omega) h10) rfl ?_
        refine g_goto 63 hM rfl rfl ?_
        refine g_iload_n 64 hM rfl rfl rfl ?_
        refine g_bipush 66 hM rfl rfl rfl ?_
        by_cases hc13 : v1 = 30
        · rw [if_pos hc13] at h
          refine g_ic_ne_f 69 74 hM rfl rfl rfl hg2 (zR_lit rfl) hc13 ?_
          refine g_aload_n 70 hM rfl rfl rfl ?_
          refine g_iload_n 71 hM rfl rfl rfl ?_
          obtain ⟨r15, s16, h14, h⟩ := zb_some h
          refine g_call 74 _ [] hM rfl rfl rfl rfl rfl (xM_116 _) rfl (z_rcv2 rfl) rfl rfl (by omega) (w_116 (by omega) h14) rfl ?_
          cases h
          exact g_ret hM rfl rfl
        · rw [if_neg hc13] at h
          refine g_ic_ne_t 74 hM rfl rfl hg2 (zR_lit rfl) hc13 ?_
          cases h
          exact g_ret hM rfl rfl
      · rw [if_neg hc9] at h
        refine g_ic_ne_t 58 hM rfl rfl hg2 (zR_lit rfl) hc9 ?_
        refine g_aload_n 59 hM rfl rfl rfl ?_
        refine g_iload_n 60 hM rfl rfl rfl ?_
        obtain ⟨r18, s19, h17, h⟩ := zb_some h
        refine g_call 63 _ [] hM rfl rfl rfl rfl rfl (xM_122 _) rfl (z_rcv2 rfl) rfl rfl (by omega) (w_122 (by omega) h17) rfl ?_
        refine g_iload_n 64 hM rfl rfl rfl ?_
        refine g_bipush 66 hM rfl rfl rfl ?_
        by_cases hc20 : v1 = 30
        · rw [if_pos hc20] at h
          refine g_ic_ne_f 69 74 hM rfl rfl rfl hg2 (zR_lit rfl) hc20 ?_
          refine g_aload_n 70 hM rfl rfl rfl ?_
          refine g_iload_n 71 hM rfl rfl rfl ?_
          obtain ⟨r22, s23, h21, h⟩ := zb_some h
          refine g_call 74 _ [] hM rfl rfl rfl rfl rfl (xM_116 _) rfl (z_rcv2 rfl) rfl rfl (by omega) (w_116 (by omega) h21) rfl ?_
          cases h
          exact g_ret hM rfl rfl
        · rw [if_neg hc20] at h
          refine g_ic_ne_t 74 hM rfl rfl hg2 (zR_lit rfl) hc20 ?_
          cases h
          exact g_ret hM rfl rfl
def G_123_63 (k : zK) (d : Nat) (x : am_H) (r : am_A × am_H) (v1 : Int) (v2 : Int) (v3 : Int) (v4 : Int) (s : zS) (e : (BitVec 64 × Int)) : Prop := zgo k d 123 (63, [(0, .ref 17), (1, .int (Int32.ofInt v1)), (2, .int (Int32.ofInt v2)), (3, .int (Int32.ofInt v3)), (4, .int (Int32.ofInt v4)), (5, .long (Int64.ofBitVec e.1)), (7, .int (Int32.ofInt e.2))], []) (hp s ++ x) r
def K_123_63 (k : zK) (d : Nat) (x : am_H) (r : am_A × am_H) (v1 : Int) (v2 : Int) (v3 : Int) (v4 : Int) (s : zS) (t : (BitVec 64)) : Prop := zgo k d 123 (138, [(0, .ref 17), (2, .int (Int32.ofInt v2)), (5, .long (Int64.ofBitVec t))], []) (hp s ++ x) r
def b_123_63 (v1 : Int) (v2 : Int) (v3 : Int) (v4 : Int) (s : zS) (w5 : BitVec 64) (v7 : Int) : Option ((BitVec 64 × Int) ⊕ (BitVec 64)) := zg (zR v7) (zg (zR v4) (if v7 < v4 then (zg (0 ≤ (v2 + v7) ∧ (v2 + v7) < 2750) (zg (0 ≤ (v3 + v7) ∧ (v3 + v7) < 2750) (zg (zR v1) (if v1 = 32 then (some (.inl (((w5 ||| ((gJ s 18 (v2 + v7)) &&& ((gJ s 18 (v3 + v7)) ^^^ (18446744073709551615#64)))) ||| ((gJ s 18 (v3 + v7)) &&& ((gJ s 18 (v2 + v7)) ^^^ (18446744073709551615#64)))), (v7 + 1)))) else (some (.inl ((w5 ||| ((gJ s 18 (v2 + v7)) &&& ((gJ s 18 (v3 + v7)) ^^^ (18446744073709551615#64)))), (v7 + 1)))))))) else (some (.inr w5))))
theorem wb_123_63 {k : zK} {d : Nat} {x : am_H} {r : am_A × am_H} {v1 : Int} {v2 : Int} {v3 : Int} {v4 : Int} {w5 : BitVec 64} {v7 : Int} {s : zS} {q : (BitVec 64 × Int) ⊕ (BitVec 64)} (hd : 1 ≤ d) (h : b_123_63 v1 v2 v3 v4 s w5 v7 = some q) (hK : Sum.elim (G_123_63 k d x r v1 v2 v3 v4 s) (K_123_63 k d x r v1 v2 v3 v4 s) q) : G_123_63 k d x r v1 v2 v3 v4 s (w5, v7) := by
  unfold b_123_63 at h
  have hM := xM_123 k.1
  show zgo k d 123 (63, [(0, .ref 17), (1, .int (Int32.ofInt v1)), (2, .int (Int32.ofInt v2)), (3, .int (Int32.ofInt v3)), (4, .int (Int32.ofInt v4)), (5, .long (Int64.ofBitVec w5)), (7, .int (Int32.ofInt v7))], []) (hp s ++ x) r
  refine g_iload 65 hM rfl rfl rfl ?_
  refine g_iload 67 hM rfl rfl rfl ?_
  obtain ⟨hg1, h⟩ := zg_some h
  obtain ⟨hg2, h⟩ := zg_some h
  by_cases hc3 : v7 < v4
  · rw [if_pos hc3] at h
    refine g_ic_ge_f 70 138 hM rfl rfl rfl hg1 hg2 hc3 ?_
    refine g_lload 72 hM rfl rfl rfl ?_
    refine g_aload_n 73 hM rfl rfl rfl ?_
    refine g_getF 76 hM rfl rfl rfl rfl rfl ?_
    refine g_iload_n 77 hM rfl rfl rfl ?_
    refine g_iload 79 hM rfl rfl rfl ?_
    refine g_iadd 80 hM rfl rfl ?_
    obtain ⟨hg4, h⟩ := zg_some h
    refine g_laload 81 (gJ s 18 (v2 + v7)) hM rfl rfl rfl rfl hg4 rfl ?_
    refine g_aload_n 82 hM rfl rfl rfl ?_
    refine g_getF 85 hM rfl rfl rfl rfl rfl ?_
    refine g_iload_n 86 hM rfl rfl rfl ?_
    refine g_iload 88 hM rfl rfl rfl ?_
    refine g_iadd 89 hM rfl rfl ?_
    obtain ⟨hg5, h⟩ := zg_some h
    refine g_laload 90 (gJ s 18 (v3 + v7)) hM rfl rfl rfl rfl hg5 rfl ?_
    refine g_ldc2 93 (18446744073709551615#64) hM rfl rfl rfl (by decide) ?_
    refine g_lxor 94 hM rfl rfl ?_
    refine g_land 95 hM rfl rfl ?_
    refine g_lor 96 hM rfl rfl ?_
    refine g_lstore 98 hM rfl rfl rfl ?_
    refine g_iload_n 99 hM rfl rfl rfl ?_
    refine g_bipush 101 hM rfl rfl rfl ?_
    obtain ⟨hg6, h⟩ := zg_some h
    by_cases hc7 : v1 = 32
    · rw [if_pos hc7] at h
      refine g_ic_ne_f 104 132 hM rfl rfl rfl hg6 (zR_lit rfl) hc7 ?_
      refine g_lload 106 hM rfl rfl rfl ?_
      refine g_aload_n 107 hM rfl rfl rfl ?_
      refine g_getF 110 hM rfl rfl rfl rfl rfl ?_
      refine g_iload_n 111 hM rfl rfl rfl ?_
      refine g_iload 113 hM rfl rfl rfl ?_
      refine g_iadd 114 hM rfl rfl ?_
      refine g_laload 115 (gJ s 18 (v3 + v7)) hM rfl rfl rfl rfl hg5 rfl ?_
      refine g_aload_n 116 hM rfl rfl rfl ?_
      refine g_getF 119 hM rfl rfl rfl rfl rfl ?_
      refine g_iload_n 120 hM rfl rfl rfl ?_
      refine g_iload 122 hM rfl rfl rfl ?_
      refine g_iadd 123 hM rfl rfl ?_
      refine g_laload 124 (gJ s 18 (v2 + v7)) hM rfl rfl rfl rfl hg4 rfl ?_
      refine g_ldc2 127 (18446744073709551615#64) hM rfl rfl rfl (by decide) ?_
      refine g_lxor 128 hM rfl rfl ?_
      refine g_land 129 hM rfl rfl ?_
      refine g_lor 130 hM rfl rfl ?_
      refine g_lstore 132 hM rfl rfl rfl ?_
      refine g_iinc 135 hM rfl rfl rfl rfl ?_
      refine g_goto 63 hM rfl rfl ?_
      cases h
      exact g_lv [(0, .ref 17), (1, .int (Int32.ofInt v1)), (2, .int (Int32.ofInt v2)), (3, .int (Int32.ofInt v3)), (4, .int (Int32.ofInt v4)), (5, .long (Int64.ofBitVec ((w5 ||| ((gJ s 18 (v2 + v7)) &&& ((gJ s 18 (v3 + v7)) ^^^ (18446744073709551615#64)))) ||| ((gJ s 18 (v3 + v7)) &&& ((gJ s 18 (v2 + v7)) ^^^ (18446744073709551615#64)))))), (7, .int (Int32.ofInt (v7 + 1)))] rfl ⟨rfl, rfl, rfl, rfl, rfl, rfl, rfl, trivial⟩ hK
    · rw [if_neg hc7] at h
      refine g_ic_ne_t 132 hM rfl rfl hg6 (zR_lit rfl) hc7 ?_
      refine g_iinc 135 hM rfl rfl rfl rfl ?_
      refine g_goto 63 hM rfl rfl ?_
      cases h
      exact g_lv [(0, .ref 17), (1, .int (Int32.ofInt v1)), (2, .int (Int32.ofInt v2)), (3, .int (Int32.ofInt v3)), (4, .int (Int32.ofInt v4)), (5, .long (Int64.ofBitVec (w5 ||| ((gJ s 18 (v2 + v7)) &&& ((gJ s 18 (v3 + v7)) ^^^ (18446744073709551615#64)))))), (7, .int (Int32.ofInt (v7 + 1)))] rfl ⟨rfl, rfl, rfl, rfl, rfl, rfl, rfl, trivial⟩ hK
  · rw [if_neg hc3] at h
    refine g_ic_ge_t 138 hM rfl rfl hg1 hg2 hc3 ?_
    cases h
    exact g_lv [(0, .ref 17), (2, .int (Int32.ofInt v2)), (5, .long (Int64.ofBitVec w5))] rfl ⟨rfl, rfl, rfl, trivial⟩ hK
