/-! THE PURE LAYER: the object itself, the law's beginning, the heap at the law's loop. By program. -/
/-- the Codes that were made so far, and where they lie -/
def zfi : Nat → Nat → Option Nat
  | 0 => fun _ => none
  | i + 1 => va_up (zfi i) i (some (29 + 8 * i))
theorem zfi_eq : ∀ i : Nat, zfi i = fun j => if j < i then some (29 + 8 * j) else none
  | 0 => by
    funext j
    rw [if_neg (by omega)]
    rfl
  | i + 1 => by
    funext j
    show va_up (zfi i) i (some (29 + 8 * i)) j = _
    rw [zfi_eq i]
    unfold va_up
    by_cases h1 : j = i
    · rw [if_pos h1, if_pos (by omega), h1]
    · rw [if_neg h1]
      dsimp only
      by_cases h2 : j < i
      · rw [if_pos h2, if_pos (by omega)]
      · rw [if_neg h2, if_neg (by omega)]
def zcds : Nat → am_H
  | 0 => []
  | i + 1 => zcds i ++ cC_C (29 + 8 * i)
theorem zcds_len : ∀ i : Nat, (zcds i).length = 8 * i
  | 0 => rfl
  | i + 1 => by
    rw [zcds, List.length_append, zcds_len i]
    show 8 * i + 8 = _
    omega
def zA (fs : List Value) (n : Int) (i : Nat) : am_H := .inr (0, fs) :: [.inr (1, [.int (Int32.ofInt n), .ref 2, .ref 3, .ref 4, .int 0, .ref 5, .ref 6, .ref 7, .int 0]), .inl (.int, 4, .inl (upd (upd (upd (upd (fun _ => 0) 0 (Int32.ofInt 1)) 1 (Int32.ofInt (1 * n))) 2 (Int32.ofInt ((1 * n) * n))) 3 (Int32.ofInt (((1 * n) * n) * n)))), .inl (.long, 8, .inr (.inl (fun _ => 0))), .inl (.int, 8, .inl (fun _ => 0)), .inl (.int, 1000, .inl (fun _ => 0)), .inl (.long, 1000, .inr (.inl (fun _ => 0))), .inl (.int, 12, .inl (fun _ => 0)), .inr (2, [.ref 9, .int 0, .int 0, .int 0, .int 0, .int 0, .long 0, .int 0]), .inl (.int, 600, .inl (fun _ => 0)), .inr (3, [.ref 8, .ref 1, .null, .int 0, .int 0, .int 0, .int 0, .int 0, .int 0, .ref 11, .ref 12, .ref 13, .ref 14, .ref 15, .ref 16, .int 0, .int 0]), .inl (.int, 20, .inl (fun _ => 0)), .inl (.int, 20, .inl (fun _ => 0)), .inl (.int, 20, .inl (fun _ => 0)), .inl (.int, 20, .inl (fun _ => 0)), .inl (.int, 20, .inl (fun _ => 0)), .inl (.long, 20, .inr (.inl (fun _ => 0))), .inr (4, [.ref 1, .ref 18, .ref 19, .int 0, .ref 20, .ref 21, .ref 22, .ref 23, .ref 24]), .inl (.long, 2750, .inr (.inl (fun _ => 0))), .inl (.int, 22, .inl (fun _ => 0)), .inl (.int, 20, .inl (fun _ => 0)), .inl (.long, 125, .inr (.inl (fun _ => 0))), .inl (.long, 10, .inr (.inl (fun _ => 0))), .inl (.long, 1000, .inr (.inl (fun _ => 0))), .inl (.long, 5000, .inr (.inl (fun _ => 0))), .inr (5, [.ref 1, .int 0, .int 0, .ref 26, .ref 27]), .inl (.int, 5, .inl (fun _ => 0)), .inl (.int, 1440, .inl (fun _ => 0)), .inl (.object "RelationFinder$Code", 17, .inr (.inr (.inr (.inr (zfi i)))))]
theorem zA_len (fs : List Value) (n : Int) (i : Nat) : (zA fs n i ++ zcds i).length = 29 + 8 * i := by
  rw [List.length_append, zcds_len]
  rfl
theorem zclamp_eq (a : Int) : zmax 1 (zmin 5 a) = zclamp a := by
  unfold zmax zmin zclamp
  by_cases h1 : a < 1
  · rw [if_pos h1, if_pos (show a < 5 by omega), if_neg (by omega)]
  · rw [if_neg h1]
    by_cases h2 : 5 < a
    · rw [if_pos h2, if_neg (show ¬ a < 5 by omega)]
      rfl
    · rw [if_neg h2]
      by_cases h3 : a < 5
      · rw [if_pos h3]
        by_cases h4 : 1 < a
        · rw [if_pos h4]
        · rw [if_neg h4]; omega
      · rw [if_neg h3]
        have : a = 5 := by omega
        rw [this]
        rfl
theorem cF_loop {k : zK} {d : Nat} {n : Int} {fs : List Value} {r : am_A × am_H} (hd : 2 ≤ d) (hfs : fs[5]? = some (.ref 28)) : ∀ m i : Nat, i + m = 17 → zgo k d 14 (123, [(0, .ref 0)], []) (zA fs n 17 ++ zcds 17) r → zgo k d 14 (95, [(0, .ref 0), (2, .int (Int32.ofInt (i : Int)))], []) (zA fs n i ++ zcds i) r := by
  have hM := xM_14 k.1
  intro m
  induction m with
  | zero =>
    intro i hi g
    have e : i = 17 := by omega
    subst e
    refine g_iload_n 96 hM rfl rfl rfl ?_
    refine g_aload_n 97 hM rfl rfl rfl ?_
    refine rr_get 100 (.ref 28) hM rfl rfl rfl rfl hfs ?_
    refine rr_alen 101 17 hM rfl rfl rfl rfl ?_
    refine g_ic_ge_t 123 hM rfl rfl (zR_lit rfl) (zR_lit rfl) (by decide) ?_
    exact g_lv [(0, .ref 0)] rfl ⟨rfl, trivial⟩ g
  | succ m ih =>
    intro i hi g
    have hr : zR (i : Int) := ⟨by omega, by omega⟩
    refine g_iload_n 96 hM rfl rfl rfl ?_
    refine g_aload_n 97 hM rfl rfl rfl ?_
    refine rr_get 100 (.ref 28) hM rfl rfl rfl rfl hfs ?_
    refine rr_alen 101 17 hM rfl rfl rfl rfl ?_
    refine g_ic_ge_f 104 123 hM rfl rfl rfl hr (zR_lit rfl) (show (i : Int) < ((17 : Nat) : Int) by omega) ?_
    refine g_aload_n 105 hM rfl rfl rfl ?_
    refine rr_get 108 (.ref 28) hM rfl rfl rfl rfl hfs ?_
    refine g_iload_n 109 hM rfl rfl rfl ?_
    refine rr_new 112 (29 + 8 * i) hM rfl rfl rfl (zA_len fs n i) (by omega) ?_
    refine g_dup 113 hM rfl rfl rfl ?_
    refine g_call 116 _ [.ref (29 + 8 * i), .int (Int32.ofInt (i : Int)), .ref 28] hM rfl rfl rfl rfl rfl (xM_137 _) rfl rfl rfl rfl (by omega) (cC (h := zA fs n i ++ zcds i) (b := 29 + 8 * i) (by omega) (zA_len fs n i) (by omega)) rfl ?_
    refine rr_aast 117 (n := 17) (f := zfi i) (C := "RelationFinder$Code") (fs := [.int 0, .ref (29 + 8 * i + 1), .ref (29 + 8 * i + 2), .ref (29 + 8 * i + 3), .ref (29 + 8 * i + 4), .ref (29 + 8 * i + 5), .ref (29 + 8 * i + 6), .ref (29 + 8 * i + 7), .int 0]) (ci := 6) hM rfl rfl rfl (q_at (b := 29 + 8 * i) (j := 0) (zA_len fs n i) (by omega) rfl rfl) rfl rfl rfl (by omega) (by decide) ?_
    refine g_iinc 120 hM rfl rfl rfl rfl ?_
    refine g_goto 95 hM rfl rfl ?_
    refine g_lv [(0, .ref 0), (2, .int (Int32.ofInt ((i : Int) + 1)))] rfl ⟨rfl, rfl, trivial⟩ ?_
    have g2 := ih (i + 1) (by omega) g
    have e2 : ((i + 1 : Nat) : Int) = (i : Int) + 1 := by omega
    rw [e2] at g2
    have e3 : ((zA fs n i ++ zcds i) ++ cC_C (29 + 8 * i)).set 28 (.inl (.object "RelationFinder$Code", 17, .inr (.inr (.inr (.inr (va_up (zfi i) ((i : Int)).toNat (some (29 + 8 * i)))))))) = zA fs n (i + 1) ++ zcds (i + 1) := by
      rw [Int.toNat_natCast, zcds, ← List.append_assoc]
      rfl
    rw [e3]
    exact g2
def zRF (n : Int) : am_H := (zA [.ref 1, .ref 8, .ref 10, .ref 17, .ref 25, .ref 28, .ref 165, .ref 173, .ref 174, .ref 175, .int 0, .int 0, .int (Int32.ofInt (-1)), .int 0, .int 0, .int 0, .ref 176, .int 0] n 17 ++ zcds 17) ++ [.inr (6, [.int 0, .ref 166, .ref 167, .ref 168, .ref 169, .ref 170, .ref 171, .ref 172, .int 0]), .inl (.int, 200, .inl (fun _ => 0)), .inl (.int, 200, .inl (fun _ => 0)), .inl (.int, 200, .inl (fun _ => 0)), .inl (.int, 200, .inl (fun _ => 0)), .inl (.int, 200, .inl (fun _ => 0)), .inl (.int, 200, .inl (fun _ => 0)), .inl (.int, 200, .inl (fun _ => 0)), .inl (.long, 1088, .inr (.inl (fun _ => 0))), .inl (.long, 17, .inr (.inl (fun _ => 0))), .inl (.long, 64, .inr (.inl (fun _ => 0))), .inl (.boolean, 125, .inl (fun _ => 0))]
set_option maxHeartbeats 4000000 in
theorem cF2 {k : zK} {d : Nat} {n : Int} {lv : List (Nat × Value)} (hd : 2 ≤ d) : zgo k d 14 (123, [(0, .ref 0)], []) (zA [.ref 1, .ref 8, .ref 10, .ref 17, .ref 25, .ref 28, .null, .null, .null, .null, .int 0, .int 0, .int 0, .int 0, .int 0, .int 0, .null, .int 0] n 17 ++ zcds 17) (.inl none, zRF n) := by
  have hM := xM_14 k.1
  refine g_aload_n 124 hM rfl rfl rfl ?_
  rw [← List.append_nil (zA [.ref 1, .ref 8, .ref 10, .ref 17, .ref 25, .ref 28, .null, .null, .null, .null, .int 0, .int 0, .int 0, .int 0, .int 0, .int 0, .null, .int 0] n 17 ++ zcds 17)]
  refine r_new 127 165 0 [.inr (6, [.int 0, .null, .null, .null, .null, .null, .null, .null, .int 0])] hM rfl rfl rfl (zA_len _ n 17) (by decide) rfl rfl rfl rfl ?_
  refine g_dup 128 hM rfl rfl rfl ?_
  refine r_call 131 _ [.ref 165, .ref 0] [] (cC_C 165) [.inr (6, [.int 0, .ref 166, .ref 167, .ref 168, .ref 169, .ref 170, .ref 171, .ref 172, .int 0]), .inl (.int, 200, .inl (fun _ => 0)), .inl (.int, 200, .inl (fun _ => 0)), .inl (.int, 200, .inl (fun _ => 0)), .inl (.int, 200, .inl (fun _ => 0)), .inl (.int, 200, .inl (fun _ => 0)), .inl (.int, 200, .inl (fun _ => 0)), .inl (.int, 200, .inl (fun _ => 0))] hM rfl rfl rfl rfl (xM_137 _) rfl (fun _ => rfl) rfl rfl (by omega) rfl rfl rfl (cC (by omega) (zA_len _ n 17) (by decide)) ?_
  refine rr_put 134 hM rfl rfl rfl rfl rfl rfl ?_
  show zgo k d 14 (134, _, []) ((zA [.ref 1, .ref 8, .ref 10, .ref 17, .ref 25, .ref 28, .ref 165, .null, .null, .null, .int 0, .int 0, .int 0, .int 0, .int 0, .int 0, .null, .int 0] n 17 ++ zcds 17) ++ [.inr (6, [.int 0, .ref 166, .ref 167, .ref 168, .ref 169, .ref 170, .ref 171, .ref 172, .int 0]), .inl (.int, 200, .inl (fun _ => 0)), .inl (.int, 200, .inl (fun _ => 0)), .inl (.int, 200, .inl (fun _ => 0)), .inl (.int, 200, .inl (fun _ => 0)), .inl (.int, 200, .inl (fun _ => 0)), .inl (.int, 200, .inl (fun _ => 0)), .inl (.int, 200, .inl (fun _ => 0))]) _
  refine g_aload_n 135 hM rfl rfl rfl ?_
  refine g_sipush 138 hM rfl rfl rfl ?_
  refine r_newa 140 173 8 [.inr (6, [.int 0, .ref 166, .ref 167, .ref 168, .ref 169, .ref 170, .ref 171, .ref 172, .int 0]), .inl (.int, 200, .inl (fun _ => 0)), .inl (.int, 200, .inl (fun _ => 0)), .inl (.int, 200, .inl (fun _ => 0)), .inl (.int, 200, .inl (fun _ => 0)), .inl (.int, 200, .inl (fun _ => 0)), .inl (.int, 200, .inl (fun _ => 0)), .inl (.int, 200, .inl (fun _ => 0)), .inl (.long, 1088, .inr (.inl (fun _ => 0)))] hM rfl rfl rfl rfl rfl rfl (zA_len _ n 17) (by decide) rfl rfl rfl rfl ?_
  refine rr_put 143 hM rfl rfl rfl rfl rfl rfl ?_
  show zgo k d 14 (143, _, []) ((zA [.ref 1, .ref 8, .ref 10, .ref 17, .ref 25, .ref 28, .ref 165, .ref 173, .null, .null, .int 0, .int 0, .int 0, .int 0, .int 0, .int 0, .null, .int 0] n 17 ++ zcds 17) ++ [.inr (6, [.int 0, .ref 166, .ref 167, .ref 168, .ref 169, .ref 170, .ref 171, .ref 172, .int 0]), .inl (.int, 200, .inl (fun _ => 0)), .inl (.int, 200, .inl (fun _ => 0)), .inl (.int, 200, .inl (fun _ => 0)), .inl (.int, 200, .inl (fun _ => 0)), .inl (.int, 200, .inl (fun _ => 0)), .inl (.int, 200, .inl (fun _ => 0)), .inl (.int, 200, .inl (fun _ => 0)), .inl (.long, 1088, .inr (.inl (fun _ => 0)))]) _
  refine g_aload_n 144 hM rfl rfl rfl ?_
  refine g_bipush 146 hM rfl rfl rfl ?_
  refine r_newa 148 174 9 [.inr (6, [.int 0, .ref 166, .ref 167, .ref 168, .ref 169, .ref 170, .ref 171, .ref 172, .int 0]), .inl (.int, 200, .inl (fun _ => 0)), .inl (.int, 200, .inl (fun _ => 0)), .inl (.int, 200, .inl (fun _ => 0)), .inl (.int, 200, .inl (fun _ => 0)), .inl (.int, 200, .inl (fun _ => 0)), .inl (.int, 200, .inl (fun _ => 0)), .inl (.int, 200, .inl (fun _ => 0)), .inl (.long, 1088, .inr (.inl (fun _ => 0))), .inl (.long, 17, .inr (.inl (fun _ => 0)))] hM rfl rfl rfl rfl rfl rfl (zA_len _ n 17) (by decide) rfl rfl rfl rfl ?_
  refine rr_put 151 hM rfl rfl rfl rfl rfl rfl ?_
  show zgo k d 14 (151, _, []) ((zA [.ref 1, .ref 8, .ref 10, .ref 17, .ref 25, .ref 28, .ref 165, .ref 173, .ref 174, .null, .int 0, .int 0, .int 0, .int 0, .int 0, .int 0, .null, .int 0] n 17 ++ zcds 17) ++ [.inr (6, [.int 0, .ref 166, .ref 167, .ref 168, .ref 169, .ref 170, .ref 171, .ref 172, .int 0]), .inl (.int, 200, .inl (fun _ => 0)), .inl (.int, 200, .inl (fun _ => 0)), .inl (.int, 200, .inl (fun _ => 0)), .inl (.int, 200, .inl (fun _ => 0)), .inl (.int, 200, .inl (fun _ => 0)), .inl (.int, 200, .inl (fun _ => 0)), .inl (.int, 200, .inl (fun _ => 0)), .inl (.long, 1088, .inr (.inl (fun _ => 0))), .inl (.long, 17, .inr (.inl (fun _ => 0)))]) _
  refine g_aload_n 152 hM rfl rfl rfl ?_
  refine g_bipush 154 hM rfl rfl rfl ?_
  refine r_newa 156 175 10 [.inr (6, [.int 0, .ref 166, .ref 167, .ref 168, .ref 169, .ref 170, .ref 171, .ref 172, .int 0]), .inl (.int, 200, .inl (fun _ => 0)), .inl (.int, 200, .inl (fun _ => 0)), .inl (.int, 200, .inl (fun _ => 0)), .inl (.int, 200, .inl (fun _ => 0)), .inl (.int, 200, .inl (fun _ => 0)), .inl (.int, 200, .inl (fun _ => 0)), .inl (.int, 200, .inl (fun _ => 0)), .inl (.long, 1088, .inr (.inl (fun _ => 0))), .inl (.long, 17, .inr (.inl (fun _ => 0))), .inl (.long, 64, .inr (.inl (fun _ => 0)))] hM rfl rfl rfl rfl rfl rfl (zA_len _ n 17) (by decide) rfl rfl rfl rfl ?_
  refine rr_put 159 hM rfl rfl rfl rfl rfl rfl ?_
  show zgo k d 14 (159, _, []) ((zA [.ref 1, .ref 8, .ref 10, .ref 17, .ref 25, .ref 28, .ref 165, .ref 173, .ref 174, .ref 175, .int 0, .int 0, .int 0, .int 0, .int 0, .int 0, .null, .int 0] n 17 ++ zcds 17) ++ [.inr (6, [.int 0, .ref 166, .ref 167, .ref 168, .ref 169, .ref 170, .ref 171, .ref 172, .int 0]), .inl (.int, 200, .inl (fun _ => 0)), .inl (.int, 200, .inl (fun _ => 0)), .inl (.int, 200, .inl (fun _ => 0)), .inl (.int, 200, .inl (fun _ => 0)), .inl (.int, 200, .inl (fun _ => 0)), .inl (.int, 200, .inl (fun _ => 0)), .inl (.int, 200, .inl (fun _ => 0)), .inl (.long, 1088, .inr (.inl (fun _ => 0))), .inl (.long, 17, .inr (.inl (fun _ => 0))), .inl (.long, 64, .inr (.inl (fun _ => 0)))]) _
  refine g_aload_n 160 hM rfl rfl rfl ?_
  refine g_iconst 161 hM rfl rfl ?_
  refine rr_put 164 hM rfl rfl rfl rfl rfl rfl ?_
  show zgo k d 14 (164, _, []) ((zA [.ref 1, .ref 8, .ref 10, .ref 17, .ref 25, .ref 28, .ref 165, .ref 173, .ref 174, .ref 175, .int 0, .int 0, .int (Int32.ofInt (-1)), .int 0, .int 0, .int 0, .null, .int 0] n 17 ++ zcds 17) ++ [.inr (6, [.int 0, .ref 166, .ref 167, .ref 168, .ref 169, .ref 170, .ref 171, .ref 172, .int 0]), .inl (.int, 200, .inl (fun _ => 0)), .inl (.int, 200, .inl (fun _ => 0)), .inl (.int, 200, .inl (fun _ => 0)), .inl (.int, 200, .inl (fun _ => 0)), .inl (.int, 200, .inl (fun _ => 0)), .inl (.int, 200, .inl (fun _ => 0)), .inl (.int, 200, .inl (fun _ => 0)), .inl (.long, 1088, .inr (.inl (fun _ => 0))), .inl (.long, 17, .inr (.inl (fun _ => 0))), .inl (.long, 64, .inr (.inl (fun _ => 0)))]) _
  refine g_aload_n 165 hM rfl rfl rfl ?_
  refine g_bipush 167 hM rfl rfl rfl ?_
  refine r_newa 169 176 11 [.inr (6, [.int 0, .ref 166, .ref 167, .ref 168, .ref 169, .ref 170, .ref 171, .ref 172, .int 0]), .inl (.int, 200, .inl (fun _ => 0)), .inl (.int, 200, .inl (fun _ => 0)), .inl (.int, 200, .inl (fun _ => 0)), .inl (.int, 200, .inl (fun _ => 0)), .inl (.int, 200, .inl (fun _ => 0)), .inl (.int, 200, .inl (fun _ => 0)), .inl (.int, 200, .inl (fun _ => 0)), .inl (.long, 1088, .inr (.inl (fun _ => 0))), .inl (.long, 17, .inr (.inl (fun _ => 0))), .inl (.long, 64, .inr (.inl (fun _ => 0))), .inl (.boolean, 125, .inl (fun _ => 0))] hM rfl rfl rfl rfl rfl rfl (zA_len _ n 17) (by decide) rfl rfl rfl rfl ?_
  refine rr_put 172 hM rfl rfl rfl rfl rfl rfl ?_
  show zgo k d 14 (172, _, []) ((zA [.ref 1, .ref 8, .ref 10, .ref 17, .ref 25, .ref 28, .ref 165, .ref 173, .ref 174, .ref 175, .int 0, .int 0, .int (Int32.ofInt (-1)), .int 0, .int 0, .int 0, .ref 176, .int 0] n 17 ++ zcds 17) ++ [.inr (6, [.int 0, .ref 166, .ref 167, .ref 168, .ref 169, .ref 170, .ref 171, .ref 172, .int 0]), .inl (.int, 200, .inl (fun _ => 0)), .inl (.int, 200, .inl (fun _ => 0)), .inl (.int, 200, .inl (fun _ => 0)), .inl (.int, 200, .inl (fun _ => 0)), .inl (.int, 200, .inl (fun _ => 0)), .inl (.int, 200, .inl (fun _ => 0)), .inl (.int, 200, .inl (fun _ => 0)), .inl (.long, 1088, .inr (.inl (fun _ => 0))), .inl (.long, 17, .inr (.inl (fun _ => 0))), .inl (.long, 64, .inr (.inl (fun _ => 0))), .inl (.boolean, 125, .inl (fun _ => 0))]) _
  exact g_ret hM rfl rfl
set_option maxHeartbeats 4000000 in
theorem cF {k : zK} {d : Nat} {a0 : Int} (hn0 : zR a0) (hd : 3 ≤ d) : zgo k d 14 (0, [(0, .ref 0), (1, .int (Int32.ofInt a0))], []) ([] ++ [.inr (0, [.null, .null, .null, .null, .null, .null, .null, .null, .null, .null, .int 0, .int 0, .int 0, .int 0, .int 0, .int 0, .null, .int 0])]) (.inl none, zRF (zclamp a0)) := by
  have hM := xM_14 k.1
  have hn1 : zR (zmin 5 a0) := by unfold zmin; split <;> first | exact hn0 | decide
  have hb : ([] : am_H).length = 0 := rfl
  have hB : 0 ≤ 100000 := by decide
  refine g_aload_n 1 hM rfl rfl rfl ?_
  refine rr_obj 4 hM rfl (fun _ => rfl) rfl rfl rfl rfl (by omega) ?_
  refine g_aload_n 5 hM rfl rfl rfl ?_
  refine r_new 8 1 1 [.inr (0, [.null, .null, .null, .null, .null, .null, .null, .null, .null, .null, .int 0, .int 0, .int 0, .int 0, .int 0, .int 0, .null, .int 0]), .inr (1, [.int 0, .null, .null, .null, .int 0, .null, .null, .null, .int 0])] hM rfl rfl rfl hb hB rfl rfl rfl rfl ?_
  refine g_dup 9 hM rfl rfl rfl ?_
  refine g_iconst 10 hM rfl rfl ?_
  refine g_iconst 11 hM rfl rfl ?_
  refine g_iload_n 12 hM rfl rfl rfl ?_
  refine g_min 15 hM rfl (fun _ => rfl) rfl rfl rfl (zR_lit rfl) hn0 rfl (by omega) ?_
  refine g_max 18 hM rfl (fun _ => rfl) rfl rfl rfl (zR_lit rfl) hn1 rfl (by omega) ?_
  refine r_call 21 _ [.ref 1, .ref 0] [.inr (0, [.null, .null, .null, .null, .null, .null, .null, .null, .null, .null, .int 0, .int 0, .int 0, .int 0, .int 0, .int 0, .null, .int 0])] (cW_C 1 (zmax 1 (zmin 5 a0))) [.inr (0, [.null, .null, .null, .null, .null, .null, .null, .null, .null, .null, .int 0, .int 0, .int 0, .int 0, .int 0, .int 0, .null, .int 0]), .inr (1, [.int (Int32.ofInt (zmax 1 (zmin 5 a0))), .ref 2, .ref 3, .ref 4, .int 0, .ref 5, .ref 6, .ref 7, .int 0]), .inl (.int, 4, .inl (upd (upd (upd (upd (fun _ => 0) 0 (Int32.ofInt 1)) 1 (Int32.ofInt (1 * (zmax 1 (zmin 5 a0))))) 2 (Int32.ofInt ((1 * (zmax 1 (zmin 5 a0))) * (zmax 1 (zmin 5 a0))))) 3 (Int32.ofInt (((1 * (zmax 1 (zmin 5 a0))) * (zmax 1 (zmin 5 a0))) * (zmax 1 (zmin 5 a0)))))), .inl (.long, 8, .inr (.inl (fun _ => 0))), .inl (.int, 8, .inl (fun _ => 0)), .inl (.int, 1000, .inl (fun _ => 0)), .inl (.long, 1000, .inr (.inl (fun _ => 0))), .inl (.int, 12, .inl (fun _ => 0))] hM rfl rfl rfl rfl (xM_47 _) rfl (fun _ => rfl) rfl rfl (by omega) rfl rfl rfl (cW (by omega) rfl (by decide)) ?_
  refine r_put 24 0 [.inr (0, [.ref 1, .null, .null, .null, .null, .null, .null, .null, .null, .null, .int 0, .int 0, .int 0, .int 0, .int 0, .int 0, .null, .int 0]), .inr (1, [.int (Int32.ofInt (zmax 1 (zmin 5 a0))), .ref 2, .ref 3, .ref 4, .int 0, .ref 5, .ref 6, .ref 7, .int 0]), .inl (.int, 4, .inl (upd (upd (upd (upd (fun _ => 0) 0 (Int32.ofInt 1)) 1 (Int32.ofInt (1 * (zmax 1 (zmin 5 a0))))) 2 (Int32.ofInt ((1 * (zmax 1 (zmin 5 a0))) * (zmax 1 (zmin 5 a0))))) 3 (Int32.ofInt (((1 * (zmax 1 (zmin 5 a0))) * (zmax 1 (zmin 5 a0))) * (zmax 1 (zmin 5 a0)))))), .inl (.long, 8, .inr (.inl (fun _ => 0))), .inl (.int, 8, .inl (fun _ => 0)), .inl (.int, 1000, .inl (fun _ => 0)), .inl (.long, 1000, .inr (.inl (fun _ => 0))), .inl (.int, 12, .inl (fun _ => 0))] hM rfl rfl rfl hb hB rfl rfl rfl rfl rfl rfl ?_
  refine g_aload_n 25 hM rfl rfl rfl ?_
  refine r_new 28 8 8 [.inr (0, [.ref 1, .null, .null, .null, .null, .null, .null, .null, .null, .null, .int 0, .int 0, .int 0, .int 0, .int 0, .int 0, .null, .int 0]), .inr (1, [.int (Int32.ofInt (zmax 1 (zmin 5 a0))), .ref 2, .ref 3, .ref 4, .int 0, .ref 5, .ref 6, .ref 7, .int 0]), .inl (.int, 4, .inl (upd (upd (upd (upd (fun _ => 0) 0 (Int32.ofInt 1)) 1 (Int32.ofInt (1 * (zmax 1 (zmin 5 a0))))) 2 (Int32.ofInt ((1 * (zmax 1 (zmin 5 a0))) * (zmax 1 (zmin 5 a0))))) 3 (Int32.ofInt (((1 * (zmax 1 (zmin 5 a0))) * (zmax 1 (zmin 5 a0))) * (zmax 1 (zmin 5 a0)))))), .inl (.long, 8, .inr (.inl (fun _ => 0))), .inl (.int, 8, .inl (fun _ => 0)), .inl (.int, 1000, .inl (fun _ => 0)), .inl (.long, 1000, .inr (.inl (fun _ => 0))), .inl (.int, 12, .inl (fun _ => 0)), .inr (2, [.null, .int 0, .int 0, .int 0, .int 0, .int 0, .long 0, .int 0])] hM rfl rfl rfl hb hB rfl rfl rfl rfl ?_
  refine g_dup 29 hM rfl rfl rfl ?_
  refine r_call 32 _ [.ref 8, .ref 0] [.inr (0, [.ref 1, .null, .null, .null, .null, .null, .null, .null, .null, .null, .int 0, .int 0, .int 0, .int 0, .int 0, .int 0, .null, .int 0]), .inr (1, [.int (Int32.ofInt (zmax 1 (zmin 5 a0))), .ref 2, .ref 3, .ref 4, .int 0, .ref 5, .ref 6, .ref 7, .int 0]), .inl (.int, 4, .inl (upd (upd (upd (upd (fun _ => 0) 0 (Int32.ofInt 1)) 1 (Int32.ofInt (1 * (zmax 1 (zmin 5 a0))))) 2 (Int32.ofInt ((1 * (zmax 1 (zmin 5 a0))) * (zmax 1 (zmin 5 a0))))) 3 (Int32.ofInt (((1 * (zmax 1 (zmin 5 a0))) * (zmax 1 (zmin 5 a0))) * (zmax 1 (zmin 5 a0)))))), .inl (.long, 8, .inr (.inl (fun _ => 0))), .inl (.int, 8, .inl (fun _ => 0)), .inl (.int, 1000, .inl (fun _ => 0)), .inl (.long, 1000, .inr (.inl (fun _ => 0))), .inl (.int, 12, .inl (fun _ => 0))] (cT_C 8) [.inr (0, [.ref 1, .null, .null, .null, .null, .null, .null, .null, .null, .null, .int 0, .int 0, .int 0, .int 0, .int 0, .int 0, .null, .int 0]), .inr (1, [.int (Int32.ofInt (zmax 1 (zmin 5 a0))), .ref 2, .ref 3, .ref 4, .int 0, .ref 5, .ref 6, .ref 7, .int 0]), .inl (.int, 4, .inl (upd (upd (upd (upd (fun _ => 0) 0 (Int32.ofInt 1)) 1 (Int32.ofInt (1 * (zmax 1 (zmin 5 a0))))) 2 (Int32.ofInt ((1 * (zmax 1 (zmin 5 a0))) * (zmax 1 (zmin 5 a0))))) 3 (Int32.ofInt (((1 * (zmax 1 (zmin 5 a0))) * (zmax 1 (zmin 5 a0))) * (zmax 1 (zmin 5 a0)))))), .inl (.long, 8, .inr (.inl (fun _ => 0))), .inl (.int, 8, .inl (fun _ => 0)), .inl (.int, 1000, .inl (fun _ => 0)), .inl (.long, 1000, .inr (.inl (fun _ => 0))), .inl (.int, 12, .inl (fun _ => 0)), .inr (2, [.ref 9, .int 0, .int 0, .int 0, .int 0, .int 0, .long 0, .int 0]), .inl (.int, 600, .inl (fun _ => 0))] hM rfl rfl rfl rfl (xM_60 _) rfl (fun _ => rfl) rfl rfl (by omega) rfl rfl rfl (cT (by omega) rfl (by decide)) ?_
  refine r_put 35 0 [.inr (0, [.ref 1, .ref 8, .null, .null, .null, .null, .null, .null, .null, .null, .int 0, .int 0, .int 0, .int 0, .int 0, .int 0, .null, .int 0]), .inr (1, [.int (Int32.ofInt (zmax 1 (zmin 5 a0))), .ref 2, .ref 3, .ref 4, .int 0, .ref 5, .ref 6, .ref 7, .int 0]), .inl (.int, 4, .inl (upd (upd (upd (upd (fun _ => 0) 0 (Int32.ofInt 1)) 1 (Int32.ofInt (1 * (zmax 1 (zmin 5 a0))))) 2 (Int32.ofInt ((1 * (zmax 1 (zmin 5 a0))) * (zmax 1 (zmin 5 a0))))) 3 (Int32.ofInt (((1 * (zmax 1 (zmin 5 a0))) * (zmax 1 (zmin 5 a0))) * (zmax 1 (zmin 5 a0)))))), .inl (.long, 8, .inr (.inl (fun _ => 0))), .inl (.int, 8, .inl (fun _ => 0)), .inl (.int, 1000, .inl (fun _ => 0)), .inl (.long, 1000, .inr (.inl (fun _ => 0))), .inl (.int, 12, .inl (fun _ => 0)), .inr (2, [.ref 9, .int 0, .int 0, .int 0, .int 0, .int 0, .long 0, .int 0]), .inl (.int, 600, .inl (fun _ => 0))] hM rfl rfl rfl hb hB rfl rfl rfl rfl rfl rfl ?_
  refine g_aload_n 36 hM rfl rfl rfl ?_
  refine r_new 39 10 10 [.inr (0, [.ref 1, .ref 8, .null, .null, .null, .null, .null, .null, .null, .null, .int 0, .int 0, .int 0, .int 0, .int 0, .int 0, .null, .int 0]), .inr (1, [.int (Int32.ofInt (zmax 1 (zmin 5 a0))), .ref 2, .ref 3, .ref 4, .int 0, .ref 5, .ref 6, .ref 7, .int 0]), .inl (.int, 4, .inl (upd (upd (upd (upd (fun _ => 0) 0 (Int32.ofInt 1)) 1 (Int32.ofInt (1 * (zmax 1 (zmin 5 a0))))) 2 (Int32.ofInt ((1 * (zmax 1 (zmin 5 a0))) * (zmax 1 (zmin 5 a0))))) 3 (Int32.ofInt (((1 * (zmax 1 (zmin 5 a0))) * (zmax 1 (zmin 5 a0))) * (zmax 1 (zmin 5 a0)))))), .inl (.long, 8, .inr (.inl (fun _ => 0))), .inl (.int, 8, .inl (fun _ => 0)), .inl (.int, 1000, .inl (fun _ => 0)), .inl (.long, 1000, .inr (.inl (fun _ => 0))), .inl (.int, 12, .inl (fun _ => 0)), .inr (2, [.ref 9, .int 0, .int 0, .int 0, .int 0, .int 0, .long 0, .int 0]), .inl (.int, 600, .inl (fun _ => 0)), .inr (3, [.null, .null, .null, .int 0, .int 0, .int 0, .int 0, .int 0, .int 0, .null, .null, .null, .null, .null, .null, .int 0, .int 0])] hM rfl rfl rfl hb hB rfl rfl rfl rfl ?_
  refine g_dup 40 hM rfl rfl rfl ?_
  refine g_aload_n 41 hM rfl rfl rfl ?_
  refine r_get 44 0 (.ref 8) hM rfl rfl rfl hb hB rfl rfl rfl rfl ?_
  refine g_aload_n 45 hM rfl rfl rfl ?_
  refine r_get 48 0 (.ref 1) hM rfl rfl rfl hb hB rfl rfl rfl rfl ?_
  refine r_call 51 _ [.ref 10, .ref 0] [.inr (0, [.ref 1, .ref 8, .null, .null, .null, .null, .null, .null, .null, .null, .int 0, .int 0, .int 0, .int 0, .int 0, .int 0, .null, .int 0]), .inr (1, [.int (Int32.ofInt (zmax 1 (zmin 5 a0))), .ref 2, .ref 3, .ref 4, .int 0, .ref 5, .ref 6, .ref 7, .int 0]), .inl (.int, 4, .inl (upd (upd (upd (upd (fun _ => 0) 0 (Int32.ofInt 1)) 1 (Int32.ofInt (1 * (zmax 1 (zmin 5 a0))))) 2 (Int32.ofInt ((1 * (zmax 1 (zmin 5 a0))) * (zmax 1 (zmin 5 a0))))) 3 (Int32.ofInt (((1 * (zmax 1 (zmin 5 a0))) * (zmax 1 (zmin 5 a0))) * (zmax 1 (zmin 5 a0)))))), .inl (.long, 8, .inr (.inl (fun _ => 0))), .inl (.int, 8, .inl (fun _ => 0)), .inl (.int, 1000, .inl (fun _ => 0)), .inl (.long, 1000, .inr (.inl (fun _ => 0))), .inl (.int, 12, .inl (fun _ => 0)), .inr (2, [.ref 9, .int 0, .int 0, .int 0, .int 0, .int 0, .long 0, .int 0]), .inl (.int, 600, .inl (fun _ => 0))] (cP_C 10 8 1) [.inr (0, [.ref 1, .ref 8, .null, .null, .null, .null, .null, .null, .null, .null, .int 0, .int 0, .int 0, .int 0, .int 0, .int 0, .null, .int 0]), .inr (1, [.int (Int32.ofInt (zmax 1 (zmin 5 a0))), .ref 2, .ref 3, .ref 4, .int 0, .ref 5, .ref 6, .ref 7, .int 0]), .inl (.int, 4, .inl (upd (upd (upd (upd (fun _ => 0) 0 (Int32.ofInt 1)) 1 (Int32.ofInt (1 * (zmax 1 (zmin 5 a0))))) 2 (Int32.ofInt ((1 * (zmax 1 (zmin 5 a0))) * (zmax 1 (zmin 5 a0))))) 3 (Int32.ofInt (((1 * (zmax 1 (zmin 5 a0))) * (zmax 1 (zmin 5 a0))) * (zmax 1 (zmin 5 a0)))))), .inl (.long, 8, .inr (.inl (fun _ => 0))), .inl (.int, 8, .inl (fun _ => 0)), .inl (.int, 1000, .inl (fun _ => 0)), .inl (.long, 1000, .inr (.inl (fun _ => 0))), .inl (.int, 12, .inl (fun _ => 0)), .inr (2, [.ref 9, .int 0, .int 0, .int 0, .int 0, .int 0, .long 0, .int 0]), .inl (.int, 600, .inl (fun _ => 0)), .inr (3, [.ref 8, .ref 1, .null, .int 0, .int 0, .int 0, .int 0, .int 0, .int 0, .ref 11, .ref 12, .ref 13, .ref 14, .ref 15, .ref 16, .int 0, .int 0]), .inl (.int, 20, .inl (fun _ => 0)), .inl (.int, 20, .inl (fun _ => 0)), .inl (.int, 20, .inl (fun _ => 0)), .inl (.int, 20, .inl (fun _ => 0)), .inl (.int, 20, .inl (fun _ => 0)), .inl (.long, 20, .inr (.inl (fun _ => 0)))] hM rfl rfl rfl rfl (xM_72 _) rfl (fun _ => rfl) rfl rfl (by omega) rfl rfl rfl (cP (by omega) rfl (by decide)) ?_
  refine r_put 54 0 [.inr (0, [.ref 1, .ref 8, .ref 10, .null, .null, .null, .null, .null, .null, .null, .int 0, .int 0, .int 0, .int 0, .int 0, .int 0, .null, .int 0]), .inr (1, [.int (Int32.ofInt (zmax 1 (zmin 5 a0))), .ref 2, .ref 3, .ref 4, .int 0, .ref 5, .ref 6, .ref 7, .int 0]), .inl (.int, 4, .inl (upd (upd (upd (upd (fun _ => 0) 0 (Int32.ofInt 1)) 1 (Int32.ofInt (1 * (zmax 1 (zmin 5 a0))))) 2 (Int32.ofInt ((1 * (zmax 1 (zmin 5 a0))) * (zmax 1 (zmin 5 a0))))) 3 (Int32.ofInt (((1 * (zmax 1 (zmin 5 a0))) * (zmax 1 (zmin 5 a0))) * (zmax 1 (zmin 5 a0)))))), .inl (.long, 8, .inr (.inl (fun _ => 0))), .inl (.int, 8, .inl (fun _ => 0)), .inl (.int, 1000, .inl (fun _ => 0)), .inl (.long, 1000, .inr (.inl (fun _ => 0))), .inl (.int, 12, .inl (fun _ => 0)), .inr (2, [.ref 9, .int 0, .int 0, .int 0, .int 0, .int 0, .long 0, .int 0]), .inl (.int, 600, .inl (fun _ => 0)), .inr (3, [.ref 8, .ref 1, .null, .int 0, .int 0, .int 0, .int 0, .int 0, .int 0, .ref 11, .ref 12, .ref 13, .ref 14, .ref 15, .ref 16, .int 0, .int 0]), .inl (.int, 20, .inl (fun _ => 0)), .inl (.int, 20, .inl (fun _ => 0)), .inl (.int, 20, .inl (fun _ => 0)), .inl (.int, 20, .inl (fun _ => 0)), .inl (.int, 20, .inl (fun _ => 0)), .inl (.long, 20, .inr (.inl (fun _ => 0)))] hM rfl rfl rfl hb hB rfl rfl rfl rfl rfl rfl ?_
  refine g_aload_n 55 hM rfl rfl rfl ?_
  refine r_new 58 17 17 [.inr (0, [.ref 1, .ref 8, .ref 10, .null, .null, .null, .null, .null, .null, .null, .int 0, .int 0, .int 0, .int 0, .int 0, .int 0, .null, .int 0]), .inr (1, [.int (Int32.ofInt (zmax 1 (zmin 5 a0))), .ref 2, .ref 3, .ref 4, .int 0, .ref 5, .ref 6, .ref 7, .int 0]), .inl (.int, 4, .inl (upd (upd (upd (upd (fun _ => 0) 0 (Int32.ofInt 1)) 1 (Int32.ofInt (1 * (zmax 1 (zmin 5 a0))))) 2 (Int32.ofInt ((1 * (zmax 1 (zmin 5 a0))) * (zmax 1 (zmin 5 a0))))) 3 (Int32.ofInt (((1 * (zmax 1 (zmin 5 a0))) * (zmax 1 (zmin 5 a0))) * (zmax 1 (zmin 5 a0)))))), .inl (.long, 8, .inr (.inl (fun _ => 0))), .inl (.int, 8, .inl (fun _ => 0)), .inl (.int, 1000, .inl (fun _ => 0)), .inl (.long, 1000, .inr (.inl (fun _ => 0))), .inl (.int, 12, .inl (fun _ => 0)), .inr (2, [.ref 9, .int 0, .int 0, .int 0, .int 0, .int 0, .long 0, .int 0]), .inl (.int, 600, .inl (fun _ => 0)), .inr (3, [.ref 8, .ref 1, .null, .int 0, .int 0, .int 0, .int 0, .int 0, .int 0, .ref 11, .ref 12, .ref 13, .ref 14, .ref 15, .ref 16, .int 0, .int 0]), .inl (.int, 20, .inl (fun _ => 0)), .inl (.int, 20, .inl (fun _ => 0)), .inl (.int, 20, .inl (fun _ => 0)), .inl (.int, 20, .inl (fun _ => 0)), .inl (.int, 20, .inl (fun _ => 0)), .inl (.long, 20, .inr (.inl (fun _ => 0))), .inr (4, [.null, .null, .null, .int 0, .null, .null, .null, .null, .null])] hM rfl rfl rfl hb hB rfl rfl rfl rfl ?_
  refine g_dup 59 hM rfl rfl rfl ?_
  refine g_aload_n 60 hM rfl rfl rfl ?_
  refine r_get 63 0 (.ref 1) hM rfl rfl rfl hb hB rfl rfl rfl rfl ?_
  refine r_call 66 _ [.ref 17, .ref 0] [.inr (0, [.ref 1, .ref 8, .ref 10, .null, .null, .null, .null, .null, .null, .null, .int 0, .int 0, .int 0, .int 0, .int 0, .int 0, .null, .int 0]), .inr (1, [.int (Int32.ofInt (zmax 1 (zmin 5 a0))), .ref 2, .ref 3, .ref 4, .int 0, .ref 5, .ref 6, .ref 7, .int 0]), .inl (.int, 4, .inl (upd (upd (upd (upd (fun _ => 0) 0 (Int32.ofInt 1)) 1 (Int32.ofInt (1 * (zmax 1 (zmin 5 a0))))) 2 (Int32.ofInt ((1 * (zmax 1 (zmin 5 a0))) * (zmax 1 (zmin 5 a0))))) 3 (Int32.ofInt (((1 * (zmax 1 (zmin 5 a0))) * (zmax 1 (zmin 5 a0))) * (zmax 1 (zmin 5 a0)))))), .inl (.long, 8, .inr (.inl (fun _ => 0))), .inl (.int, 8, .inl (fun _ => 0)), .inl (.int, 1000, .inl (fun _ => 0)), .inl (.long, 1000, .inr (.inl (fun _ => 0))), .inl (.int, 12, .inl (fun _ => 0)), .inr (2, [.ref 9, .int 0, .int 0, .int 0, .int 0, .int 0, .long 0, .int 0]), .inl (.int, 600, .inl (fun _ => 0)), .inr (3, [.ref 8, .ref 1, .null, .int 0, .int 0, .int 0, .int 0, .int 0, .int 0, .ref 11, .ref 12, .ref 13, .ref 14, .ref 15, .ref 16, .int 0, .int 0]), .inl (.int, 20, .inl (fun _ => 0)), .inl (.int, 20, .inl (fun _ => 0)), .inl (.int, 20, .inl (fun _ => 0)), .inl (.int, 20, .inl (fun _ => 0)), .inl (.int, 20, .inl (fun _ => 0)), .inl (.long, 20, .inr (.inl (fun _ => 0)))] (cM_C 17 1) [.inr (0, [.ref 1, .ref 8, .ref 10, .null, .null, .null, .null, .null, .null, .null, .int 0, .int 0, .int 0, .int 0, .int 0, .int 0, .null, .int 0]), .inr (1, [.int (Int32.ofInt (zmax 1 (zmin 5 a0))), .ref 2, .ref 3, .ref 4, .int 0, .ref 5, .ref 6, .ref 7, .int 0]), .inl (.int, 4, .inl (upd (upd (upd (upd (fun _ => 0) 0 (Int32.ofInt 1)) 1 (Int32.ofInt (1 * (zmax 1 (zmin 5 a0))))) 2 (Int32.ofInt ((1 * (zmax 1 (zmin 5 a0))) * (zmax 1 (zmin 5 a0))))) 3 (Int32.ofInt (((1 * (zmax 1 (zmin 5 a0))) * (zmax 1 (zmin 5 a0))) * (zmax 1 (zmin 5 a0)))))), .inl (.long, 8, .inr (.inl (fun _ => 0))), .inl (.int, 8, .inl (fun _ => 0)), .inl (.int, 1000, .inl (fun _ => 0)), .inl (.long, 1000, .inr (.inl (fun _ => 0))), .inl (.int, 12, .inl (fun _ => 0)), .inr (2, [.ref 9, .int 0, .int 0, .int 0, .int 0, .int 0, .long 0, .int 0]), .inl (.int, 600, .inl (fun _ => 0)), .inr (3, [.ref 8, .ref 1, .null, .int 0, .int 0, .int 0, .int 0, .int 0, .int 0, .ref 11, .ref 12, .ref 13, .ref 14, .ref 15, .ref 16, .int 0, .int 0]), .inl (.int, 20, .inl (fun _ => 0)), .inl (.int, 20, .inl (fun _ => 0)), .inl (.int, 20, .inl (fun _ => 0)), .inl (.int, 20, .inl (fun _ => 0)), .inl (.int, 20, .inl (fun _ => 0)), .inl (.long, 20, .inr (.inl (fun _ => 0))), .inr (4, [.ref 1, .ref 18, .ref 19, .int 0, .ref 20, .ref 21, .ref 22, .ref 23, .ref 24]), .inl (.long, 2750, .inr (.inl (fun _ => 0))), .inl (.int, 22, .inl (fun _ => 0)), .inl (.int, 20, .inl (fun _ => 0)), .inl (.long, 125, .inr (.inl (fun _ => 0))), .inl (.long, 10, .inr (.inl (fun _ => 0))), .inl (.long, 1000, .inr (.inl (fun _ => 0))), .inl (.long, 5000, .inr (.inl (fun _ => 0)))] hM rfl rfl rfl rfl (xM_101 _) rfl (fun _ => rfl) rfl rfl (by omega) rfl rfl rfl (cM (by omega) rfl (by decide)) ?_
  refine r_put 69 0 [.inr (0, [.ref 1, .ref 8, .ref 10, .ref 17, .null, .null, .null, .null, .null, .null, .int 0, .int 0, .int 0, .int 0, .int 0, .int 0, .null, .int 0]), .inr (1, [.int (Int32.ofInt (zmax 1 (zmin 5 a0))), .ref 2, .ref 3, .ref 4, .int 0, .ref 5, .ref 6, .ref 7, .int 0]), .inl (.int, 4, .inl (upd (upd (upd (upd (fun _ => 0) 0 (Int32.ofInt 1)) 1 (Int32.ofInt (1 * (zmax 1 (zmin 5 a0))))) 2 (Int32.ofInt ((1 * (zmax 1 (zmin 5 a0))) * (zmax 1 (zmin 5 a0))))) 3 (Int32.ofInt (((1 * (zmax 1 (zmin 5 a0))) * (zmax 1 (zmin 5 a0))) * (zmax 1 (zmin 5 a0)))))), .inl (.long, 8, .inr (.inl (fun _ => 0))), .inl (.int, 8, .inl (fun _ => 0)), .inl (.int, 1000, .inl (fun _ => 0)), .inl (.long, 1000, .inr (.inl (fun _ => 0))), .inl (.int, 12, .inl (fun _ => 0)), .inr (2, [.ref 9, .int 0, .int 0, .int 0, .int 0, .int 0, .long 0, .int 0]), .inl (.int, 600, .inl (fun _ => 0)), .inr (3, [.ref 8, .ref 1, .null, .int 0, .int 0, .int 0, .int 0, .int 0, .int 0, .ref 11, .ref 12, .ref 13, .ref 14, .ref 15, .ref 16, .int 0, .int 0]), .inl (.int, 20, .inl (fun _ => 0)), .inl (.int, 20, .inl (fun _ => 0)), .inl (.int, 20, .inl (fun _ => 0)), .inl (.int, 20, .inl (fun _ => 0)), .inl (.int, 20, .inl (fun _ => 0)), .inl (.long, 20, .inr (.inl (fun _ => 0))), .inr (4, [.ref 1, .ref 18, .ref 19, .int 0, .ref 20, .ref 21, .ref 22, .ref 23, .ref 24]), .inl (.long, 2750, .inr (.inl (fun _ => 0))), .inl (.int, 22, .inl (fun _ => 0)), .inl (.int, 20, .inl (fun _ => 0)), .inl (.long, 125, .inr (.inl (fun _ => 0))), .inl (.long, 10, .inr (.inl (fun _ => 0))), .inl (.long, 1000, .inr (.inl (fun _ => 0))), .inl (.long, 5000, .inr (.inl (fun _ => 0)))] hM rfl rfl rfl hb hB rfl rfl rfl rfl rfl rfl ?_
  refine g_aload_n 70 hM rfl rfl rfl ?_
  refine r_new 73 25 25 [.inr (0, [.ref 1, .ref 8, .ref 10, .ref 17, .null, .null, .null, .null, .null, .null, .int 0, .int 0, .int 0, .int 0, .int 0, .int 0, .null, .int 0]), .inr (1, [.int (Int32.ofInt (zmax 1 (zmin 5 a0))), .ref 2, .ref 3, .ref 4, .int 0, .ref 5, .ref 6, .ref 7, .int 0]), .inl (.int, 4, .inl (upd (upd (upd (upd (fun _ => 0) 0 (Int32.ofInt 1)) 1 (Int32.ofInt (1 * (zmax 1 (zmin 5 a0))))) 2 (Int32.ofInt ((1 * (zmax 1 (zmin 5 a0))) * (zmax 1 (zmin 5 a0))))) 3 (Int32.ofInt (((1 * (zmax 1 (zmin 5 a0))) * (zmax 1 (zmin 5 a0))) * (zmax 1 (zmin 5 a0)))))), .inl (.long, 8, .inr (.inl (fun _ => 0))), .inl (.int, 8, .inl (fun _ => 0)), .inl (.int, 1000, .inl (fun _ => 0)), .inl (.long, 1000, .inr (.inl (fun _ => 0))), .inl (.int, 12, .inl (fun _ => 0)), .inr (2, [.ref 9, .int 0, .int 0, .int 0, .int 0, .int 0, .long 0, .int 0]), .inl (.int, 600, .inl (fun _ => 0)), .inr (3, [.ref 8, .ref 1, .null, .int 0, .int 0, .int 0, .int 0, .int 0, .int 0, .ref 11, .ref 12, .ref 13, .ref 14, .ref 15, .ref 16, .int 0, .int 0]), .inl (.int, 20, .inl (fun _ => 0)), .inl (.int, 20, .inl (fun _ => 0)), .inl (.int, 20, .inl (fun _ => 0)), .inl (.int, 20, .inl (fun _ => 0)), .inl (.int, 20, .inl (fun _ => 0)), .inl (.long, 20, .inr (.inl (fun _ => 0))), .inr (4, [.ref 1, .ref 18, .ref 19, .int 0, .ref 20, .ref 21, .ref 22, .ref 23, .ref 24]), .inl (.long, 2750, .inr (.inl (fun _ => 0))), .inl (.int, 22, .inl (fun _ => 0)), .inl (.int, 20, .inl (fun _ => 0)), .inl (.long, 125, .inr (.inl (fun _ => 0))), .inl (.long, 10, .inr (.inl (fun _ => 0))), .inl (.long, 1000, .inr (.inl (fun _ => 0))), .inl (.long, 5000, .inr (.inl (fun _ => 0))), .inr (5, [.null, .int 0, .int 0, .null, .null])] hM rfl rfl rfl hb hB rfl rfl rfl rfl ?_
  refine g_dup 74 hM rfl rfl rfl ?_
  refine g_aload_n 75 hM rfl rfl rfl ?_
  refine r_get 78 0 (.ref 1) hM rfl rfl rfl hb hB rfl rfl rfl rfl ?_
  refine r_call 81 _ [.ref 25, .ref 0] [.inr (0, [.ref 1, .ref 8, .ref 10, .ref 17, .null, .null, .null, .null, .null, .null, .int 0, .int 0, .int 0, .int 0, .int 0, .int 0, .null, .int 0]), .inr (1, [.int (Int32.ofInt (zmax 1 (zmin 5 a0))), .ref 2, .ref 3, .ref 4, .int 0, .ref 5, .ref 6, .ref 7, .int 0]), .inl (.int, 4, .inl (upd (upd (upd (upd (fun _ => 0) 0 (Int32.ofInt 1)) 1 (Int32.ofInt (1 * (zmax 1 (zmin 5 a0))))) 2 (Int32.ofInt ((1 * (zmax 1 (zmin 5 a0))) * (zmax 1 (zmin 5 a0))))) 3 (Int32.ofInt (((1 * (zmax 1 (zmin 5 a0))) * (zmax 1 (zmin 5 a0))) * (zmax 1 (zmin 5 a0)))))), .inl (.long, 8, .inr (.inl (fun _ => 0))), .inl (.int, 8, .inl (fun _ => 0)), .inl (.int, 1000, .inl (fun _ => 0)), .inl (.long, 1000, .inr (.inl (fun _ => 0))), .inl (.int, 12, .inl (fun _ => 0)), .inr (2, [.ref 9, .int 0, .int 0, .int 0, .int 0, .int 0, .long 0, .int 0]), .inl (.int, 600, .inl (fun _ => 0)), .inr (3, [.ref 8, .ref 1, .null, .int 0, .int 0, .int 0, .int 0, .int 0, .int 0, .ref 11, .ref 12, .ref 13, .ref 14, .ref 15, .ref 16, .int 0, .int 0]), .inl (.int, 20, .inl (fun _ => 0)), .inl (.int, 20, .inl (fun _ => 0)), .inl (.int, 20, .inl (fun _ => 0)), .inl (.int, 20, .inl (fun _ => 0)), .inl (.int, 20, .inl (fun _ => 0)), .inl (.long, 20, .inr (.inl (fun _ => 0))), .inr (4, [.ref 1, .ref 18, .ref 19, .int 0, .ref 20, .ref 21, .ref 22, .ref 23, .ref 24]), .inl (.long, 2750, .inr (.inl (fun _ => 0))), .inl (.int, 22, .inl (fun _ => 0)), .inl (.int, 20, .inl (fun _ => 0)), .inl (.long, 125, .inr (.inl (fun _ => 0))), .inl (.long, 10, .inr (.inl (fun _ => 0))), .inl (.long, 1000, .inr (.inl (fun _ => 0))), .inl (.long, 5000, .inr (.inl (fun _ => 0)))] (cR_C 25 1) [.inr (0, [.ref 1, .ref 8, .ref 10, .ref 17, .null, .null, .null, .null, .null, .null, .int 0, .int 0, .int 0, .int 0, .int 0, .int 0, .null, .int 0]), .inr (1, [.int (Int32.ofInt (zmax 1 (zmin 5 a0))), .ref 2, .ref 3, .ref 4, .int 0, .ref 5, .ref 6, .ref 7, .int 0]), .inl (.int, 4, .inl (upd (upd (upd (upd (fun _ => 0) 0 (Int32.ofInt 1)) 1 (Int32.ofInt (1 * (zmax 1 (zmin 5 a0))))) 2 (Int32.ofInt ((1 * (zmax 1 (zmin 5 a0))) * (zmax 1 (zmin 5 a0))))) 3 (Int32.ofInt (((1 * (zmax 1 (zmin 5 a0))) * (zmax 1 (zmin 5 a0))) * (zmax 1 (zmin 5 a0)))))), .inl (.long, 8, .inr (.inl (fun _ => 0))), .inl (.int, 8, .inl (fun _ => 0)), .inl (.int, 1000, .inl (fun _ => 0)), .inl (.long, 1000, .inr (.inl (fun _ => 0))), .inl (.int, 12, .inl (fun _ => 0)), .inr (2, [.ref 9, .int 0, .int 0, .int 0, .int 0, .int 0, .long 0, .int 0]), .inl (.int, 600, .inl (fun _ => 0)), .inr (3, [.ref 8, .ref 1, .null, .int 0, .int 0, .int 0, .int 0, .int 0, .int 0, .ref 11, .ref 12, .ref 13, .ref 14, .ref 15, .ref 16, .int 0, .int 0]), .inl (.int, 20, .inl (fun _ => 0)), .inl (.int, 20, .inl (fun _ => 0)), .inl (.int, 20, .inl (fun _ => 0)), .inl (.int, 20, .inl (fun _ => 0)), .inl (.int, 20, .inl (fun _ => 0)), .inl (.long, 20, .inr (.inl (fun _ => 0))), .inr (4, [.ref 1, .ref 18, .ref 19, .int 0, .ref 20, .ref 21, .ref 22, .ref 23, .ref 24]), .inl (.long, 2750, .inr (.inl (fun _ => 0))), .inl (.int, 22, .inl (fun _ => 0)), .inl (.int, 20, .inl (fun _ => 0)), .inl (.long, 125, .inr (.inl (fun _ => 0))), .inl (.long, 10, .inr (.inl (fun _ => 0))), .inl (.long, 1000, .inr (.inl (fun _ => 0))), .inl (.long, 5000, .inr (.inl (fun _ => 0))), .inr (5, [.ref 1, .int 0, .int 0, .ref 26, .ref 27]), .inl (.int, 5, .inl (fun _ => 0)), .inl (.int, 1440, .inl (fun _ => 0))] hM rfl rfl rfl rfl (xM_129 _) rfl (fun _ => rfl) rfl rfl (by omega) rfl rfl rfl (cR (by omega) rfl (by decide)) ?_
  refine r_put 84 0 [.inr (0, [.ref 1, .ref 8, .ref 10, .ref 17, .ref 25, .null, .null, .null, .null, .null, .int 0, .int 0, .int 0, .int 0, .int 0, .int 0, .null, .int 0]), .inr (1, [.int (Int32.ofInt (zmax 1 (zmin 5 a0))), .ref 2, .ref 3, .ref 4, .int 0, .ref 5, .ref 6, .ref 7, .int 0]), .inl (.int, 4, .inl (upd (upd (upd (upd (fun _ => 0) 0 (Int32.ofInt 1)) 1 (Int32.ofInt (1 * (zmax 1 (zmin 5 a0))))) 2 (Int32.ofInt ((1 * (zmax 1 (zmin 5 a0))) * (zmax 1 (zmin 5 a0))))) 3 (Int32.ofInt (((1 * (zmax 1 (zmin 5 a0))) * (zmax 1 (zmin 5 a0))) * (zmax 1 (zmin 5 a0)))))), .inl (.long, 8, .inr (.inl (fun _ => 0))), .inl (.int, 8, .inl (fun _ => 0)), .inl (.int, 1000, .inl (fun _ => 0)), .inl (.long, 1000, .inr (.inl (fun _ => 0))), .inl (.int, 12, .inl (fun _ => 0)), .inr (2, [.ref 9, .int 0, .int 0, .int 0, .int 0, .int 0, .long 0, .int 0]), .inl (.int, 600, .inl (fun _ => 0)), .inr (3, [.ref 8, .ref 1, .null, .int 0, .int 0, .int 0, .int 0, .int 0, .int 0, .ref 11, .ref 12, .ref 13, .ref 14, .ref 15, .ref 16, .int 0, .int 0]), .inl (.int, 20, .inl (fun _ => 0)), .inl (.int, 20, .inl (fun _ => 0)), .inl (.int, 20, .inl (fun _ => 0)), .inl (.int, 20, .inl (fun _ => 0)), .inl (.int, 20, .inl (fun _ => 0)), .inl (.long, 20, .inr (.inl (fun _ => 0))), .inr (4, [.ref 1, .ref 18, .ref 19, .int 0, .ref 20, .ref 21, .ref 22, .ref 23, .ref 24]), .inl (.long, 2750, .inr (.inl (fun _ => 0))), .inl (.int, 22, .inl (fun _ => 0)), .inl (.int, 20, .inl (fun _ => 0)), .inl (.long, 125, .inr (.inl (fun _ => 0))), .inl (.long, 10, .inr (.inl (fun _ => 0))), .inl (.long, 1000, .inr (.inl (fun _ => 0))), .inl (.long, 5000, .inr (.inl (fun _ => 0))), .inr (5, [.ref 1, .int 0, .int 0, .ref 26, .ref 27]), .inl (.int, 5, .inl (fun _ => 0)), .inl (.int, 1440, .inl (fun _ => 0))] hM rfl rfl rfl hb hB rfl rfl rfl rfl rfl rfl ?_
  refine g_aload_n 85 hM rfl rfl rfl ?_
  refine g_bipush 87 hM rfl rfl rfl ?_
  refine rr_newq 90 28 hM rfl rfl rfl ⟨by decide, by decide⟩ rfl rfl (by decide) ?_
  refine rr_put 93 hM rfl rfl rfl rfl rfl rfl ?_
  refine g_iconst 94 hM rfl rfl ?_
  refine g_istore_n 95 hM rfl rfl rfl ?_
  refine g_lv [(0, .ref 0), (2, .int (Int32.ofInt ((0 : Nat) : Int)))] rfl ⟨rfl, rfl, trivial⟩ ?_
  have g := cF_loop (k := k) (d := d) (n := zclamp a0) (fs := [.ref 1, .ref 8, .ref 10, .ref 17, .ref 25, .ref 28, .null, .null, .null, .null, .int 0, .int 0, .int 0, .int 0, .int 0, .int 0, .null, .int 0]) (by omega) rfl 17 0 rfl (cF2 (lv := []) (by omega))
  rw [← zclamp_eq a0] at g ⊢
  exact g
section ZLB
variable {k : zK} {d mi pc : Nat} {M : am_M} {lv : List (Nat × Value)} {st : List Value} {ah : am_H} {r : am_A × am_H}
theorem z_no2 {j : Nat} : am_at ah (am_big + j) = none := by
  unfold am_at
  rw [if_neg (by omega)]
theorem rr_kalen (p : Nat) (hM : xMT (zvz k.1) mi = some M) (hf : zf M pc = some .arraylength) (e : pc + 1 = p) (g : zgo k d mi (p, lv, .int (Int32.ofInt (k.2.1 : Int)) :: st) ah r) : zgo k d mi (pc, lv, .ref (am_big + 0) :: st) ah r := by
  subst e
  refine zgo_st hM hf ?_ g
  simp only [am_step, am_or, am_one, am_alen, z_no2, am_kalen, if_neg (z_nob 0), z_bsub, xkA, Int32.ofInt_eq_ofNat]
theorem rr_kiald (p : Nat) {i : Int} (hM : xMT (zvz k.1) mi = some M) (hf : zf M pc = some .iaload) (e : pc + 1 = p) (hL : k.2.1 ≤ 5760) (hi : 0 ≤ i ∧ i < k.2.1) (g : zgo k d mi (p, lv, .int (Int32.ofInt (gX k i)) :: st) ah r) : zgo k d mi (pc, lv, .int (Int32.ofInt i) :: .ref (am_big + 0) :: st) ah r := by
  subst e
  obtain ⟨h1, h2, h3⟩ := z_ix rfl hL hi
  refine zgo_st hM hf ?_ g
  simp only [am_step, am_or, am_one, am_iald, z_no2, am_kiald, if_neg (z_nob 0), z_bsub, xkA]
  rw [if_neg h1, h2]
  simp only [gX, Int32.ofInt_toInt]
end ZLB
/-- the script's first int, 0 if there is none -/
def zx0 (k : zK) : Int := if 0 < (k.2.1 : Int) then gX k 0 else 0
theorem zx0_R (k : zK) : zR (zx0 k) := by
  unfold zx0
  split
  · exact zR_toInt _
  · decide
theorem w_1 {k : zK} {d : Nat} {ah : am_H} (hL : k.2.1 ≤ 5760) : zgo k d 1 (0, [(0, .ref (am_big + 0)), (1, .int (Int32.ofInt 0))], []) ah (.inl (some (.int (Int32.ofInt (zx0 k)))), ah) := by
  have hM := xM_1 k.1
  have hr : zR (k.2.1 : Int) := ⟨by omega, by omega⟩
  refine g_iload_n 1 hM rfl rfl rfl ?_
  refine g_aload_n 2 hM rfl rfl rfl ?_
  refine rr_kalen 3 hM rfl rfl ?_
  by_cases h : 0 < (k.2.1 : Int)
  · refine g_ic_ge_f 6 12 hM rfl rfl rfl (zR_lit rfl) hr h ?_
    refine g_aload_n 7 hM rfl rfl rfl ?_
    refine g_iload_n 8 hM rfl rfl rfl ?_
    refine rr_kiald 9 hM rfl rfl hL ⟨by decide, h⟩ ?_
    refine g_goto 13 hM rfl rfl ?_
    rw [zx0, if_pos h]
    exact g_ret hM rfl rfl
  · refine g_ic_ge_t 12 hM rfl rfl (zR_lit rfl) hr h ?_
    refine g_iconst 13 hM rfl rfl ?_
    rw [zx0, if_neg h]
    exact g_ret hM rfl rfl

/-- the state at the law's loop: ints, longs, references -/
def zs0 (n : Int) : zS := (fun c i => match c with
    | 0 => if i = 12 then Int32.ofInt (-1) else 0
    | 1 => if i = 0 then Int32.ofInt n else 0
    | 2 => if i = 3 then Int32.ofInt (1 * n * n * n) else if i = 2 then Int32.ofInt (1 * n * n) else if i = 1 then Int32.ofInt (1 * n) else if i = 0 then Int32.ofInt 1 else 0
    | 177 => if i = 1 then Int32.ofInt n else if i = 5 then Int32.ofInt (-1) else 0
    | _ => 0, fun _ _ => 0, fun c i => match c with
    | 0 => 165
    | 28 => 29 + 8 * i.toNat
    | _ => 0)
theorem zRF_len (n : Int) : (zRF n).length = 177 := by
  unfold zRF
  rw [List.length_append, zA_len]
  rfl
theorem upd_ext {f g : Nat → Int32} (h : ∀ j, f j = g j) : f = g := funext h
theorem zc_0 (n : Int) : zmk (zs0 n) 0 = .inr (0, [.ref 1, .ref 8, .ref 10, .ref 17, .ref 25, .ref 28, .ref 165, .ref 173, .ref 174, .ref 175, .int 0, .int 0, .int (Int32.ofInt (-1)), .int 0, .int 0, .int 0, .ref 176, .int 0]) := by
  rw [zmk_obj (s := zs0 n) (c := 0) rfl]
  simp only [List.mapIdx_cons, List.mapIdx_nil]
  rfl
theorem zc_1 (n : Int) : zmk (zs0 n) 1 = .inr (1, [.int (Int32.ofInt n), .ref 2, .ref 3, .ref 4, .int 0, .ref 5, .ref 6, .ref 7, .int 0]) := rfl
theorem zc_2 (n : Int) : zmk (zs0 n) 2 = .inl (.int, 4, .inl (fun j : Nat => (zs0 n).1 2 (j : Int))) := rfl
theorem zc_3 (n : Int) : zmk (zs0 n) 3 = .inl (.long, 8, .inr (.inl (fun _ => 0))) := rfl
theorem zc_4 (n : Int) : zmk (zs0 n) 4 = .inl (.int, 8, .inl (fun _ => 0)) := rfl
theorem zc_5 (n : Int) : zmk (zs0 n) 5 = .inl (.int, 1000, .inl (fun _ => 0)) := rfl
theorem zc_6 (n : Int) : zmk (zs0 n) 6 = .inl (.long, 1000, .inr (.inl (fun _ => 0))) := rfl
theorem zc_7 (n : Int) : zmk (zs0 n) 7 = .inl (.int, 12, .inl (fun _ => 0)) := rfl
theorem zc_8 (n : Int) : zmk (zs0 n) 8 = .inr (2, [.ref 9, .int 0, .int 0, .int 0, .int 0, .int 0, .long 0, .int 0]) := rfl
theorem zc_9 (n : Int) : zmk (zs0 n) 9 = .inl (.int, 600, .inl (fun _ => 0)) := rfl
theorem zc_10 (n : Int) : zmk (zs0 n) 10 = .inr (3, [.ref 8, .ref 1, .null, .int 0, .int 0, .int 0, .int 0, .int 0, .int 0, .ref 11, .ref 12, .ref 13, .ref 14, .ref 15, .ref 16, .int 0, .int 0]) := by
  rw [zmk_obj (s := zs0 n) (c := 10) rfl]
  simp only [List.mapIdx_cons, List.mapIdx_nil]
  rfl
theorem zc_11 (n : Int) : zmk (zs0 n) 11 = .inl (.int, 20, .inl (fun _ => 0)) := rfl
theorem zc_12 (n : Int) : zmk (zs0 n) 12 = .inl (.int, 20, .inl (fun _ => 0)) := rfl
theorem zc_13 (n : Int) : zmk (zs0 n) 13 = .inl (.int, 20, .inl (fun _ => 0)) := rfl
theorem zc_14 (n : Int) : zmk (zs0 n) 14 = .inl (.int, 20, .inl (fun _ => 0)) := rfl
theorem zc_15 (n : Int) : zmk (zs0 n) 15 = .inl (.int, 20, .inl (fun _ => 0)) := rfl
theorem zc_16 (n : Int) : zmk (zs0 n) 16 = .inl (.long, 20, .inr (.inl (fun _ => 0))) := rfl
theorem zc_17 (n : Int) : zmk (zs0 n) 17 = .inr (4, [.ref 1, .ref 18, .ref 19, .int 0, .ref 20, .ref 21, .ref 22, .ref 23, .ref 24]) := rfl
theorem zc_18 (n : Int) : zmk (zs0 n) 18 = .inl (.long, 2750, .inr (.inl (fun _ => 0))) := rfl
theorem zc_19 (n : Int) : zmk (zs0 n) 19 = .inl (.int, 22, .inl (fun _ => 0)) := rfl
theorem zc_20 (n : Int) : zmk (zs0 n) 20 = .inl (.int, 20, .inl (fun _ => 0)) := rfl
theorem zc_21 (n : Int) : zmk (zs0 n) 21 = .inl (.long, 125, .inr (.inl (fun _ => 0))) := rfl
theorem zc_22 (n : Int) : zmk (zs0 n) 22 = .inl (.long, 10, .inr (.inl (fun _ => 0))) := rfl
theorem zc_23 (n : Int) : zmk (zs0 n) 23 = .inl (.long, 1000, .inr (.inl (fun _ => 0))) := rfl
theorem zc_24 (n : Int) : zmk (zs0 n) 24 = .inl (.long, 5000, .inr (.inl (fun _ => 0))) := rfl
theorem zc_25 (n : Int) : zmk (zs0 n) 25 = .inr (5, [.ref 1, .int 0, .int 0, .ref 26, .ref 27]) := rfl
theorem zc_26 (n : Int) : zmk (zs0 n) 26 = .inl (.int, 5, .inl (fun _ => 0)) := rfl
theorem zc_27 (n : Int) : zmk (zs0 n) 27 = .inl (.int, 1440, .inl (fun _ => 0)) := rfl
theorem zc_28 (n : Int) : zmk (zs0 n) 28 = .inl (.object "RelationFinder$Code", 17, .inr (.inr (.inr (.inr (fun j : Nat => if j < 17 then some ((zs0 n).2.2 28 (j : Int)) else none))))) := rfl
theorem zc_29 (n : Int) : zmk (zs0 n) 29 = .inr (6, [.int 0, .ref 30, .ref 31, .ref 32, .ref 33, .ref 34, .ref 35, .ref 36, .int 0]) := rfl
theorem zc_30 (n : Int) : zmk (zs0 n) 30 = .inl (.int, 200, .inl (fun _ => 0)) := rfl
theorem zc_31 (n : Int) : zmk (zs0 n) 31 = .inl (.int, 200, .inl (fun _ => 0)) := rfl
theorem zc_32 (n : Int) : zmk (zs0 n) 32 = .inl (.int, 200, .inl (fun _ => 0)) := rfl
theorem zc_33 (n : Int) : zmk (zs0 n) 33 = .inl (.int, 200, .inl (fun _ => 0)) := rfl
theorem zc_34 (n : Int) : zmk (zs0 n) 34 = .inl (.int, 200, .inl (fun _ => 0)) := rfl
theorem zc_35 (n : Int) : zmk (zs0 n) 35 = .inl (.int, 200, .inl (fun _ => 0)) := rfl
theorem zc_36 (n : Int) : zmk (zs0 n) 36 = .inl (.int, 200, .inl (fun _ => 0)) := rfl
theorem zc_37 (n : Int) : zmk (zs0 n) 37 = .inr (6, [.int 0, .ref 38, .ref 39, .ref 40, .ref 41, .ref 42, .ref 43, .ref 44, .int 0]) := rfl
theorem zc_38 (n : Int) : zmk (zs0 n) 38 = .inl (.int, 200, .inl (fun _ => 0)) := rfl
theorem zc_39 (n : Int) : zmk (zs0 n) 39 = .inl (.int, 200, .inl (fun _ => 0)) := rfl
theorem zc_40 (n : Int) : zmk (zs0 n) 40 = .inl (.int, 200, .inl (fun _ => 0)) := rfl
theorem zc_41 (n : Int) : zmk (zs0 n) 41 = .inl (.int, 200, .inl (fun _ => 0)) := rfl
theorem zc_42 (n : Int) : zmk (zs0 n) 42 = .inl (.int, 200, .inl (fun _ => 0)) := rfl
theorem zc_43 (n : Int) : zmk (zs0 n) 43 = .inl (.int, 200, .inl (fun _ => 0)) := rfl
theorem zc_44 (n : Int) : zmk (zs0 n) 44 = .inl (.int, 200, .inl (fun _ => 0)) := rfl
theorem zc_45 (n : Int) : zmk (zs0 n) 45 = .inr (6, [.int 0, .ref 46, .ref 47, .ref 48, .ref 49, .ref 50, .ref 51, .ref 52, .int 0]) := rfl
theorem zc_46 (n : Int) : zmk (zs0 n) 46 = .inl (.int, 200, .inl (fun _ => 0)) := rfl
theorem zc_47 (n : Int) : zmk (zs0 n) 47 = .inl (.int, 200, .inl (fun _ => 0)) := rfl
theorem zc_48 (n : Int) : zmk (zs0 n) 48 = .inl (.int, 200, .inl (fun _ => 0)) := rfl
theorem zc_49 (n : Int) : zmk (zs0 n) 49 = .inl (.int, 200, .inl (fun _ => 0)) := rfl
theorem zc_50 (n : Int) : zmk (zs0 n) 50 = .inl (.int, 200, .inl (fun _ => 0)) := rfl
theorem zc_51 (n : Int) : zmk (zs0 n) 51 = .inl (.int, 200, .inl (fun _ => 0)) := rfl
theorem zc_52 (n : Int) : zmk (zs0 n) 52 = .inl (.int, 200, .inl (fun _ => 0)) := rfl
theorem zc_53 (n : Int) : zmk (zs0 n) 53 = .inr (6, [.int 0, .ref 54, .ref 55, .ref 56, .ref 57, .ref 58, .ref 59, .ref 60, .int 0]) := rfl
theorem zc_54 (n : Int) : zmk (zs0 n) 54 = .inl (.int, 200, .inl (fun _ => 0)) := rfl
theorem zc_55 (n : Int) : zmk (zs0 n) 55 = .inl (.int, 200, .inl (fun _ => 0)) := rfl
theorem zc_56 (n : Int) : zmk (zs0 n) 56 = .inl (.int, 200, .inl (fun _ => 0)) := rfl
theorem zc_57 (n : Int) : zmk (zs0 n) 57 = .inl (.int, 200, .inl (fun _ => 0)) := rfl
theorem zc_58 (n : Int) : zmk (zs0 n) 58 = .inl (.int, 200, .inl (fun _ => 0)) := rfl
theorem zc_59 (n : Int) : zmk (zs0 n) 59 = .inl (.int, 200, .inl (fun _ => 0)) := rfl
theorem zc_60 (n : Int) : zmk (zs0 n) 60 = .inl (.int, 200, .inl (fun _ => 0)) := rfl
theorem zc_61 (n : Int) : zmk (zs0 n) 61 = .inr (6, [.int 0, .ref 62, .ref 63, .ref 64, .ref 65, .ref 66, .ref 67, .ref 68, .int 0]) := rfl
theorem zc_62 (n : Int) : zmk (zs0 n) 62 = .inl (.int, 200, .inl (fun _ => 0)) := rfl
theorem zc_63 (n : Int) : zmk (zs0 n) 63 = .inl (.int, 200, .inl (fun _ => 0)) := rfl
theorem zc_64 (n : Int) : zmk (zs0 n) 64 = .inl (.int, 200, .inl (fun _ => 0)) := rfl
theorem zc_65 (n : Int) : zmk (zs0 n) 65 = .inl (.int, 200, .inl (fun _ => 0)) := rfl
theorem zc_66 (n : Int) : zmk (zs0 n) 66 = .inl (.int, 200, .inl (fun _ => 0)) := rfl
theorem zc_67 (n : Int) : zmk (zs0 n) 67 = .inl (.int, 200, .inl (fun _ => 0)) := rfl
theorem zc_68 (n : Int) : zmk (zs0 n) 68 = .inl (.int, 200, .inl (fun _ => 0)) := rfl
theorem zc_69 (n : Int) : zmk (zs0 n) 69 = .inr (6, [.int 0, .ref 70, .ref 71, .ref 72, .ref 73, .ref 74, .ref 75, .ref 76, .int 0]) := rfl
theorem zc_70 (n : Int) : zmk (zs0 n) 70 = .inl (.int, 200, .inl (fun _ => 0)) := rfl
theorem zc_71 (n : Int) : zmk (zs0 n) 71 = .inl (.int, 200, .inl (fun _ => 0)) := rfl
theorem zc_72 (n : Int) : zmk (zs0 n) 72 = .inl (.int, 200, .inl (fun _ => 0)) := rfl
theorem zc_73 (n : Int) : zmk (zs0 n) 73 = .inl (.int, 200, .inl (fun _ => 0)) := rfl
theorem zc_74 (n : Int) : zmk (zs0 n) 74 = .inl (.int, 200, .inl (fun _ => 0)) := rfl
theorem zc_75 (n : Int) : zmk (zs0 n) 75 = .inl (.int, 200, .inl (fun _ => 0)) := rfl
theorem zc_76 (n : Int) : zmk (zs0 n) 76 = .inl (.int, 200, .inl (fun _ => 0)) := rfl
theorem zc_77 (n : Int) : zmk (zs0 n) 77 = .inr (6, [.int 0, .ref 78, .ref 79, .ref 80, .ref 81, .ref 82, .ref 83, .ref 84, .int 0]) := rfl
theorem zc_78 (n : Int) : zmk (zs0 n) 78 = .inl (.int, 200, .inl (fun _ => 0)) := rfl
theorem zc_79 (n : Int) : zmk (zs0 n) 79 = .inl (.int, 200, .inl (fun _ => 0)) := rfl
theorem zc_80 (n : Int) : zmk (zs0 n) 80 = .inl (.int, 200, .inl (fun _ => 0)) := rfl
theorem zc_81 (n : Int) : zmk (zs0 n) 81 = .inl (.int, 200, .inl (fun _ => 0)) := rfl
theorem zc_82 (n : Int) : zmk (zs0 n) 82 = .inl (.int, 200, .inl (fun _ => 0)) := rfl
theorem zc_83 (n : Int) : zmk (zs0 n) 83 = .inl (.int, 200, .inl (fun _ => 0)) := rfl
theorem zc_84 (n : Int) : zmk (zs0 n) 84 = .inl (.int, 200, .inl (fun _ => 0)) := rfl
theorem zc_85 (n : Int) : zmk (zs0 n) 85 = .inr (6, [.int 0, .ref 86, .ref 87, .ref 88, .ref 89, .ref 90, .ref 91, .ref 92, .int 0]) := rfl
theorem zc_86 (n : Int) : zmk (zs0 n) 86 = .inl (.int, 200, .inl (fun _ => 0)) := rfl
theorem zc_87 (n : Int) : zmk (zs0 n) 87 = .inl (.int, 200, .inl (fun _ => 0)) := rfl
theorem zc_88 (n : Int) : zmk (zs0 n) 88 = .inl (.int, 200, .inl (fun _ => 0)) := rfl
theorem zc_89 (n : Int) : zmk (zs0 n) 89 = .inl (.int, 200, .inl (fun _ => 0)) := rfl
theorem zc_90 (n : Int) : zmk (zs0 n) 90 = .inl (.int, 200, .inl (fun _ => 0)) := rfl
theorem zc_91 (n : Int) : zmk (zs0 n) 91 = .inl (.int, 200, .inl (fun _ => 0)) := rfl
theorem zc_92 (n : Int) : zmk (zs0 n) 92 = .inl (.int, 200, .inl (fun _ => 0)) := rfl
theorem zc_93 (n : Int) : zmk (zs0 n) 93 = .inr (6, [.int 0, .ref 94, .ref 95, .ref 96, .ref 97, .ref 98, .ref 99, .ref 100, .int 0]) := rfl
theorem zc_94 (n : Int) : zmk (zs0 n) 94 = .inl (.int, 200, .inl (fun _ => 0)) := rfl
theorem zc_95 (n : Int) : zmk (zs0 n) 95 = .inl (.int, 200, .inl (fun _ => 0)) := rfl
theorem zc_96 (n : Int) : zmk (zs0 n) 96 = .inl (.int, 200, .inl (fun _ => 0)) := rfl
theorem zc_97 (n : Int) : zmk (zs0 n) 97 = .inl (.int, 200, .inl (fun _ => 0)) := rfl
theorem zc_98 (n : Int) : zmk (zs0 n) 98 = .inl (.int, 200, .inl (fun _ => 0)) := rfl
theorem zc_99 (n : Int) : zmk (zs0 n) 99 = .inl (.int, 200, .inl (fun _ => 0)) := rfl
theorem zc_100 (n : Int) : zmk (zs0 n) 100 = .inl (.int, 200, .inl (fun _ => 0)) := rfl
theorem zc_101 (n : Int) : zmk (zs0 n) 101 = .inr (6, [.int 0, .ref 102, .ref 103, .ref 104, .ref 105, .ref 106, .ref 107, .ref 108, .int 0]) := rfl
theorem zc_102 (n : Int) : zmk (zs0 n) 102 = .inl (.int, 200, .inl (fun _ => 0)) := rfl
theorem zc_103 (n : Int) : zmk (zs0 n) 103 = .inl (.int, 200, .inl (fun _ => 0)) := rfl
theorem zc_104 (n : Int) : zmk (zs0 n) 104 = .inl (.int, 200, .inl (fun _ => 0)) := rfl
theorem zc_105 (n : Int) : zmk (zs0 n) 105 = .inl (.int, 200, .inl (fun _ => 0)) := rfl
theorem zc_106 (n : Int) : zmk (zs0 n) 106 = .inl (.int, 200, .inl (fun _ => 0)) := rfl
theorem zc_107 (n : Int) : zmk (zs0 n) 107 = .inl (.int, 200, .inl (fun _ => 0)) := rfl
theorem zc_108 (n : Int) : zmk (zs0 n) 108 = .inl (.int, 200, .inl (fun _ => 0)) := rfl
theorem zc_109 (n : Int) : zmk (zs0 n) 109 = .inr (6, [.int 0, .ref 110, .ref 111, .ref 112, .ref 113, .ref 114, .ref 115, .ref 116, .int 0]) := rfl
theorem zc_110 (n : Int) : zmk (zs0 n) 110 = .inl (.int, 200, .inl (fun _ => 0)) := rfl
theorem zc_111 (n : Int) : zmk (zs0 n) 111 = .inl (.int, 200, .inl (fun _ => 0)) := rfl
theorem zc_112 (n : Int) : zmk (zs0 n) 112 = .inl (.int, 200, .inl (fun _ => 0)) := rfl
theorem zc_113 (n : Int) : zmk (zs0 n) 113 = .inl (.int, 200, .inl (fun _ => 0)) := rfl
theorem zc_114 (n : Int) : zmk (zs0 n) 114 = .inl (.int, 200, .inl (fun _ => 0)) := rfl
theorem zc_115 (n : Int) : zmk (zs0 n) 115 = .inl (.int, 200, .inl (fun _ => 0)) := rfl
theorem zc_116 (n : Int) : zmk (zs0 n) 116 = .inl (.int, 200, .inl (fun _ => 0)) := rfl
theorem zc_117 (n : Int) : zmk (zs0 n) 117 = .inr (6, [.int 0, .ref 118, .ref 119, .ref 120, .ref 121, .ref 122, .ref 123, .ref 124, .int 0]) := rfl
theorem zc_118 (n : Int) : zmk (zs0 n) 118 = .inl (.int, 200, .inl (fun _ => 0)) := rfl
theorem zc_119 (n : Int) : zmk (zs0 n) 119 = .inl (.int, 200, .inl (fun _ => 0)) := rfl
theorem zc_120 (n : Int) : zmk (zs0 n) 120 = .inl (.int, 200, .inl (fun _ => 0)) := rfl
theorem zc_121 (n : Int) : zmk (zs0 n) 121 = .inl (.int, 200, .inl (fun _ => 0)) := rfl
theorem zc_122 (n : Int) : zmk (zs0 n) 122 = .inl (.int, 200, .inl (fun _ => 0)) := rfl
theorem zc_123 (n : Int) : zmk (zs0 n) 123 = .inl (.int, 200, .inl (fun _ => 0)) := rfl
theorem zc_124 (n : Int) : zmk (zs0 n) 124 = .inl (.int, 200, .inl (fun _ => 0)) := rfl
theorem zc_125 (n : Int) : zmk (zs0 n) 125 = .inr (6, [.int 0, .ref 126, .ref 127, .ref 128, .ref 129, .ref 130, .ref 131, .ref 132, .int 0]) := rfl
theorem zc_126 (n : Int) : zmk (zs0 n) 126 = .inl (.int, 200, .inl (fun _ => 0)) := rfl
theorem zc_127 (n : Int) : zmk (zs0 n) 127 = .inl (.int, 200, .inl (fun _ => 0)) := rfl
theorem zc_128 (n : Int) : zmk (zs0 n) 128 = .inl (.int, 200, .inl (fun _ => 0)) := rfl
theorem zc_129 (n : Int) : zmk (zs0 n) 129 = .inl (.int, 200, .inl (fun _ => 0)) := rfl
theorem zc_130 (n : Int) : zmk (zs0 n) 130 = .inl (.int, 200, .inl (fun _ => 0)) := rfl
theorem zc_131 (n : Int) : zmk (zs0 n) 131 = .inl (.int, 200, .inl (fun _ => 0)) := rfl
theorem zc_132 (n : Int) : zmk (zs0 n) 132 = .inl (.int, 200, .inl (fun _ => 0)) := rfl
theorem zc_133 (n : Int) : zmk (zs0 n) 133 = .inr (6, [.int 0, .ref 134, .ref 135, .ref 136, .ref 137, .ref 138, .ref 139, .ref 140, .int 0]) := rfl
theorem zc_134 (n : Int) : zmk (zs0 n) 134 = .inl (.int, 200, .inl (fun _ => 0)) := rfl
theorem zc_135 (n : Int) : zmk (zs0 n) 135 = .inl (.int, 200, .inl (fun _ => 0)) := rfl
theorem zc_136 (n : Int) : zmk (zs0 n) 136 = .inl (.int, 200, .inl (fun _ => 0)) := rfl
theorem zc_137 (n : Int) : zmk (zs0 n) 137 = .inl (.int, 200, .inl (fun _ => 0)) := rfl
theorem zc_138 (n : Int) : zmk (zs0 n) 138 = .inl (.int, 200, .inl (fun _ => 0)) := rfl
theorem zc_139 (n : Int) : zmk (zs0 n) 139 = .inl (.int, 200, .inl (fun _ => 0)) := rfl
theorem zc_140 (n : Int) : zmk (zs0 n) 140 = .inl (.int, 200, .inl (fun _ => 0)) := rfl
theorem zc_141 (n : Int) : zmk (zs0 n) 141 = .inr (6, [.int 0, .ref 142, .ref 143, .ref 144, .ref 145, .ref 146, .ref 147, .ref 148, .int 0]) := rfl
theorem zc_142 (n : Int) : zmk (zs0 n) 142 = .inl (.int, 200, .inl (fun _ => 0)) := rfl
theorem zc_143 (n : Int) : zmk (zs0 n) 143 = .inl (.int, 200, .inl (fun _ => 0)) := rfl
theorem zc_144 (n : Int) : zmk (zs0 n) 144 = .inl (.int, 200, .inl (fun _ => 0)) := rfl
theorem zc_145 (n : Int) : zmk (zs0 n) 145 = .inl (.int, 200, .inl (fun _ => 0)) := rfl
theorem zc_146 (n : Int) : zmk (zs0 n) 146 = .inl (.int, 200, .inl (fun _ => 0)) := rfl
theorem zc_147 (n : Int) : zmk (zs0 n) 147 = .inl (.int, 200, .inl (fun _ => 0)) := rfl
theorem zc_148 (n : Int) : zmk (zs0 n) 148 = .inl (.int, 200, .inl (fun _ => 0)) := rfl
theorem zc_149 (n : Int) : zmk (zs0 n) 149 = .inr (6, [.int 0, .ref 150, .ref 151, .ref 152, .ref 153, .ref 154, .ref 155, .ref 156, .int 0]) := rfl
theorem zc_150 (n : Int) : zmk (zs0 n) 150 = .inl (.int, 200, .inl (fun _ => 0)) := rfl
theorem zc_151 (n : Int) : zmk (zs0 n) 151 = .inl (.int, 200, .inl (fun _ => 0)) := rfl
theorem zc_152 (n : Int) : zmk (zs0 n) 152 = .inl (.int, 200, .inl (fun _ => 0)) := rfl
theorem zc_153 (n : Int) : zmk (zs0 n) 153 = .inl (.int, 200, .inl (fun _ => 0)) := rfl
theorem zc_154 (n : Int) : zmk (zs0 n) 154 = .inl (.int, 200, .inl (fun _ => 0)) := rfl
theorem zc_155 (n : Int) : zmk (zs0 n) 155 = .inl (.int, 200, .inl (fun _ => 0)) := rfl
theorem zc_156 (n : Int) : zmk (zs0 n) 156 = .inl (.int, 200, .inl (fun _ => 0)) := rfl
theorem zc_157 (n : Int) : zmk (zs0 n) 157 = .inr (6, [.int 0, .ref 158, .ref 159, .ref 160, .ref 161, .ref 162, .ref 163, .ref 164, .int 0]) := rfl
theorem zc_158 (n : Int) : zmk (zs0 n) 158 = .inl (.int, 200, .inl (fun _ => 0)) := rfl
theorem zc_159 (n : Int) : zmk (zs0 n) 159 = .inl (.int, 200, .inl (fun _ => 0)) := rfl
theorem zc_160 (n : Int) : zmk (zs0 n) 160 = .inl (.int, 200, .inl (fun _ => 0)) := rfl
theorem zc_161 (n : Int) : zmk (zs0 n) 161 = .inl (.int, 200, .inl (fun _ => 0)) := rfl
theorem zc_162 (n : Int) : zmk (zs0 n) 162 = .inl (.int, 200, .inl (fun _ => 0)) := rfl
theorem zc_163 (n : Int) : zmk (zs0 n) 163 = .inl (.int, 200, .inl (fun _ => 0)) := rfl
theorem zc_164 (n : Int) : zmk (zs0 n) 164 = .inl (.int, 200, .inl (fun _ => 0)) := rfl
theorem zc_165 (n : Int) : zmk (zs0 n) 165 = .inr (6, [.int 0, .ref 166, .ref 167, .ref 168, .ref 169, .ref 170, .ref 171, .ref 172, .int 0]) := rfl
theorem zc_166 (n : Int) : zmk (zs0 n) 166 = .inl (.int, 200, .inl (fun _ => 0)) := rfl
theorem zc_167 (n : Int) : zmk (zs0 n) 167 = .inl (.int, 200, .inl (fun _ => 0)) := rfl
theorem zc_168 (n : Int) : zmk (zs0 n) 168 = .inl (.int, 200, .inl (fun _ => 0)) := rfl
theorem zc_169 (n : Int) : zmk (zs0 n) 169 = .inl (.int, 200, .inl (fun _ => 0)) := rfl
theorem zc_170 (n : Int) : zmk (zs0 n) 170 = .inl (.int, 200, .inl (fun _ => 0)) := rfl
theorem zc_171 (n : Int) : zmk (zs0 n) 171 = .inl (.int, 200, .inl (fun _ => 0)) := rfl
theorem zc_172 (n : Int) : zmk (zs0 n) 172 = .inl (.int, 200, .inl (fun _ => 0)) := rfl
theorem zc_173 (n : Int) : zmk (zs0 n) 173 = .inl (.long, 1088, .inr (.inl (fun _ => 0))) := rfl
theorem zc_174 (n : Int) : zmk (zs0 n) 174 = .inl (.long, 17, .inr (.inl (fun _ => 0))) := rfl
theorem zc_175 (n : Int) : zmk (zs0 n) 175 = .inl (.long, 64, .inr (.inl (fun _ => 0))) := rfl
theorem zc_176 (n : Int) : zmk (zs0 n) 176 = .inl (.boolean, 125, .inl (fun _ => 0)) := rfl
theorem zc_177 (n : Int) : zmk (zs0 n) 177 = .inr (7, [.int 0, .int (Int32.ofInt n), .ref 178, .int 0, .int 0, .int (Int32.ofInt (-1)), .int 0, .ref 179, .ref 180, .ref 181, .int 0, .ref 182, .ref 183, .int 0, .ref 184, .ref 185, .ref 186, .ref 187, .int 0, .int 0, .ref 188, .int 0, .int 0, .long 0, .long 0, .int 0, .int 0, .int 0, .int 0, .long 0, .int 0, .int 0, .ref 189, .ref 190, .ref 191, .ref 192, .ref 193, .ref 194, .int 0, .ref 195, .int 0, .int 0, .ref 196, .ref 197, .ref 198, .ref 199, .int 0, .long 0, .long 0, .ref 200, .ref 201, .ref 202, .ref 203, .int 0, .ref 204]) := by
  rw [zmk_obj (s := zs0 n) (c := 177) rfl]
  simp only [List.mapIdx_cons, List.mapIdx_nil]
  rfl
theorem zc_178 (n : Int) : zmk (zs0 n) 178 = .inl (.int, 600, .inl (fun _ => 0)) := rfl
theorem zc_179 (n : Int) : zmk (zs0 n) 179 = .inl (.long, 8, .inr (.inl (fun _ => 0))) := rfl
theorem zc_180 (n : Int) : zmk (zs0 n) 180 = .inl (.int, 8, .inl (fun _ => 0)) := rfl
theorem zc_181 (n : Int) : zmk (zs0 n) 181 = .inl (.int, 1000, .inl (fun _ => 0)) := rfl
theorem zc_182 (n : Int) : zmk (zs0 n) 182 = .inl (.int, 12, .inl (fun _ => 0)) := rfl
theorem zc_183 (n : Int) : zmk (zs0 n) 183 = .inl (.int, 12, .inl (fun _ => 0)) := rfl
theorem zc_184 (n : Int) : zmk (zs0 n) 184 = .inl (.int, 5760, .inl (fun _ => 0)) := rfl
theorem zc_185 (n : Int) : zmk (zs0 n) 185 = .inl (.int, 5760, .inl (fun _ => 0)) := rfl
theorem zc_186 (n : Int) : zmk (zs0 n) 186 = .inl (.int, 5760, .inl (fun _ => 0)) := rfl
theorem zc_187 (n : Int) : zmk (zs0 n) 187 = .inl (.int, 18, .inl (fun _ => 0)) := rfl
theorem zc_188 (n : Int) : zmk (zs0 n) 188 = .inl (.boolean, 16, .inl (fun _ => 0)) := rfl
theorem zc_189 (n : Int) : zmk (zs0 n) 189 = .inl (.int, 64, .inl (fun _ => 0)) := rfl
theorem zc_190 (n : Int) : zmk (zs0 n) 190 = .inl (.int, 64, .inl (fun _ => 0)) := rfl
theorem zc_191 (n : Int) : zmk (zs0 n) 191 = .inl (.int, 64, .inl (fun _ => 0)) := rfl
theorem zc_192 (n : Int) : zmk (zs0 n) 192 = .inl (.int, 64, .inl (fun _ => 0)) := rfl
theorem zc_193 (n : Int) : zmk (zs0 n) 193 = .inl (.int, 64, .inl (fun _ => 0)) := rfl
theorem zc_194 (n : Int) : zmk (zs0 n) 194 = .inl (.long, 64, .inr (.inl (fun _ => 0))) := rfl
theorem zc_195 (n : Int) : zmk (zs0 n) 195 = .inl (.int, 64, .inl (fun _ => 0)) := rfl
theorem zc_196 (n : Int) : zmk (zs0 n) 196 = .inl (.long, 8, .inr (.inl (fun _ => 0))) := rfl
theorem zc_197 (n : Int) : zmk (zs0 n) 197 = .inl (.long, 8, .inr (.inl (fun _ => 0))) := rfl
theorem zc_198 (n : Int) : zmk (zs0 n) 198 = .inl (.long, 128, .inr (.inl (fun _ => 0))) := rfl
theorem zc_199 (n : Int) : zmk (zs0 n) 199 = .inl (.long, 128, .inr (.inl (fun _ => 0))) := rfl
theorem zc_200 (n : Int) : zmk (zs0 n) 200 = .inl (.int, 32, .inl (fun _ => 0)) := rfl
theorem zc_201 (n : Int) : zmk (zs0 n) 201 = .inl (.int, 32, .inl (fun _ => 0)) := rfl
theorem zc_202 (n : Int) : zmk (zs0 n) 202 = .inl (.int, 32, .inl (fun _ => 0)) := rfl
theorem zc_203 (n : Int) : zmk (zs0 n) 203 = .inl (.int, 32, .inl (fun _ => 0)) := rfl
theorem zc_204 (n : Int) : zmk (zs0 n) 204 = .inl (.int, 5, .inl (fun _ => 0)) := rfl
theorem zc_205 (n : Int) : zmk (zs0 n) 205 = .inl (.long, 1, .inr (.inl (fun _ => 0))) := rfl
theorem z_cons {α : Type} {a b : α} {l m : List α} (h : a = b) (g : l = m) : a :: l = b :: m := by rw [h, g]
def zH0 (n : Int) : am_H := [.inr (0, [.ref 1, .ref 8, .ref 10, .ref 17, .ref 25, .ref 28, .ref 165, .ref 173, .ref 174, .ref 175, .int 0, .int 0, .int (Int32.ofInt (-1)), .int 0, .int 0, .int 0, .ref 176, .int 0]), .inr (1, [.int (Int32.ofInt n), .ref 2, .ref 3, .ref 4, .int 0, .ref 5, .ref 6, .ref 7, .int 0]), .inl (.int, 4, .inl (fun j : Nat => (zs0 n).1 2 (j : Int))), .inl (.long, 8, .inr (.inl (fun _ => 0))), .inl (.int, 8, .inl (fun _ => 0)), .inl (.int, 1000, .inl (fun _ => 0)), .inl (.long, 1000, .inr (.inl (fun _ => 0))), .inl (.int, 12, .inl (fun _ => 0)), .inr (2, [.ref 9, .int 0, .int 0, .int 0, .int 0, .int 0, .long 0, .int 0]), .inl (.int, 600, .inl (fun _ => 0)), .inr (3, [.ref 8, .ref 1, .null, .int 0, .int 0, .int 0, .int 0, .int 0, .int 0, .ref 11, .ref 12, .ref 13, .ref 14, .ref 15, .ref 16, .int 0, .int 0]), .inl (.int, 20, .inl (fun _ => 0)), .inl (.int, 20, .inl (fun _ => 0)), .inl (.int, 20, .inl (fun _ => 0)), .inl (.int, 20, .inl (fun _ => 0)), .inl (.int, 20, .inl (fun _ => 0)), .inl (.long, 20, .inr (.inl (fun _ => 0))), .inr (4, [.ref 1, .ref 18, .ref 19, .int 0, .ref 20, .ref 21, .ref 22, .ref 23, .ref 24]), .inl (.long, 2750, .inr (.inl (fun _ => 0))), .inl (.int, 22, .inl (fun _ => 0)), .inl (.int, 20, .inl (fun _ => 0)), .inl (.long, 125, .inr (.inl (fun _ => 0))), .inl (.long, 10, .inr (.inl (fun _ => 0))), .inl (.long, 1000, .inr (.inl (fun _ => 0))), .inl (.long, 5000, .inr (.inl (fun _ => 0))), .inr (5, [.ref 1, .int 0, .int 0, .ref 26, .ref 27]), .inl (.int, 5, .inl (fun _ => 0)), .inl (.int, 1440, .inl (fun _ => 0)), .inl (.object "RelationFinder$Code", 17, .inr (.inr (.inr (.inr (fun j : Nat => if j < 17 then some ((zs0 n).2.2 28 (j : Int)) else none))))), .inr (6, [.int 0, .ref 30, .ref 31, .ref 32, .ref 33, .ref 34, .ref 35, .ref 36, .int 0]), .inl (.int, 200, .inl (fun _ => 0)), .inl (.int, 200, .inl (fun _ => 0)), .inl (.int, 200, .inl (fun _ => 0)), .inl (.int, 200, .inl (fun _ => 0)), .inl (.int, 200, .inl (fun _ => 0)), .inl (.int, 200, .inl (fun _ => 0)), .inl (.int, 200, .inl (fun _ => 0)), .inr (6, [.int 0, .ref 38, .ref 39, .ref 40, .ref 41, .ref 42, .ref 43, .ref 44, .int 0]), .inl (.int, 200, .inl (fun _ => 0)), .inl (.int, 200, .inl (fun _ => 0)), .inl (.int, 200, .inl (fun _ => 0)), .inl (.int, 200, .inl (fun _ => 0)), .inl (.int, 200, .inl (fun _ => 0)), .inl (.int, 200, .inl (fun _ => 0)), .inl (.int, 200, .inl (fun _ => 0)), .inr (6, [.int 0, .ref 46, .ref 47, .ref 48, .ref 49, .ref 50, .ref 51, .ref 52, .int 0]), .inl (.int, 200, .inl (fun _ => 0)), .inl (.int, 200, .inl (fun _ => 0)), .inl (.int, 200, .inl (fun _ => 0)), .inl (.int, 200, .inl (fun _ => 0)), .inl (.int, 200, .inl (fun _ => 0)), .inl (.int, 200, .inl (fun _ => 0)), .inl (.int, 200, .inl (fun _ => 0)), .inr (6, [.int 0, .ref 54, .ref 55, .ref 56, .ref 57, .ref 58, .ref 59, .ref 60, .int 0]), .inl (.int, 200, .inl (fun _ => 0)), .inl (.int, 200, .inl (fun _ => 0)), .inl (.int, 200, .inl (fun _ => 0)), .inl (.int, 200, .inl (fun _ => 0)), .inl (.int, 200, .inl (fun _ => 0)), .inl (.int, 200, .inl (fun _ => 0)), .inl (.int, 200, .inl (fun _ => 0)), .inr (6, [.int 0, .ref 62, .ref 63, .ref 64, .ref 65, .ref 66, .ref 67, .ref 68, .int 0]), .inl (.int, 200, .inl (fun _ => 0)), .inl (.int, 200, .inl (fun _ => 0)), .inl (.int, 200, .inl (fun _ => 0)), .inl (.int, 200, .inl (fun _ => 0)), .inl (.int, 200, .inl (fun _ => 0)), .inl (.int, 200, .inl (fun _ => 0)), .inl (.int, 200, .inl (fun _ => 0)), .inr (6, [.int 0, .ref 70, .ref 71, .ref 72, .ref 73, .ref 74, .ref 75, .ref 76, .int 0]), .inl (.int, 200, .inl (fun _ => 0)), .inl (.int, 200, .inl (fun _ => 0)), .inl (.int, 200, .inl (fun _ => 0)), .inl (.int, 200, .inl (fun _ => 0)), .inl (.int, 200, .inl (fun _ => 0)), .inl (.int, 200, .inl (fun _ => 0)), .inl (.int, 200, .inl (fun _ => 0)), .inr (6, [.int 0, .ref 78, .ref 79, .ref 80, .ref 81, .ref 82, .ref 83, .ref 84, .int 0]), .inl (.int, 200, .inl (fun _ => 0)), .inl (.int, 200, .inl (fun _ => 0)), .inl (.int, 200, .inl (fun _ => 0)), .inl (.int, 200, .inl (fun _ => 0)), .inl (.int, 200, .inl (fun _ => 0)), .inl (.int, 200, .inl (fun _ => 0)), .inl (.int, 200, .inl (fun _ => 0)), .inr (6, [.int 0, .ref 86, .ref 87, .ref 88, .ref 89, .ref 90, .ref 91, .ref 92, .int 0]), .inl (.int, 200, .inl (fun _ => 0)), .inl (.int, 200, .inl (fun _ => 0)), .inl (.int, 200, .inl (fun _ => 0)), .inl (.int, 200, .inl (fun _ => 0)), .inl (.int, 200, .inl (fun _ => 0)), .inl (.int, 200, .inl (fun _ => 0)), .inl (.int, 200, .inl (fun _ => 0)), .inr (6, [.int 0, .ref 94, .ref 95, .ref 96, .ref 97, .ref 98, .ref 99, .ref 100, .int 0]), .inl (.int, 200, .inl (fun _ => 0)), .inl (.int, 200, .inl (fun _ => 0)), .inl (.int, 200, .inl (fun _ => 0)), .inl (.int, 200, .inl (fun _ => 0)), .inl (.int, 200, .inl (fun _ => 0)), .inl (.int, 200, .inl (fun _ => 0)), .inl (.int, 200, .inl (fun _ => 0)), .inr (6, [.int 0, .ref 102, .ref 103, .ref 104, .ref 105, .ref 106, .ref 107, .ref 108, .int 0]), .inl (.int, 200, .inl (fun _ => 0)), .inl (.int, 200, .inl (fun _ => 0)), .inl (.int, 200, .inl (fun _ => 0)), .inl (.int, 200, .inl (fun _ => 0)), .inl (.int, 200, .inl (fun _ => 0)), .inl (.int, 200, .inl (fun _ => 0)), .inl (.int, 200, .inl (fun _ => 0)), .inr (6, [.int 0, .ref 110, .ref 111, .ref 112, .ref 113, .ref 114, .ref 115, .ref 116, .int 0]), .inl (.int, 200, .inl (fun _ => 0)), .inl (.int, 200, .inl (fun _ => 0)), .inl (.int, 200, .inl (fun _ => 0)), .inl (.int, 200, .inl (fun _ => 0)), .inl (.int, 200, .inl (fun _ => 0)), .inl (.int, 200, .inl (fun _ => 0)), .inl (.int, 200, .inl (fun _ => 0)), .inr (6, [.int 0, .ref 118, .ref 119, .ref 120, .ref 121, .ref 122, .ref 123, .ref 124, .int 0]), .inl (.int, 200, .inl (fun _ => 0)), .inl (.int, 200, .inl (fun _ => 0)), .inl (.int, 200, .inl (fun _ => 0)), .inl (.int, 200, .inl (fun _ => 0)), .inl (.int, 200, .inl (fun _ => 0)), .inl (.int, 200, .inl (fun _ => 0)), .inl (.int, 200, .inl (fun _ => 0)), .inr (6, [.int 0, .ref 126, .ref 127, .ref 128, .ref 129, .ref 130, .ref 131, .ref 132, .int 0]), .inl (.int, 200, .inl (fun _ => 0)), .inl (.int, 200, .inl (fun _ => 0)), .inl (.int, 200, .inl (fun _ => 0)), .inl (.int, 200, .inl (fun _ => 0)), .inl (.int, 200, .inl (fun _ => 0)), .inl (.int, 200, .inl (fun _ => 0)), .inl (.int, 200, .inl (fun _ => 0)), .inr (6, [.int 0, .ref 134, .ref 135, .ref 136, .ref 137, .ref 138, .ref 139, .ref 140, .int 0]), .inl (.int, 200, .inl (fun _ => 0)), .inl (.int, 200, .inl (fun _ => 0)), .inl (.int, 200, .inl (fun _ => 0)), .inl (.int, 200, .inl (fun _ => 0)), .inl (.int, 200, .inl (fun _ => 0)), .inl (.int, 200, .inl (fun _ => 0)), .inl (.int, 200, .inl (fun _ => 0)), .inr (6, [.int 0, .ref 142, .ref 143, .ref 144, .ref 145, .ref 146, .ref 147, .ref 148, .int 0]), .inl (.int, 200, .inl (fun _ => 0)), .inl (.int, 200, .inl (fun _ => 0)), .inl (.int, 200, .inl (fun _ => 0)), .inl (.int, 200, .inl (fun _ => 0)), .inl (.int, 200, .inl (fun _ => 0)), .inl (.int, 200, .inl (fun _ => 0)), .inl (.int, 200, .inl (fun _ => 0)), .inr (6, [.int 0, .ref 150, .ref 151, .ref 152, .ref 153, .ref 154, .ref 155, .ref 156, .int 0]), .inl (.int, 200, .inl (fun _ => 0)), .inl (.int, 200, .inl (fun _ => 0)), .inl (.int, 200, .inl (fun _ => 0)), .inl (.int, 200, .inl (fun _ => 0)), .inl (.int, 200, .inl (fun _ => 0)), .inl (.int, 200, .inl (fun _ => 0)), .inl (.int, 200, .inl (fun _ => 0)), .inr (6, [.int 0, .ref 158, .ref 159, .ref 160, .ref 161, .ref 162, .ref 163, .ref 164, .int 0]), .inl (.int, 200, .inl (fun _ => 0)), .inl (.int, 200, .inl (fun _ => 0)), .inl (.int, 200, .inl (fun _ => 0)), .inl (.int, 200, .inl (fun _ => 0)), .inl (.int, 200, .inl (fun _ => 0)), .inl (.int, 200, .inl (fun _ => 0)), .inl (.int, 200, .inl (fun _ => 0)), .inr (6, [.int 0, .ref 166, .ref 167, .ref 168, .ref 169, .ref 170, .ref 171, .ref 172, .int 0]), .inl (.int, 200, .inl (fun _ => 0)), .inl (.int, 200, .inl (fun _ => 0)), .inl (.int, 200, .inl (fun _ => 0)), .inl (.int, 200, .inl (fun _ => 0)), .inl (.int, 200, .inl (fun _ => 0)), .inl (.int, 200, .inl (fun _ => 0)), .inl (.int, 200, .inl (fun _ => 0)), .inl (.long, 1088, .inr (.inl (fun _ => 0))), .inl (.long, 17, .inr (.inl (fun _ => 0))), .inl (.long, 64, .inr (.inl (fun _ => 0))), .inl (.boolean, 125, .inl (fun _ => 0)), .inr (7, [.int 0, .int (Int32.ofInt n), .ref 178, .int 0, .int 0, .int (Int32.ofInt (-1)), .int 0, .ref 179, .ref 180, .ref 181, .int 0, .ref 182, .ref 183, .int 0, .ref 184, .ref 185, .ref 186, .ref 187, .int 0, .int 0, .ref 188, .int 0, .int 0, .long 0, .long 0, .int 0, .int 0, .int 0, .int 0, .long 0, .int 0, .int 0, .ref 189, .ref 190, .ref 191, .ref 192, .ref 193, .ref 194, .int 0, .ref 195, .int 0, .int 0, .ref 196, .ref 197, .ref 198, .ref 199, .int 0, .long 0, .long 0, .ref 200, .ref 201, .ref 202, .ref 203, .int 0, .ref 204]), .inl (.int, 600, .inl (fun _ => 0)), .inl (.long, 8, .inr (.inl (fun _ => 0))), .inl (.int, 8, .inl (fun _ => 0)), .inl (.int, 1000, .inl (fun _ => 0)), .inl (.int, 12, .inl (fun _ => 0)), .inl (.int, 12, .inl (fun _ => 0)), .inl (.int, 5760, .inl (fun _ => 0)), .inl (.int, 5760, .inl (fun _ => 0)), .inl (.int, 5760, .inl (fun _ => 0)), .inl (.int, 18, .inl (fun _ => 0)), .inl (.boolean, 16, .inl (fun _ => 0)), .inl (.int, 64, .inl (fun _ => 0)), .inl (.int, 64, .inl (fun _ => 0)), .inl (.int, 64, .inl (fun _ => 0)), .inl (.int, 64, .inl (fun _ => 0)), .inl (.int, 64, .inl (fun _ => 0)), .inl (.long, 64, .inr (.inl (fun _ => 0))), .inl (.int, 64, .inl (fun _ => 0)), .inl (.long, 8, .inr (.inl (fun _ => 0))), .inl (.long, 8, .inr (.inl (fun _ => 0))), .inl (.long, 128, .inr (.inl (fun _ => 0))), .inl (.long, 128, .inr (.inl (fun _ => 0))), .inl (.int, 32, .inl (fun _ => 0)), .inl (.int, 32, .inl (fun _ => 0)), .inl (.int, 32, .inl (fun _ => 0)), .inl (.int, 32, .inl (fun _ => 0)), .inl (.int, 5, .inl (fun _ => 0)), .inl (.long, 1, .inr (.inl (fun _ => 0)))]
theorem z_range : List.range 206 = [0, 1, 2, 3, 4, 5, 6, 7, 8, 9, 10, 11, 12, 13, 14, 15, 16, 17, 18, 19, 20, 21, 22, 23, 24, 25, 26, 27, 28, 29, 30, 31, 32, 33, 34, 35, 36, 37, 38, 39, 40, 41, 42, 43, 44, 45, 46, 47, 48, 49, 50, 51, 52, 53, 54, 55, 56, 57, 58, 59, 60, 61, 62, 63, 64, 65, 66, 67, 68, 69, 70, 71, 72, 73, 74, 75, 76, 77, 78, 79, 80, 81, 82, 83, 84, 85, 86, 87, 88, 89, 90, 91, 92, 93, 94, 95, 96, 97, 98, 99, 100, 101, 102, 103, 104, 105, 106, 107, 108, 109, 110, 111, 112, 113, 114, 115, 116, 117, 118, 119, 120, 121, 122, 123, 124, 125, 126, 127, 128, 129, 130, 131, 132, 133, 134, 135, 136, 137, 138, 139, 140, 141, 142, 143, 144, 145, 146, 147, 148, 149, 150, 151, 152, 153, 154, 155, 156, 157, 158, 159, 160, 161, 162, 163, 164, 165, 166, 167, 168, 169, 170, 171, 172, 173, 174, 175, 176, 177, 178, 179, 180, 181, 182, 183, 184, 185, 186, 187, 188, 189, 190, 191, 192, 193, 194, 195, 196, 197, 198, 199, 200, 201, 202, 203, 204, 205] := by decide +kernel
set_option maxRecDepth 20000 in
theorem zH0_hp (n : Int) : hp (zs0 n) = zH0 n := by
  unfold hp
  rw [z_range]
  simp only [List.map_cons, List.map_nil]
  exact (z_cons (zc_0 n) (z_cons (zc_1 n) (z_cons (zc_2 n) (z_cons (zc_3 n) (z_cons (zc_4 n) (z_cons (zc_5 n) (z_cons (zc_6 n) (z_cons (zc_7 n) (z_cons (zc_8 n) (z_cons (zc_9 n) (z_cons (zc_10 n) (z_cons (zc_11 n) (z_cons (zc_12 n) (z_cons (zc_13 n) (z_cons (zc_14 n) (z_cons (zc_15 n) (z_cons (zc_16 n) (z_cons (zc_17 n) (z_cons (zc_18 n) (z_cons (zc_19 n) (z_cons (zc_20 n) (z_cons (zc_21 n) (z_cons (zc_22 n) (z_cons (zc_23 n) (z_cons (zc_24 n) (z_cons (zc_25 n) (z_cons (zc_26 n) (z_cons (zc_27 n) (z_cons (zc_28 n) (z_cons (zc_29 n) (z_cons (zc_30 n) (z_cons (zc_31 n) (z_cons (zc_32 n) (z_cons (zc_33 n) (z_cons (zc_34 n) (z_cons (zc_35 n) (z_cons (zc_36 n) (z_cons (zc_37 n) (z_cons (zc_38 n) (z_cons (zc_39 n) (z_cons (zc_40 n) (z_cons (zc_41 n) (z_cons (zc_42 n) (z_cons (zc_43 n) (z_cons (zc_44 n) (z_cons (zc_45 n) (z_cons (zc_46 n) (z_cons (zc_47 n) (z_cons (zc_48 n) (z_cons (zc_49 n) (z_cons (zc_50 n) (z_cons (zc_51 n) (z_cons (zc_52 n) (z_cons (zc_53 n) (z_cons (zc_54 n) (z_cons (zc_55 n) (z_cons (zc_56 n) (z_cons (zc_57 n) (z_cons (zc_58 n) (z_cons (zc_59 n) (z_cons (zc_60 n) (z_cons (zc_61 n) (z_cons (zc_62 n) (z_cons (zc_63 n) (z_cons (zc_64 n) (z_cons (zc_65 n) (z_cons (zc_66 n) (z_cons (zc_67 n) (z_cons (zc_68 n) (z_cons (zc_69 n) (z_cons (zc_70 n) (z_cons (zc_71 n) (z_cons (zc_72 n) (z_cons (zc_73 n) (z_cons (zc_74 n) (z_cons (zc_75 n) (z_cons (zc_76 n) (z_cons (zc_77 n) (z_cons (zc_78 n) (z_cons (zc_79 n) (z_cons (zc_80 n) (z_cons (zc_81 n) (z_cons (zc_82 n) (z_cons (zc_83 n) (z_cons (zc_84 n) (z_cons (zc_85 n) (z_cons (zc_86 n) (z_cons (zc_87 n) (z_cons (zc_88 n) (z_cons (zc_89 n) (z_cons (zc_90 n) (z_cons (zc_91 n) (z_cons (zc_92 n) (z_cons (zc_93 n) (z_cons (zc_94 n) (z_cons (zc_95 n) (z_cons (zc_96 n) (z_cons (zc_97 n) (z_cons (zc_98 n) (z_cons (zc_99 n) (z_cons (zc_100 n) (z_cons (zc_101 n) (z_cons (zc_102 n) (z_cons (zc_103 n) (z_cons (zc_104 n) (z_cons (zc_105 n) (z_cons (zc_106 n) (z_cons (zc_107 n) (z_cons (zc_108 n) (z_cons (zc_109 n) (z_cons (zc_110 n) (z_cons (zc_111 n) (z_cons (zc_112 n) (z_cons (zc_113 n) (z_cons (zc_114 n) (z_cons (zc_115 n) (z_cons (zc_116 n) (z_cons (zc_117 n) (z_cons (zc_118 n) (z_cons (zc_119 n) (z_cons (zc_120 n) (z_cons (zc_121 n) (z_cons (zc_122 n) (z_cons (zc_123 n) (z_cons (zc_124 n) (z_cons (zc_125 n) (z_cons (zc_126 n) (z_cons (zc_127 n) (z_cons (zc_128 n) (z_cons (zc_129 n) (z_cons (zc_130 n) (z_cons (zc_131 n) (z_cons (zc_132 n) (z_cons (zc_133 n) (z_cons (zc_134 n) (z_cons (zc_135 n) (z_cons (zc_136 n) (z_cons (zc_137 n) (z_cons (zc_138 n) (z_cons (zc_139 n) (z_cons (zc_140 n) (z_cons (zc_141 n) (z_cons (zc_142 n) (z_cons (zc_143 n) (z_cons (zc_144 n) (z_cons (zc_145 n) (z_cons (zc_146 n) (z_cons (zc_147 n) (z_cons (zc_148 n) (z_cons (zc_149 n) (z_cons (zc_150 n) (z_cons (zc_151 n) (z_cons (zc_152 n) (z_cons (zc_153 n) (z_cons (zc_154 n) (z_cons (zc_155 n) (z_cons (zc_156 n) (z_cons (zc_157 n) (z_cons (zc_158 n) (z_cons (zc_159 n) (z_cons (zc_160 n) (z_cons (zc_161 n) (z_cons (zc_162 n) (z_cons (zc_163 n) (z_cons (zc_164 n) (z_cons (zc_165 n) (z_cons (zc_166 n) (z_cons (zc_167 n) (z_cons (zc_168 n) (z_cons (zc_169 n) (z_cons (zc_170 n) (z_cons (zc_171 n) (z_cons (zc_172 n) (z_cons (zc_173 n) (z_cons (zc_174 n) (z_cons (zc_175 n) (z_cons (zc_176 n) (z_cons (zc_177 n) (z_cons (zc_178 n) (z_cons (zc_179 n) (z_cons (zc_180 n) (z_cons (zc_181 n) (z_cons (zc_182 n) (z_cons (zc_183 n) (z_cons (zc_184 n) (z_cons (zc_185 n) (z_cons (zc_186 n) (z_cons (zc_187 n) (z_cons (zc_188 n) (z_cons (zc_189 n) (z_cons (zc_190 n) (z_cons (zc_191 n) (z_cons (zc_192 n) (z_cons (zc_193 n) (z_cons (zc_194 n) (z_cons (zc_195 n) (z_cons (zc_196 n) (z_cons (zc_197 n) (z_cons (zc_198 n) (z_cons (zc_199 n) (z_cons (zc_200 n) (z_cons (zc_201 n) (z_cons (zc_202 n) (z_cons (zc_203 n) (z_cons (zc_204 n) (z_cons (zc_205 n) rfl))))))))))))))))))))))))))))))))))))))))))))))))))))))))))))))))))))))))))))))))))))))))))))))))))))))))))))))))))))))))))))))))))))))))))))))))))))))))))))))))))))))))))))))))))))))))))))))))))))))))))))))
set_option maxHeartbeats 4000000 in
set_option maxRecDepth 20000 in
theorem zs0_eq (n : Int) : (zRF n ++ cD_C 177 n) ++ [.inl (.long, 1, .inr (.inl (fun _ => 0)))] = hp (zs0 n) := by
  have e1 : zfi 17 = fun j : Nat => if j < 17 then some ((zs0 n).2.2 28 (j : Int)) else none := by
    rw [zfi_eq]
    funext j
    show _ = (if j < 17 then some (29 + 8 * ((j : Int)).toNat) else none)
    rw [Int.toNat_natCast]
  have e2 : (upd (upd (upd (upd (fun _ => 0) 0 (Int32.ofInt 1)) 1 (Int32.ofInt (1 * n))) 2 (Int32.ofInt (1 * n * n))) 3 (Int32.ofInt (1 * n * n * n))) = fun j : Nat => (zs0 n).1 2 (j : Int) := by
    funext j
    show _ = (if (j : Int) = 3 then Int32.ofInt (1 * n * n * n) else if (j : Int) = 2 then Int32.ofInt (1 * n * n) else if (j : Int) = 1 then Int32.ofInt (1 * n) else if (j : Int) = 0 then Int32.ofInt 1 else 0)
    unfold upd
    repeat' split
    all_goals first | rfl | (exfalso; omega)
  rw [zH0_hp]
  unfold zRF zA
  rw [e1, e2]
  rfl
set_option maxHeartbeats 4000000 in
theorem cL {k : zK} {d : Nat} {r : am_A × am_H} (hL : k.2.1 ≤ 5760) (hd : 4 ≤ d) (g : zgo k d 0 (33, [(0, .ref (am_big + 0)), (1, .ref 0), (2, .ref 177), (3, .ref 205), (4, .int (Int32.ofInt 1))], []) (hp (zs0 (zclamp (zx0 k))) ++ []) r) : zgo k d 0 (0, [(0, .ref (am_big + 0))], []) [] r := by
  have hM := xM_0 k.1
  rw [List.append_nil, ← zs0_eq] at g
  refine rr_new 3 0 hM rfl rfl rfl rfl (by decide) ?_
  refine g_dup 4 hM rfl rfl rfl ?_
  refine g_aload_n 5 hM rfl rfl rfl ?_
  refine g_iconst 6 hM rfl rfl ?_
  refine g_call 9 _ [.int (Int32.ofInt (zx0 k)), .ref 0, .ref 0] hM rfl rfl rfl rfl rfl (xM_1 _) rfl rfl rfl rfl (by omega) (w_1 hL) rfl ?_
  refine g_call 12 _ [.ref 0] hM rfl rfl rfl rfl rfl (xM_14 _) rfl rfl rfl rfl (by omega) (cF (zx0_R k) (by omega)) rfl ?_
  refine g_astore_n 13 hM rfl rfl rfl ?_
  refine rr_new 16 177 hM rfl rfl rfl (zRF_len _) (by decide) ?_
  refine g_dup 17 hM rfl rfl rfl ?_
  refine g_aload_n 18 hM rfl rfl rfl ?_
  refine g_iconst 19 hM rfl rfl ?_
  refine g_call 22 _ [.int (Int32.ofInt (zx0 k)), .ref 177, .ref 177] hM rfl rfl rfl rfl rfl (xM_1 _) rfl rfl rfl rfl (by omega) (w_1 hL) rfl ?_
  refine g_call 25 _ [.ref 177] hM rfl rfl rfl rfl rfl (xM_141 _) rfl rfl rfl rfl (by omega) (cD (b := 177) (zx0_R k) (by omega) (zRF_len _) (by decide)) rfl ?_
  refine g_astore_n 26 hM rfl rfl rfl ?_
  refine g_iconst 27 hM rfl rfl ?_
  refine rr_newa 29 205 hM rfl rfl ⟨by decide, by decide⟩ rfl rfl rfl (by rw [List.length_append, zRF_len]; rfl) (by decide) ?_
  refine g_astore_n 30 hM rfl rfl rfl ?_
  refine g_iconst 31 hM rfl rfl ?_
  refine g_istore 33 hM rfl rfl rfl ?_
  exact g_lv [(0, .ref (am_big + 0)), (1, .ref 0), (2, .ref 177), (3, .ref 205), (4, .int (Int32.ofInt 1))] rfl ⟨rfl, rfl, rfl, rfl, rfl, trivial⟩ g
