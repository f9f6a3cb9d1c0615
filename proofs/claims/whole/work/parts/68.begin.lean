/-! THE PURE LAYER: the object itself, the law's beginning, the heap at the law's loop. By program. -/
/-- the Codes that were made so far, and where they lie -/
def zfi : Nat → Nat → Option Nat
  | 0 => fun _ => none
  | i + 1 => va_up (zfi i) i (some (29 + 8 * i))
theorem zfi_eq : ∀ i : Nat, zfi i = fun j => if j < i then some (29 + 8 * j) else none
  | 0 => by
    funext j
    rw [if_neg (by omega)]
    rfl
  | i + 1 => by
    funext j
    show va_up (zfi i) i (some (29 + 8 * i)) j = _
    rw [zfi_eq i]
    unfold va_up
    by_cases h1 : j = i
    · rw [if_pos h1, if_pos (by omega), h1]
    · rw [if_neg h1]
      by_cases h2 : j < i
      · rw [if_pos h2, if_pos (by omega)]
      · rw [if_neg h2, if_neg (by omega)]
def zcds : Nat → am_H
  | 0 => []
  | i + 1 => zcds i ++ cC_C (29 + 8 * i)
theorem zcds_len : ∀ i : Nat, (zcds i).length = 8 * i
  | 0 => rfl
  | i + 1 => by
    rw [zcds, List.length_append, zcds_len i]
    show 8 * i + 8 = _
    omega
def zA (fs : List Value) (n : Int) (i : Nat) : am_H := .inr (0, fs) :: [.inr (1, [.int (Int32.ofInt n), .ref 2, .ref 3, .ref 4, .int 0, .ref 5, .ref 6, .ref 7, .int 0]), .inl (.int, 4, .inl (upd (upd (upd (upd (fun _ => 0) 0 (Int32.ofInt 1)) 1 (Int32.ofInt (1 * n))) 2 (Int32.ofInt ((1 * n) * n))) 3 (Int32.ofInt (((1 * n) * n) * n)))), .inl (.long, 8, .inr (.inl (fun _ => 0))), .inl (.int, 8, .inl (fun _ => 0)), .inl (.int, 1000, .inl (fun _ => 0)), .inl (.long, 1000, .inr (.inl (fun _ => 0))), .inl (.int, 12, .inl (fun _ => 0)), .inr (2, [.ref 9, .int 0, .int 0, .int 0, .int 0, .int 0, .long 0, .int 0]), .inl (.int, 600, .inl (fun _ => 0)), .inr (3, [.ref 8, .ref 1, .null, .int 0, .int 0, .int 0, .int 0, .int 0, .int 0, .ref 11, .ref 12, .ref 13, .ref 14, .ref 15, .ref 16, .int 0, .int 0]), .inl (.int, 20, .inl (fun _ => 0)), .inl (.int, 20, .inl (fun _ => 0)), .inl (.int, 20, .inl (fun _ => 0)), .inl (.int, 20, .inl (fun _ => 0)), .inl (.int, 20, .inl (fun _ => 0)), .inl (.long, 20, .inr (.inl (fun _ => 0))), .inr (4, [.ref 1, .ref 18, .ref 19, .int 0, .ref 20, .ref 21, .ref 22, .ref 23, .ref 24]), .inl (.long, 2750, .inr (.inl (fun _ => 0))), .inl (.int, 22, .inl (fun _ => 0)), .inl (.int, 20, .inl (fun _ => 0)), .inl (.long, 125, .inr (.inl (fun _ => 0))), .inl (.long, 10, .inr (.inl (fun _ => 0))), .inl (.long, 1000, .inr (.inl (fun _ => 0))), .inl (.long, 5000, .inr (.inl (fun _ => 0))), .inr (5, [.ref 1, .int 0, .int 0, .ref 26, .ref 27]), .inl (.int, 5, .inl (fun _ => 0)), .inl (.int, 1440, .inl (fun _ => 0)), .inl (.object "RelationFinder$Code", 17, .inr (.inr (.inr (.inr (zfi i)))))]
theorem zA_len (fs : List Value) (n : Int) (i : Nat) : (zA fs n i ++ zcds i).length = 29 + 8 * i := by
  rw [List.length_append, zcds_len]
  rfl
theorem zclamp_eq (a : Int) : zmax 1 (zmin 5 a) = zclamp a := by
  unfold zmax zmin zclamp
  by_cases h1 : a < 1
  · rw [if_pos h1, if_pos (show a < 5 by omega), if_neg (by omega)]
  · rw [if_neg h1]
    by_cases h2 : 5 < a
    · rw [if_pos h2, if_neg (show ¬ a < 5 by omega)]
      rfl
    · rw [if_neg h2]
      by_cases h3 : a < 5
      · rw [if_pos h3]
        by_cases h4 : 1 < a
        · rw [if_pos h4]
        · rw [if_neg h4]; omega
      · rw [if_neg h3]
        have : a = 5 := by omega
        rw [this]
        rfl
theorem cF_loop {k : zK} {d : Nat} {n : Int} {fs : List Value} {r : am_A × am_H} (hd : 2 ≤ d) (hfs : fs[5]? = some (.ref 28)) : ∀ m i : Nat, i + m = 17 → zgo k d 14 (123, [(0, .ref 0)], []) (zA fs n 17 ++ zcds 17) r → zgo k d 14 (95, [(0, .ref 0), (2, .int (Int32.ofInt (i : Int)))], []) (zA fs n i ++ zcds i) r := by
  have hM := xM_14 k.1
  intro m
  induction m with
  | zero =>
    intro i hi g
    have e : i = 17 := by omega
    subst e
    refine g_iload_n 96 hM rfl rfl rfl ?_
    refine g_aload_n 97 hM rfl rfl rfl ?_
    refine rr_get 100 (.ref 28) hM rfl rfl rfl rfl hfs ?_
    refine rr_alen 101 17 hM rfl rfl rfl rfl ?_
    refine g_ic_ge_t 123 hM rfl rfl (zR_lit rfl) (zR_lit rfl) (by decide) ?_
    exact g_lv [(0, .ref 0)] rfl ⟨rfl, trivial⟩ g
  | succ m ih =>
    intro i hi g
    have hr : zR (i : Int) := ⟨by omega, by omega⟩
    refine g_iload_n 96 hM rfl rfl rfl ?_
    refine g_aload_n 97 hM rfl rfl rfl ?_
    refine rr_get 100 (.ref 28) hM rfl rfl rfl rfl hfs ?_
    refine rr_alen 101 17 hM rfl rfl rfl rfl ?_
    refine g_ic_ge_f 104 123 hM rfl rfl rfl hr (zR_lit rfl) (show (i : Int) < ((17 : Nat) : Int) by omega) ?_
    refine g_aload_n 105 hM rfl rfl rfl ?_
    refine rr_get 108 (.ref 28) hM rfl rfl rfl rfl hfs ?_
    refine g_iload_n 109 hM rfl rfl rfl ?_
    refine rr_new 112 (29 + 8 * i) hM rfl rfl rfl (zA_len fs n i) (by omega) ?_
    refine g_dup 113 hM rfl rfl rfl ?_
    refine g_call 116 _ [.ref (29 + 8 * i), .int (Int32.ofInt (i : Int)), .ref 28] hM rfl rfl rfl rfl rfl (xM_137 _) rfl rfl rfl rfl (by omega) (cC (h := zA fs n i ++ zcds i) (b := 29 + 8 * i) (by omega) (zA_len fs n i) (by omega)) rfl ?_
    refine rr_aast 117 (n := 17) (f := zfi i) (C := "RelationFinder$Code") (fs := [.int 0, .ref (29 + 8 * i + 1), .ref (29 + 8 * i + 2), .ref (29 + 8 * i + 3), .ref (29 + 8 * i + 4), .ref (29 + 8 * i + 5), .ref (29 + 8 * i + 6), .ref (29 + 8 * i + 7), .int 0]) (ci := 6) hM rfl rfl rfl (q_at (j := 0) (zA_len fs n i) (by omega) rfl rfl) rfl rfl rfl (by omega) (by decide) ?_
    refine g_iinc 120 hM rfl rfl rfl rfl ?_
    refine g_goto 95 hM rfl rfl ?_
    refine g_lv [(0, .ref 0), (2, .int (Int32.ofInt ((i : Int) + 1)))] rfl ⟨rfl, rfl, trivial⟩ ?_
    have g2 := ih (i + 1) (by omega) g
    have e2 : ((i + 1 : Nat) : Int) = (i : Int) + 1 := by omega
    rw [e2] at g2
    have e3 : ((zA fs n i ++ zcds i) ++ cC_C (29 + 8 * i)).set 28 (.inl (.object "RelationFinder$Code", 17, .inr (.inr (.inr (.inr (va_up (zfi i) ((i : Int)).toNat (some (29 + 8 * i)))))))) = zA fs n (i + 1) ++ zcds (i + 1) := by
      rw [Int.toNat_natCast, zcds, ← List.append_assoc]
      rfl
    rw [e3]
    exact g2
def zRF (n : Int) : am_H := (zA [.ref 1, .ref 8, .ref 10, .ref 17, .ref 25, .ref 28, .ref 165, .ref 173, .ref 174, .ref 175, .int 0, .int 0, .int (Int32.ofInt (-1)), .int 0, .int 0, .int 0, .ref 176, .int 0] n 17 ++ zcds 17) ++ [.inr (6, [.int 0, .ref 166, .ref 167, .ref 168, .ref 169, .ref 170, .ref 171, .ref 172, .int 0]), .inl (.int, 200, .inl (fun _ => 0)), .inl (.int, 200, .inl (fun _ => 0)), .inl (.int, 200, .inl (fun _ => 0)), .inl (.int, 200, .inl (fun _ => 0)), .inl (.int, 200, .inl (fun _ => 0)), .inl (.int, 200, .inl (fun _ => 0)), .inl (.int, 200, .inl (fun _ => 0)), .inl (.long, 1088, .inr (.inl (fun _ => 0))), .inl (.long, 17, .inr (.inl (fun _ => 0))), .inl (.long, 64, .inr (.inl (fun _ => 0))), .inl (.boolean, 125, .inl (fun _ => 0))]
set_option maxHeartbeats 4000000 in
theorem cF2 {k : zK} {d : Nat} {n : Int} {lv : List (Nat × Value)} (hd : 2 ≤ d) : zgo k d 14 (123, [(0, .ref 0)], []) (zA [.ref 1, .ref 8, .ref 10, .ref 17, .ref 25, .ref 28, .null, .null, .null, .null, .int 0, .int 0, .int 0, .int 0, .int 0, .int 0, .null, .int 0] n 17 ++ zcds 17) (.inl none, zRF n) := by
  have hM := xM_14 k.1
  refine g_aload_n 124 hM rfl rfl rfl ?_
  rw [← List.append_nil (zA [.ref 1, .ref 8, .ref 10, .ref 17, .ref 25, .ref 28, .null, .null, .null, .null, .int 0, .int 0, .int 0, .int 0, .int 0, .int 0, .null, .int 0] n 17 ++ zcds 17)]
  refine r_new 127 165 0 [.inr (6, [.int 0, .null, .null, .null, .null, .null, .null, .null, .int 0])] hM rfl rfl rfl (zA_len _ n 17) (by decide) rfl rfl rfl rfl ?_
  refine g_dup 128 hM rfl rfl rfl ?_
  refine r_call 131 _ [.ref 165, .ref 0] [] (cC_C 165) [.inr (6, [.int 0, .ref 166, .ref 167, .ref 168, .ref 169, .ref 170, .ref 171, .ref 172, .int 0]), .inl (.int, 200, .inl (fun _ => 0)), .inl (.int, 200, .inl (fun _ => 0)), .inl (.int, 200, .inl (fun _ => 0)), .inl (.int, 200, .inl (fun _ => 0)), .inl (.int, 200, .inl (fun _ => 0)), .inl (.int, 200, .inl (fun _ => 0)), .inl (.int, 200, .inl (fun _ => 0))] hM rfl rfl rfl rfl (xM_137 _) rfl (fun _ => rfl) rfl rfl (by omega) rfl rfl rfl (cC (by omega) (zA_len _ n 17) (by decide)) ?_
  refine rr_put 134 hM rfl rfl rfl rfl rfl rfl ?_
  show zgo k d 14 (134, _, []) ((zA [.ref 1, .ref 8, .ref 10, .ref 17, .ref 25, .ref 28, .ref 165, .null, .null, .null, .int 0, .int 0, .int 0, .int 0, .int 0, .int 0, .null, .int 0] n 17 ++ zcds 17) ++ [.inr (6, [.int 0, .ref 166, .ref 167, .ref 168, .ref 169, .ref 170, .ref 171, .ref 172, .int 0]), .inl (.int, 200, .inl (fun _ => 0)), .inl (.int, 200, .inl (fun _ => 0)), .inl (.int, 200, .inl (fun _ => 0)), .inl (.int, 200, .inl (fun _ => 0)), .inl (.int, 200, .inl (fun _ => 0)), .inl (.int, 200, .inl (fun _ => 0)), .inl (.int, 200, .inl (fun _ => 0))]) _
  refine g_aload_n 135 hM rfl rfl rfl ?_
  refine g_sipush 138 hM rfl rfl rfl ?_
  refine r_newa 140 173 8 [.inr (6, [.int 0, .ref 166, .ref 167, .ref 168, .ref 169, .ref 170, .ref 171, .ref 172, .int 0]), .inl (.int, 200, .inl (fun _ => 0)), .inl (.int, 200, .inl (fun _ => 0)), .inl (.int, 200, .inl (fun _ => 0)), .inl (.int, 200, .inl (fun _ => 0)), .inl (.int, 200, .inl (fun _ => 0)), .inl (.int, 200, .inl (fun _ => 0)), .inl (.int, 200, .inl (fun _ => 0)), .inl (.long, 1088, .inr (.inl (fun _ => 0)))] hM rfl rfl rfl rfl rfl rfl (zA_len _ n 17) (by decide) rfl rfl rfl rfl ?_
  refine rr_put 143 hM rfl rfl rfl rfl rfl rfl ?_
  show zgo k d 14 (143, _, []) ((zA [.ref 1, .ref 8, .ref 10, .ref 17, .ref 25, .ref 28, .ref 165, .ref 173, .null, .null, .int 0, .int 0, .int 0, .int 0, .int 0, .int 0, .null, .int 0] n 17 ++ zcds 17) ++ [.inr (6, [.int 0, .ref 166, .ref 167, .ref 168, .ref 169, .ref 170, .ref 171, .ref 172, .int 0]), .inl (.int, 200, .inl (fun _ => 0)), .inl (.int, 200, .inl (fun _ => 0)), .inl (.int, 200, .inl (fun _ => 0)), .inl (.int, 200, .inl (fun _ => 0)), .inl (.int, 200, .inl (fun _ => 0)), .inl (.int, 200, .inl (fun _ => 0)), .inl (.int, 200, .inl (fun _ => 0)), .inl (.long, 1088, .inr (.inl (fun _ => 0)))]) _
  refine g_aload_n 144 hM rfl rfl rfl ?_
  refine g_bipush 146 hM rfl rfl rfl ?_
  refine r_newa 148 174 9 [.inr (6, [.int 0, .ref 166, .ref 167, .ref 168, .ref 169, .ref 170, .ref 171, .ref 172, .int 0]), .inl (.int, 200, .inl (fun _ => 0)), .inl (.int, 200, .inl (fun _ => 0)), .inl (.int, 200, .inl (fun _ => 0)), .inl (.int, 200, .inl (fun _ => 0)), .inl (.int, 200, .inl (fun _ => 0)), .inl (.int, 200, .inl (fun _ => 0)), .inl (.int, 200, .inl (fun _ => 0)), .inl (.long, 1088, .inr (.inl (fun _ => 0))), .inl (.long, 17, .inr (.inl (fun _ => 0)))] hM rfl rfl rfl rfl rfl rfl (zA_len _ n 17) (by decide) rfl rfl rfl rfl ?_
  refine rr_put 151 hM rfl rfl rfl rfl rfl rfl ?_
  show zgo k d 14 (151, _, []) ((zA [.ref 1, .ref 8, .ref 10, .ref 17, .ref 25, .ref 28, .ref 165, .ref 173, .ref 174, .null, .int 0, .int 0, .int 0, .int 0, .int 0, .int 0, .null, .int 0] n 17 ++ zcds 17) ++ [.inr (6, [.int 0, .ref 166, .ref 167, .ref 168, .ref 169, .ref 170, .ref 171, .ref 172, .int 0]), .inl (.int, 200, .inl (fun _ => 0)), .inl (.int, 200, .inl (fun _ => 0)), .inl (.int, 200, .inl (fun _ => 0)), .inl (.int, 200, .inl (fun _ => 0)), .inl (.int, 200, .inl (fun _ => 0)), .inl (.int, 200, .inl (fun _ => 0)), .inl (.int, 200, .inl (fun _ => 0)), .inl (.long, 1088, .inr (.inl (fun _ => 0))), .inl (.long, 17, .inr (.inl (fun _ => 0)))]) _
  refine g_aload_n 152 hM rfl rfl rfl ?_
  refine g_bipush 154 hM rfl rfl rfl ?_
  refine r_newa 156 175 10 [.inr (6, [.int 0, .ref 166, .ref 167, .ref 168, .ref 169, .ref 170, .ref 171, .ref 172, .int 0]), .inl (.int, 200, .inl (fun _ => 0)), .inl (.int, 200, .inl (fun _ => 0)), .inl (.int, 200, .inl (fun _ => 0)), .inl (.int, 200, .inl (fun _ => 0)), .inl (.int, 200, .inl (fun _ => 0)), .inl (.int, 200, .inl (fun _ => 0)), .inl (.int, 200, .inl (fun _ => 0)), .inl (.long, 1088, .inr (.inl (fun _ => 0))), .inl (.long, 17, .inr (.inl (fun _ => 0))), .inl (.long, 64, .inr (.inl (fun _ => 0)))] hM rfl rfl rfl rfl rfl rfl (zA_len _ n 17) (by decide) rfl rfl rfl rfl ?_
  refine rr_put 159 hM rfl rfl rfl rfl rfl rfl ?_
  show zgo k d 14 (159, _, []) ((zA [.ref 1, .ref 8, .ref 10, .ref 17, .ref 25, .ref 28, .ref 165, .ref 173, .ref 174, .ref 175, .int 0, .int 0, .int 0, .int 0, .int 0, .int 0, .null, .int 0] n 17 ++ zcds 17) ++ [.inr (6, [.int 0, .ref 166, .ref 167, .ref 168, .ref 169, .ref 170, .ref 171, .ref 172, .int 0]), .inl (.int, 200, .inl (fun _ => 0)), .inl (.int, 200, .inl (fun _ => 0)), .inl (.int, 200, .inl (fun _ => 0)), .inl (.int, 200, .inl (fun _ => 0)), .inl (.int, 200, .inl (fun _ => 0)), .inl (.int, 200, .inl (fun _ => 0)), .inl (.int, 200, .inl (fun _ => 0)), .inl (.long, 1088, .inr (.inl (fun _ => 0))), .inl (.long, 17, .inr (.inl (fun _ => 0))), .inl (.long, 64, .inr (.inl (fun _ => 0)))]) _
  refine g_aload_n 160 hM rfl rfl rfl ?_
  refine g_iconst 161 hM rfl rfl ?_
  refine rr_put 164 hM rfl rfl rfl rfl rfl rfl ?_
  show zgo k d 14 (164, _, []) ((zA [.ref 1, .ref 8, .ref 10, .ref 17, .ref 25, .ref 28, .ref 165, .ref 173, .ref 174, .ref 175, .int 0, .int 0, .int (Int32.ofInt (-1)), .int 0, .int 0, .int 0, .null, .int 0] n 17 ++ zcds 17) ++ [.inr (6, [.int 0, .ref 166, .ref 167, .ref 168, .ref 169, .ref 170, .ref 171, .ref 172, .int 0]), .inl (.int, 200, .inl (fun _ => 0)), .inl (.int, 200, .inl (fun _ => 0)), .inl (.int, 200, .inl (fun _ => 0)), .inl (.int, 200, .inl (fun _ => 0)), .inl (.int, 200, .inl (fun _ => 0)), .inl (.int, 200, .inl (fun _ => 0)), .inl (.int, 200, .inl (fun _ => 0)), .inl (.long, 1088, .inr (.inl (fun _ => 0))), .inl (.long, 17, .inr (.inl (fun _ => 0))), .inl (.long, 64, .inr (.inl (fun _ => 0)))]) _
  refine g_aload_n 165 hM rfl rfl rfl ?_
  refine g_bipush 167 hM rfl rfl rfl ?_
  refine r_newa 169 176 11 [.inr (6, [.int 0, .ref 166, .ref 167, .ref 168, .ref 169, .ref 170, .ref 171, .ref 172, .int 0]), .inl (.int, 200, .inl (fun _ => 0)), .inl (.int, 200, .inl (fun _ => 0)), .inl (.int, 200, .inl (fun _ => 0)), .inl (.int, 200, .inl (fun _ => 0)), .inl (.int, 200, .inl (fun _ => 0)), .inl (.int, 200, .inl (fun _ => 0)), .inl (.int, 200, .inl (fun _ => 0)), .inl (.long, 1088, .inr (.inl (fun _ => 0))), .inl (.long, 17, .inr (.inl (fun _ => 0))), .inl (.long, 64, .inr (.inl (fun _ => 0))), .inl (.boolean, 125, .inl (fun _ => 0))] hM rfl rfl rfl rfl rfl rfl (zA_len _ n 17) (by decide) rfl rfl rfl rfl ?_
  refine rr_put 172 hM rfl rfl rfl rfl rfl rfl ?_
  show zgo k d 14 (172, _, []) ((zA [.ref 1, .ref 8, .ref 10, .ref 17, .ref 25, .ref 28, .ref 165, .ref 173, .ref 174, .ref 175, .int 0, .int 0, .int (Int32.ofInt (-1)), .int 0, .int 0, .int 0, .ref 176, .int 0] n 17 ++ zcds 17) ++ [.inr (6, [.int 0, .ref 166, .ref 167, .ref 168, .ref 169, .ref 170, .ref 171, .ref 172, .int 0]), .inl (.int, 200, .inl (fun _ => 0)), .inl (.int, 200, .inl (fun _ => 0)), .inl (.int, 200, .inl (fun _ => 0)), .inl (.int, 200, .inl (fun _ => 0)), .inl (.int, 200, .inl (fun _ => 0)), .inl (.int, 200, .inl (fun _ => 0)), .inl (.int, 200, .inl (fun _ => 0)), .inl (.long, 1088, .inr (.inl (fun _ => 0))), .inl (.long, 17, .inr (.inl (fun _ => 0))), .inl (.long, 64, .inr (.inl (fun _ => 0))), .inl (.boolean, 125, .inl (fun _ => 0))]) _
  exact g_ret hM rfl rfl
set_option maxHeartbeats 4000000 in
theorem cF {k : zK} {d : Nat} {a0 : Int} (hn0 : zR a0) (hd : 3 ≤ d) : zgo k d 14 (0, [(0, .ref 0), (1, .int (Int32.ofInt a0))], []) ([] ++ [.inr (0, [.null, .null, .null, .null, .null, .null, .null, .null, .null, .null, .int 0, .int 0, .int 0, .int 0, .int 0, .int 0, .null, .int 0])]) (.inl none, zRF (zclamp a0)) := by
  have hM := xM_14 k.1
  have hn1 : zR (zmin 5 a0) := by unfold zmin; split <;> first | exact hn0 | decide
  have hb : ([] : am_H).length = 0 := rfl
  have hB : 0 ≤ 100000 := by decide
  refine g_aload_n 1 hM rfl rfl rfl ?_
  refine rr_obj 4 hM rfl (fun _ => rfl) rfl rfl rfl rfl (by omega) ?_
  refine g_aload_n 5 hM rfl rfl rfl ?_
  refine r_new 8 1 1 [.inr (0, [.null, .null, .null, .null, .null, .null, .null, .null, .null, .null, .int 0, .int 0, .int 0, .int 0, .int 0, .int 0, .null, .int 0]), .inr (1, [.int 0, .null, .null, .null, .int 0, .null, .null, .null, .int 0])] hM rfl rfl rfl hb hB rfl rfl rfl rfl ?_
  refine g_dup 9 hM rfl rfl rfl ?_
  refine g_iconst 10 hM rfl rfl ?_
  refine g_iconst 11 hM rfl rfl ?_
  refine g_iload_n 12 hM rfl rfl rfl ?_
  refine g_min 15 hM rfl (fun _ => rfl) rfl rfl rfl (zR_lit rfl) hn0 rfl (by omega) ?_
  refine g_max 18 hM rfl (fun _ => rfl) rfl rfl rfl (zR_lit rfl) hn1 rfl (by omega) ?_
  refine r_call 21 _ [.ref 1, .ref 0] [.inr (0, [.null, .null, .null, .null, .null, .null, .null, .null, .null, .null, .int 0, .int 0, .int 0, .int 0, .int 0, .int 0, .null, .int 0])] (cW_C 1 (zmax 1 (zmin 5 a0))) [.inr (0, [.null, .null, .null, .null, .null, .null, .null, .null, .null, .null, .int 0, .int 0, .int 0, .int 0, .int 0, .int 0, .null, .int 0]), .inr (1, [.int (Int32.ofInt (zmax 1 (zmin 5 a0))), .ref 2, .ref 3, .ref 4, .int 0, .ref 5, .ref 6, .ref 7, .int 0]), .inl (.int, 4, .inl (upd (upd (upd (upd (fun _ => 0) 0 (Int32.ofInt 1)) 1 (Int32.ofInt (1 * (zmax 1 (zmin 5 a0))))) 2 (Int32.ofInt ((1 * (zmax 1 (zmin 5 a0))) * (zmax 1 (zmin 5 a0))))) 3 (Int32.ofInt (((1 * (zmax 1 (zmin 5 a0))) * (zmax 1 (zmin 5 a0))) * (zmax 1 (zmin 5 a0)))))), .inl (.long, 8, .inr (.inl (fun _ => 0))), .inl (.int, 8, .inl (fun _ => 0)), .inl (.int, 1000, .inl (fun _ => 0)), .inl (.long, 1000, .inr (.inl (fun _ => 0))), .inl (.int, 12, .inl (fun _ => 0))] hM rfl rfl rfl rfl (xM_47 _) rfl (fun _ => rfl) rfl rfl (by omega) rfl rfl rfl (cW (by omega) rfl (by decide)) ?_
  refine r_put 24 0 [.inr (0, [.ref 1, .null, .null, .null, .null, .null, .null, .null, .null, .null, .int 0, .int 0, .int 0, .int 0, .int 0, .int 0, .null, .int 0]), .inr (1, [.int (Int32.ofInt (zmax 1 (zmin 5 a0))), .ref 2, .ref 3, .ref 4, .int 0, .ref 5, .ref 6, .ref 7, .int 0]), .inl (.int, 4, .inl (upd (upd (upd (upd (fun _ => 0) 0 (Int32.ofInt 1)) 1 (Int32.ofInt (1 * (zmax 1 (zmin 5 a0))))) 2 (Int32.ofInt ((1 * (zmax 1 (zmin 5 a0))) * (zmax 1 (zmin 5 a0))))) 3 (Int32.ofInt (((1 * (zmax 1 (zmin 5 a0))) * (zmax 1 (zmin 5 a0))) * (zmax 1 (zmin 5 a0)))))), .inl (.long, 8, .inr (.inl (fun _ => 0))), .inl (.int, 8, .inl (fun _ => 0)), .inl (.int, 1000, .inl (fun _ => 0)), .inl (.long, 1000, .inr (.inl (fun _ => 0))), .inl (.int, 12, .inl (fun _ => 0))] hM rfl rfl rfl hb hB rfl rfl rfl rfl rfl rfl ?_
  refine g_aload_n 25 hM rfl rfl rfl ?_
  refine r_new 28 8 8 [.inr (0, [.ref 1, .null, .null, .null, .null, .null, .null, .null, .null, .null, .int 0, .int 0, .int 0, .int 0, .int 0, .int 0, .null, .int 0]), .inr (1, [.int (Int32.ofInt (zmax 1 (zmin 5 a0))), .ref 2, .ref 3, .ref 4, .int 0, .ref 5, .ref 6, .ref 7, .int 0]), .inl (.int, 4, .inl (upd (upd (upd (upd (fun _ => 0) 0 (Int32.ofInt 1)) 1 (Int32.ofInt (1 * (zmax 1 (zmin 5 a0))))) 2 (Int32.ofInt ((1 * (zmax 1 (zmin 5 a0))) * (zmax 1 (zmin 5 a0))))) 3 (Int32.ofInt (((1 * (zmax 1 (zmin 5 a0))) * (zmax 1 (zmin 5 a0))) * (zmax 1 (zmin 5 a0)))))), .inl (.long, 8, .inr (.inl (fun _ => 0))), .inl (.int, 8, .inl (fun _ => 0)), .inl (.int, 1000, .inl (fun _ => 0)), .inl (.long, 1000, .inr (.inl (fun _ => 0))), .inl (.int, 12, .inl (fun _ => 0)), .inr (2, [.null, .int 0, .int 0, .int 0, .int 0, .int 0, .long 0, .int 0])] hM rfl rfl rfl hb hB rfl rfl rfl rfl ?_
  refine g_dup 29 hM rfl rfl rfl ?_
  refine r_call 32 _ [.ref 8, .ref 0] [.inr (0, [.ref 1, .null, .null, .null, .null, .null, .null, .null, .null, .null, .int 0, .int 0, .int 0, .int 0, .int 0, .int 0, .null, .int 0]), .inr (1, [.int (Int32.ofInt (zmax 1 (zmin 5 a0))), .ref 2, .ref 3, .ref 4, .int 0, .ref 5, .ref 6, .ref 7, .int 0]), .inl (.int, 4, .inl (upd (upd (upd (upd (fun _ => 0) 0 (Int32.ofInt 1)) 1 (Int32.ofInt (1 * (zmax 1 (zmin 5 a0))))) 2 (Int32.ofInt ((1 * (zmax 1 (zmin 5 a0))) * (zmax 1 (zmin 5 a0))))) 3 (Int32.ofInt (((1 * (zmax 1 (zmin 5 a0))) * (zmax 1 (zmin 5 a0))) * (zmax 1 (zmin 5 a0)))))), .inl (.long, 8, .inr (.inl (fun _ => 0))), .inl (.int, 8, .inl (fun _ => 0)), .inl (.int, 1000, .inl (fun _ => 0)), .inl (.long, 1000, .inr (.inl (fun _ => 0))), .inl (.int, 12, .inl (fun _ => 0))] (cT_C 8) [.inr (0, [.ref 1, .null, .null, .null, .null, .null, .null, .null, .null, .null, .int 0, .int 0, .int 0, .int 0, .int 0, .int 0, .null, .int 0]), .inr (1, [.int (Int32.ofInt (zmax 1 (zmin 5 a0))), .ref 2, .ref 3, .ref 4, .int 0, .ref 5, .ref 6, .ref 7, .int 0]), .inl (.int, 4, .inl (upd (upd (upd (upd (fun _ => 0) 0 (Int32.ofInt 1)) 1 (Int32.ofInt (1 * (zmax 1 (zmin 5 a0))))) 2 (Int32.ofInt ((1 * (zmax 1 (zmin 5 a0))) * (zmax 1 (zmin 5 a0))))) 3 (Int32.ofInt (((1 * (zmax 1 (zmin 5 a0))) * (zmax 1 (zmin 5 a0))) * (zmax 1 (zmin 5 a0)))))), .inl (.long, 8, .inr (.inl (fun _ => 0))), .inl (.int, 8, .inl (fun _ => 0)), .inl (.int, 1000, .inl (fun _ => 0)), .inl (.long, 1000, .inr (.inl (fun _ => 0))), .inl (.int, 12, .inl (fun _ => 0)), .inr (2, [.ref 9, .int 0, .int 0, .int 0, .int 0, .int 0, .long 0, .int 0]), .inl (.int, 600, .inl (fun _ => 0))] hM rfl rfl rfl rfl (xM_60 _) rfl (fun _ => rfl) rfl rfl (by omega) rfl rfl rfl (cT (by omega) rfl (by decide)) ?_
  refine r_put 35 0 [.inr (0, [.ref 1, .ref 8, .null, .null, .null, .null, .null, .null, .null, .null, .int 0, .int 0, .int 0, .int 0, .int 0, .int 0, .null, .int 0]), .inr (1, [.int (Int32.ofInt (zmax 1 (zmin 5 a0))), .ref 2, .ref 3, .ref 4, .int 0, .ref 5, .ref 6, .ref 7, .int 0]), .inl (.int, 4, .inl (upd (upd (upd (upd (fun _ => 0) 0 (Int32.ofInt 1)) 1 (Int32.ofInt (1 * (zmax 1 (zmin 5 a0))))) 2 (Int32.ofInt ((1 * (zmax 1 (zmin 5 a0))) * (zmax 1 (zmin 5 a0))))) 3 (Int32.ofInt (((1 * (zmax 1 (zmin 5 a0))) * (zmax 1 (zmin 5 a0))) * (zmax 1 (zmin 5 a0)))))), .inl (.long, 8, .inr (.inl (fun _ => 0))), .inl (.int, 8, .inl (fun _ => 0)), .inl (.int, 1000, .inl (fun _ => 0)), .inl (.long, 1000, .inr (.inl (fun _ => 0))), .inl (.int, 12, .inl (fun _ => 0)), .inr (2, [.ref 9, .int 0, .int 0, .int 0, .int 0, .int 0, .long 0, .int 0]), .inl (.int, 600, .inl (fun _ => 0))] hM rfl rfl rfl hb hB rfl rfl rfl rfl rfl rfl ?_
  refine g_aload_n 36 hM rfl rfl rfl ?_
  refine r_new 39 10 10 [.inr (0, [.ref 1, .ref 8, .null, .null, .null, .null, .null, .null, .null, .null, .int 0, .int 0, .int 0, .int 0, .int 0, .int 0, .null, .int 0]), .inr (1, [.int (Int32.ofInt (zmax 1 (zmin 5 a0))), .ref 2, .ref 3, .ref 4, .int 0, .ref 5, .ref 6, .ref 7, .int 0]), .inl (.int, 4, .inl (upd (upd (upd (upd (fun _ => 0) 0 (Int32.ofInt 1)) 1 (Int32.ofInt (1 * (zmax 1 (zmin 5 a0))))) 2 (Int32.ofInt ((1 * (zmax 1 (zmin 5 a0))) * (zmax 1 (zmin 5 a0))))) 3 (Int32.ofInt (((1 * (zmax 1 (zmin 5 a0))) * (zmax 1 (zmin 5 a0))) * (zmax 1 (zmin 5 a0)))))), .inl (.long, 8, .inr (.inl (fun _ => 0))), .inl (.int, 8, .inl (fun _ => 0)), .inl (.int, 1000, .inl (fun _ => 0)), .inl (.long, 1000, .inr (.inl (fun _ => 0))), .inl (.int, 12, .inl (fun _ => 0)), .inr (2, [.ref 9, .int 0, .int 0, .int 0, .int 0, .int 0, .long 0, .int 0]), .inl (.int, 600, .inl (fun _ => 0)), .inr (3, [.null, .null, .null, .int 0, .int 0, .int 0, .int 0, .int 0, .int 0, .null, .null, .null, .null, .null, .null, .int 0, .int 0])] hM rfl rfl rfl hb hB rfl rfl rfl rfl ?_
  refine g_dup 40 hM rfl rfl rfl ?_
  refine g_aload_n 41 hM rfl rfl rfl ?_
  refine r_get 44 0 (.ref 8) hM rfl rfl rfl hb hB rfl rfl rfl rfl ?_
  refine g_aload_n 45 hM rfl rfl rfl ?_
  refine r_get 48 0 (.ref 1) hM rfl rfl rfl hb hB rfl rfl rfl rfl ?_
  refine r_call 51 _ [.ref 10, .ref 0] [.inr (0, [.ref 1, .ref 8, .null, .null, .null, .null, .null, .null, .null, .null, .int 0, .int 0, .int 0, .int 0, .int 0, .int 0, .null, .int 0]), .inr (1, [.int (Int32.ofInt (zmax 1 (zmin 5 a0))), .ref 2, .ref 3, .ref 4, .int 0, .ref 5, .ref 6, .ref 7, .int 0]), .inl (.int, 4, .inl (upd (upd (upd (upd (fun _ => 0) 0 (Int32.ofInt 1)) 1 (Int32.ofInt (1 * (zmax 1 (zmin 5 a0))))) 2 (Int32.ofInt ((1 * (zmax 1 (zmin 5 a0))) * (zmax 1 (zmin 5 a0))))) 3 (Int32.ofInt (((1 * (zmax 1 (zmin 5 a0))) * (zmax 1 (zmin 5 a0))) * (zmax 1 (zmin 5 a0)))))), .inl (.long, 8, .inr (.inl (fun _ => 0))), .inl (.int, 8, .inl (fun _ => 0)), .inl (.int, 1000, .inl (fun _ => 0)), .inl (.long, 1000, .inr (.inl (fun _ => 0))), .inl (.int, 12, .inl (fun _ => 0)), .inr (2, [.ref 9, .int 0, .int 0, .int 0, .int 0, .int 0, .long 0, .int 0]), .inl (.int, 600, .inl (fun _ => 0))] (cP_C 10 8 1) [.inr (0, [.ref 1, .ref 8, .null, .null, .null, .null, .null, .null, .null, .null, .int 0, .int 0, .int 0, .int 0, .int 0, .int 0, .null, .int 0]), .inr (1, [.int (Int32.ofInt (zmax 1 (zmin 5 a0))), .ref 2, .ref 3, .ref 4, .int 0, .ref 5, .ref 6, .ref 7, .int 0]), .inl (.int, 4, .inl (upd (upd (upd (upd (fun _ => 0) 0 (Int32.ofInt 1)) 1 (Int32.ofInt (1 * (zmax 1 (zmin 5 a0))))) 2 (Int32.ofInt ((1 * (zmax 1 (zmin 5 a0))) * (zmax 1 (zmin 5 a0))))) 3 (Int32.ofInt (((1 * (zmax 1 (zmin 5 a0))) * (zmax 1 (zmin 5 a0))) * (zmax 1 (zmin 5 a0)))))), .inl (.long, 8, .inr (.inl (fun _ => 0))), .inl (.int, 8, .inl (fun _ => 0)), .inl (.int, 1000, .inl (fun _ => 0)), .inl (.long, 1000, .inr (.inl (fun _ => 0))), .inl (.int, 12, .inl (fun _ => 0)), .inr (2, [.ref 9, .int 0, .int 0, .int 0, .int 0, .int 0, .long 0, .int 0]), .inl (.int, 600, .inl (fun _ => 0)), .inr (3, [.ref 8, .ref 1, .null, .int 0, .int 0, .int 0, .int 0, .int 0, .int 0, .ref 11, .ref 12, .ref 13, .ref 14, .ref 15, .ref 16, .int 0, .int 0]), .inl (.int, 20, .inl (fun _ => 0)), .inl (.int, 20, .inl (fun _ => 0)), .inl (.int, 20, .inl (fun _ => 0)), .inl (.int, 20, .inl (fun _ => 0)), .inl (.int, 20, .inl (fun _ => 0)), .inl (.long, 20, .inr (.inl (fun _ => 0)))] hM rfl rfl rfl rfl (xM_72 _) rfl (fun _ => rfl) rfl rfl (by omega) rfl rfl rfl (cP (by omega) rfl (by decide)) ?_
  refine r_put 54 0 [.inr (0, [.ref 1, .ref 8, .ref 10, .null, .null, .null, .null, .null, .null, .null, .int 0, .int 0, .int 0, .int 0, .int 0, .int 0, .null, .int 0]), .inr (1, [.int (Int32.ofInt (zmax 1 (zmin 5 a0))), .ref 2, .ref 3, .ref 4, .int 0, .ref 5, .ref 6, .ref 7, .int 0]), .inl (.int, 4, .inl (upd (upd (upd (upd (fun _ => 0) 0 (Int32.ofInt 1)) 1 (Int32.ofInt (1 * (zmax 1 (zmin 5 a0))))) 2 (Int32.ofInt ((1 * (zmax 1 (zmin 5 a0))) * (zmax 1 (zmin 5 a0))))) 3 (Int32.ofInt (((1 * (zmax 1 (zmin 5 a0))) * (zmax 1 (zmin 5 a0))) * (zmax 1 (zmin 5 a0)))))), .inl (.long, 8, .inr (.inl (fun _ => 0))), .inl (.int, 8, .inl (fun _ => 0)), .inl (.int, 1000, .inl (fun _ => 0)), .inl (.long, 1000, .inr (.inl (fun _ => 0))), .inl (.int, 12, .inl (fun _ => 0)), .inr (2, [.ref 9, .int 0, .int 0, .int 0, .int 0, .int 0, .long 0, .int 0]), .inl (.int, 600, .inl (fun _ => 0)), .inr (3, [.ref 8, .ref 1, .null, .int 0, .int 0, .int 0, .int 0, .int 0, .int 0, .ref 11, .ref 12, .ref 13, .ref 14, .ref 15, .ref 16, .int 0, .int 0]), .inl (.int, 20, .inl (fun _ => 0)), .inl (.int, 20, .inl (fun _ => 0)), .inl (.int, 20, .inl (fun _ => 0)), .inl (.int, 20, .inl (fun _ => 0)), .inl (.int, 20, .inl (fun _ => 0)), .inl (.long, 20, .inr (.inl (fun _ => 0)))] hM rfl rfl rfl hb hB rfl rfl rfl rfl rfl rfl ?_
  refine g_aload_n 55 hM rfl rfl rfl ?_
  refine r_new 58 17 17 [.inr (0, [.ref 1, .ref 8, .ref 10, .null, .null, .null, .null, .null, .null, .null, .int 0, .int 0, .int 0, .int 0, .int 0, .int 0, .null, .int 0]), .inr (1, [.int (Int32.ofInt (zmax 1 (zmin 5 a0))), .ref 2, .ref 3, .ref 4, .int 0, .ref 5, .ref 6, .ref 7, .int 0]), .inl (.int, 4, .inl (upd (upd (upd (upd (fun _ => 0) 0 (Int32.ofInt 1)) 1 (Int32.ofInt (1 * (zmax 1 (zmin 5 a0))))) 2 (Int32.ofInt ((1 * (zmax 1 (zmin 5 a0))) * (zmax 1 (zmin 5 a0))))) 3 (Int32.ofInt (((1 * (zmax 1 (zmin 5 a0))) * (zmax 1 (zmin 5 a0))) * (zmax 1 (zmin 5 a0)))))), .inl (.long, 8, .inr (.inl (fun _ => 0))), .inl (.int, 8, .inl (fun _ => 0)), .inl (.int, 1000, .inl (fun _ => 0)), .inl (.long, 1000, .inr (.inl (fun _ => 0))), .inl (.int, 12, .inl (fun _ => 0)), .inr (2, [.ref 9, .int 0, .int 0, .int 0, .int 0, .int 0, .long 0, .int 0]), .inl (.int, 600, .inl (fun _ => 0)), .inr (3, [.ref 8, .ref 1, .null, .int 0, .int 0, .int 0, .int 0, .int 0, .int 0, .ref 11, .ref 12, .ref 13, .ref 14, .ref 15, .ref 16, .int 0, .int 0]), .inl (.int, 20, .inl (fun _ => 0)), .inl (.int, 20, .inl (fun _ => 0)), .inl (.int, 20, .inl (fun _ => 0)), .inl (.int, 20, .inl (fun _ => 0)), .inl (.int, 20, .inl (fun _ => 0)), .inl (.long, 20, .inr (.inl (fun _ => 0))), .inr (4, [.null, .null, .null, .int 0, .null, .null, .null, .null, .null])] hM rfl rfl rfl hb hB rfl rfl rfl rfl ?_
  refine g_dup 59 hM rfl rfl rfl ?_
  refine g_aload_n 60 hM rfl rfl rfl ?_
  refine r_get 63 0 (.ref 1) hM rfl rfl rfl hb hB rfl rfl rfl rfl ?_
  refine r_call 66 _ [.ref 17, .ref 0] [.inr (0, [.ref 1, .ref 8, .ref 10, .null, .null, .null, .null, .null, .null, .null, .int 0, .int 0, .int 0, .int 0, .int 0, .int 0, .null, .int 0]), .inr (1, [.int (Int32.ofInt (zmax 1 (zmin 5 a0))), .ref 2, .ref 3, .ref 4, .int 0, .ref 5, .ref 6, .ref 7, .int 0]), .inl (.int, 4, .inl (upd (upd (upd (upd (fun _ => 0) 0 (Int32.ofInt 1)) 1 (Int32.ofInt (1 * (zmax 1 (zmin 5 a0))))) 2 (Int32.ofInt ((1 * (zmax 1 (zmin 5 a0))) * (zmax 1 (zmin 5 a0))))) 3 (Int32.ofInt (((1 * (zmax 1 (zmin 5 a0))) * (zmax 1 (zmin 5 a0))) * (zmax 1 (zmin 5 a0)))))), .inl (.long, 8, .inr (.inl (fun _ => 0))), .inl (.int, 8, .inl (fun _ => 0)), .inl (.int, 1000, .inl (fun _ => 0)), .inl (.long, 1000, .inr (.inl (fun _ => 0))), .inl (.int, 12, .inl (fun _ => 0)), .inr (2, [.ref 9, .int 0, .int 0, .int 0, .int 0, .int 0, .long 0, .int 0]), .inl (.int, 600, .inl (fun _ => 0)), .inr (3, [.ref 8, .ref 1, .null, .int 0, .int 0, .int 0, .int 0, .int 0, .int 0, .ref 11, .ref 12, .ref 13, .ref 14, .ref 15, .ref 16, .int 0, .int 0]), .inl (.int, 20, .inl (fun _ => 0)), .inl (.int, 20, .inl (fun _ => 0)), .inl (.int, 20, .inl (fun _ => 0)), .inl (.int, 20, .inl (fun _ => 0)), .inl (.int, 20, .inl (fun _ => 0)), .inl (.long, 20, .inr (.inl (fun _ => 0)))] (cM_C 17 1) [.inr (0, [.ref 1, .ref 8, .ref 10, .null, .null, .null, .null, .null, .null, .null, .int 0, .int 0, .int 0, .int 0, .int 0, .int 0, .null, .int 0]), .inr (1, [.int (Int32.ofInt (zmax 1 (zmin 5 a0))), .ref 2, .ref 3, .ref 4, .int 0, .ref 5, .ref 6, .ref 7, .int 0]), .inl (.int, 4, .inl (upd (upd (upd (upd (fun _ => 0) 0 (Int32.ofInt 1)) 1 (Int32.ofInt (1 * (zmax 1 (zmin 5 a0))))) 2 (Int32.ofInt ((1 * (zmax 1 (zmin 5 a0))) * (zmax 1 (zmin 5 a0))))) 3 (Int32.ofInt (((1 * (zmax 1 (zmin 5 a0))) * (zmax 1 (zmin 5 a0))) * (zmax 1 (zmin 5 a0)))))), .inl (.long, 8, .inr (.inl (fun _ => 0))), .inl (.int, 8, .inl (fun _ => 0)), .inl (.int, 1000, .inl (fun _ => 0)), .inl (.long, 1000, .inr (.inl (fun _ => 0))), .inl (.int, 12, .inl (fun _ => 0)), .inr (2, [.ref 9, .int 0, .int 0, .int 0, .int 0, .int 0, .long 0, .int 0]), .inl (.int, 600, .inl (fun _ => 0)), .inr (3, [.ref 8, .ref 1, .null, .int 0, .int 0, .int 0, .int 0, .int 0, .int 0, .ref 11, .ref 12, .ref 13, .ref 14, .ref 15, .ref 16, .int 0, .int 0]), .inl (.int, 20, .inl (fun _ => 0)), .inl (.int, 20, .inl (fun _ => 0)), .inl (.int, 20, .inl (fun _ => 0)), .inl (.int, 20, .inl (fun _ => 0)), .inl (.int, 20, .inl (fun _ => 0)), .inl (.long, 20, .inr (.inl (fun _ => 0))), .inr (4, [.ref 1, .ref 18, .ref 19, .int 0, .ref 20, .ref 21, .ref 22, .ref 23, .ref 24]), .inl (.long, 2750, .inr (.inl (fun _ => 0))), .inl (.int, 22, .inl (fun _ => 0)), .inl (.int, 20, .inl (fun _ => 0)), .inl (.long, 125, .inr (.inl (fun _ => 0))), .inl (.long, 10, .inr (.inl (fun _ => 0))), .inl (.long, 1000, .inr (.inl (fun _ => 0))), .inl (.long, 5000, .inr (.inl (fun _ => 0)))] hM rfl rfl rfl rfl (xM_101 _) rfl (fun _ => rfl) rfl rfl (by omega) rfl rfl rfl (cM (by omega) rfl (by decide)) ?_
  refine r_put 69 0 [.inr (0, [.ref 1, .ref 8, .ref 10, .ref 17, .null, .null, .null, .null, .null, .null, .int 0, .int 0, .int 0, .int 0, .int 0, .int 0, .null, .int 0]), .inr (1, [.int (Int32.ofInt (zmax 1 (zmin 5 a0))), .ref 2, .ref 3, .ref 4, .int 0, .ref 5, .ref 6, .ref 7, .int 0]), .inl (.int, 4, .inl (upd (upd (upd (upd (fun _ => 0) 0 (Int32.ofInt 1)) 1 (Int32.ofInt (1 * (zmax 1 (zmin 5 a0))))) 2 (Int32.ofInt ((1 * (zmax 1 (zmin 5 a0))) * (zmax 1 (zmin 5 a0))))) 3 (Int32.ofInt (((1 * (zmax 1 (zmin 5 a0))) * (zmax 1 (zmin 5 a0))) * (zmax 1 (zmin 5 a0)))))), .inl (.long, 8, .inr (.inl (fun _ => 0))), .inl (.int, 8, .inl (fun _ => 0)), .inl (.int, 1000, .inl (fun _ => 0)), .inl (.long, 1000, .inr (.inl (fun _ => 0))), .inl (.int, 12, .inl (fun _ => 0)), .inr (2, [.ref 9, .int 0, .int 0, .int 0, .int 0, .int 0, .long 0, .int 0]), .inl (.int, 600, .inl (fun _ => 0)), .inr (3, [.ref 8, .ref 1, .null, .int 0, .int 0, .int 0, .int 0, .int 0, .int 0, .ref 11, .ref 12, .ref 13, .ref 14, .ref 15, .ref 16, .int 0, .int 0]), .inl (.int, 20, .inl (fun _ => 0)), .inl (.int, 20, .inl (fun _ => 0)), .inl (.int, 20, .inl (fun _ => 0)), .inl (.int, 20, .inl (fun _ => 0)), .inl (.int, 20, .inl (fun _ => 0)), .inl (.long, 20, .inr (.inl (fun _ => 0))), .inr (4, [.ref 1, .ref 18, .ref 19, .int 0, .ref 20, .ref 21, .ref 22, .ref 23, .ref 24]), .inl (.long, 2750, .inr (.inl (fun _ => 0))), .inl (.int, 22, .inl (fun _ => 0)), .inl (.int, 20, .inl (fun _ => 0)), .inl (.long, 125, .inr (.inl (fun _ => 0))), .inl (.long, 10, .inr (.inl (fun _ => 0))), .inl (.long, 1000, .inr (.inl (fun _ => 0))), .inl (.long, 5000, .inr (.inl (fun _ => 0)))] hM rfl rfl rfl hb hB rfl rfl rfl rfl rfl rfl ?_
  refine g_aload_n 70 hM rfl rfl rfl ?_
  refine r_new 73 25 25 [.inr (0, [.ref 1, .ref 8, .ref 10, .ref 17, .null, .null, .null, .null, .null, .null, .int 0, .int 0, .int 0, .int 0, .int 0, .int 0, .null, .int 0]), .inr (1, [.int (Int32.ofInt (zmax 1 (zmin 5 a0))), .ref 2, .ref 3, .ref 4, .int 0, .ref 5, .ref 6, .ref 7, .int 0]), .inl (.int, 4, .inl (upd (upd (upd (upd (fun _ => 0) 0 (Int32.ofInt 1)) 1 (Int32.ofInt (1 * (zmax 1 (zmin 5 a0))))) 2 (Int32.ofInt ((1 * (zmax 1 (zmin 5 a0))) * (zmax 1 (zmin 5 a0))))) 3 (Int32.ofInt (((1 * (zmax 1 (zmin 5 a0))) * (zmax 1 (zmin 5 a0))) * (zmax 1 (zmin 5 a0)))))), .inl (.long, 8, .inr (.inl (fun _ => 0))), .inl (.int, 8, .inl (fun _ => 0)), .inl (.int, 1000, .inl (fun _ => 0)), .inl (.long, 1000, .inr (.inl (fun _ => 0))), .inl (.int, 12, .inl (fun _ => 0)), .inr (2, [.ref 9, .int 0, .int 0, .int 0, .int 0, .int 0, .long 0, .int 0]), .inl (.int, 600, .inl (fun _ => 0)), .inr (3, [.ref 8, .ref 1, .null, .int 0, .int 0, .int 0, .int 0, .int 0, .int 0, .ref 11, .ref 12, .ref 13, .ref 14, .ref 15, .ref 16, .int 0, .int 0]), .inl (.int, 20, .inl (fun _ => 0)), .inl (.int, 20, .inl (fun _ => 0)), .inl (.int, 20, .inl (fun _ => 0)), .inl (.int, 20, .inl (fun _ => 0)), .inl (.int, 20, .inl (fun _ => 0)), .inl (.long, 20, .inr (.inl (fun _ => 0))), .inr (4, [.ref 1, .ref 18, .ref 19, .int 0, .ref 20, .ref 21, .ref 22, .ref 23, .ref 24]), .inl (.long, 2750, .inr (.inl (fun _ => 0))), .inl (.int, 22, .inl (fun _ => 0)), .inl (.int, 20, .inl (fun _ => 0)), .inl (.long, 125, .inr (.inl (fun _ => 0))), .inl (.long, 10, .inr (.inl (fun _ => 0))), .inl (.long, 1000, .inr (.inl (fun _ => 0))), .inl (.long, 5000, .inr (.inl (fun _ => 0))), .inr (5, [.null, .int 0, .int 0, .null, .null])] hM rfl rfl rfl hb hB rfl rfl rfl rfl ?_
  refine g_dup 74 hM rfl rfl rfl ?_
  refine g_aload_n 75 hM rfl rfl rfl ?_
  refine r_get 78 0 (.ref 1) hM rfl rfl rfl hb hB rfl rfl rfl rfl ?_
  refine r_call 81 _ [.ref 25, .ref 0] [.inr (0, [.ref 1, .ref 8, .ref 10, .ref 17, .null, .null, .null, .null, .null, .null, .int 0, .int 0, .int 0, .int 0, .int 0, .int 0, .null, .int 0]), .inr (1, [.int (Int32.ofInt (zmax 1 (zmin 5 a0))), .ref 2, .ref 3, .ref 4, .int 0, .ref 5, .ref 6, .ref 7, .int 0]), .inl (.int, 4, .inl (upd (upd (upd (upd (fun _ => 0) 0 (Int32.ofInt 1)) 1 (Int32.ofInt (1 * (zmax 1 (zmin 5 a0))))) 2 (Int32.ofInt ((1 * (zmax 1 (zmin 5 a0))) * (zmax 1 (zmin 5 a0))))) 3 (Int32.ofInt (((1 * (zmax 1 (zmin 5 a0))) * (zmax 1 (zmin 5 a0))) * (zmax 1 (zmin 5 a0)))))), .inl (.long, 8, .inr (.inl (fun _ => 0))), .inl (.int, 8, .inl (fun _ => 0)), .inl (.int, 1000, .inl (fun _ => 0)), .inl (.long, 1000, .inr (.inl (fun _ => 0))), .inl (.int, 12, .inl (fun _ => 0)), .inr (2, [.ref 9, .int 0, .int 0, .int 0, .int 0, .int 0, .long 0, .int 0]), .inl (.int, 600, .inl (fun _ => 0)), .inr (3, [.ref 8, .ref 1, .null, .int 0, .int 0, .int 0, .int 0, .int 0, .int 0, .ref 11, .ref 12, .ref 13, .ref 14, .ref 15, .ref 16, .int 0, .int 0]), .inl (.int, 20, .inl (fun _ => 0)), .inl (.int, 20, .inl (fun _ => 0)), .inl (.int, 20, .inl (fun _ => 0)), .inl (.int, 20, .inl (fun _ => 0)), .inl (.int, 20, .inl (fun _ => 0)), .inl (.long, 20, .inr (.inl (fun _ => 0))), .inr (4, [.ref 1, .ref 18, .ref 19, .int 0, .ref 20, .ref 21, .ref 22, .ref 23, .ref 24]), .inl (.long, 2750, .inr (.inl (fun _ => 0))), .inl (.int, 22, .inl (fun _ => 0)), .inl (.int, 20, .inl (fun _ => 0)), .inl (.long, 125, .inr (.inl (fun _ => 0))), .inl (.long, 10, .inr (.inl (fun _ => 0))), .inl (.long, 1000, .inr (.inl (fun _ => 0))), .inl (.long, 5000, .inr (.inl (fun _ => 0)))] (cR_C 25 1) [.inr (0, [.ref 1, .ref 8, .ref 10, .ref 17, .null, .null, .null, .null, .null, .null, .int 0, .int 0, .int 0, .int 0, .int 0, .int 0, .null, .int 0]), .inr (1, [.int (Int32.ofInt (zmax 1 (zmin 5 a0))), .ref 2, .ref 3, .ref 4, .int 0, .ref 5, .ref 6, .ref 7, .int 0]), .inl (.int, 4, .inl (upd (upd (upd (upd (fun _ => 0) 0 (Int32.ofInt 1)) 1 (Int32.ofInt (1 * (zmax 1 (zmin 5 a0))))) 2 (Int32.ofInt ((1 * (zmax 1 (zmin 5 a0))) * (zmax 1 (zmin 5 a0))))) 3 (Int32.ofInt (((1 * (zmax 1 (zmin 5 a0))) * (zmax 1 (zmin 5 a0))) * (zmax 1 (zmin 5 a0)))))), .inl (.long, 8, .inr (.inl (fun _ => 0))), .inl (.int, 8, .inl (fun _ => 0)), .inl (.int, 1000, .inl (fun _ => 0)), .inl (.long, 1000, .inr (.inl (fun _ => 0))), .inl (.int, 12, .inl (fun _ => 0)), .inr (2, [.ref 9, .int 0, .int 0, .int 0, .int 0, .int 0, .long 0, .int 0]), .inl (.int, 600, .inl (fun _ => 0)), .inr (3, [.ref 8, .ref 1, .null, .int 0, .int 0, .int 0, .int 0, .int 0, .int 0, .ref 11, .ref 12, .ref 13, .ref 14, .ref 15, .ref 16, .int 0, .int 0]), .inl (.int, 20, .inl (fun _ => 0)), .inl (.int, 20, .inl (fun _ => 0)), .inl (.int, 20, .inl (fun _ => 0)), .inl (.int, 20, .inl (fun _ => 0)), .inl (.int, 20, .inl (fun _ => 0)), .inl (.long, 20, .inr (.inl (fun _ => 0))), .inr (4, [.ref 1, .ref 18, .ref 19, .int 0, .ref 20, .ref 21, .ref 22, .ref 23, .ref 24]), .inl (.long, 2750, .inr (.inl (fun _ => 0))), .inl (.int, 22, .inl (fun _ => 0)), .inl (.int, 20, .inl (fun _ => 0)), .inl (.long, 125, .inr (.inl (fun _ => 0))), .inl (.long, 10, .inr (.inl (fun _ => 0))), .inl (.long, 1000, .inr (.inl (fun _ => 0))), .inl (.long, 5000, .inr (.inl (fun _ => 0))), .inr (5, [.ref 1, .int 0, .int 0, .ref 26, .ref 27]), .inl (.int, 5, .inl (fun _ => 0)), .inl (.int, 1440, .inl (fun _ => 0))] hM rfl rfl rfl rfl (xM_129 _) rfl (fun _ => rfl) rfl rfl (by omega) rfl rfl rfl (cR (by omega) rfl (by decide)) ?_
  refine r_put 84 0 [.inr (0, [.ref 1, .ref 8, .ref 10, .ref 17, .ref 25, .null, .null, .null, .null, .null, .int 0, .int 0, .int 0, .int 0, .int 0, .int 0, .null, .int 0]), .inr (1, [.int (Int32.ofInt (zmax 1 (zmin 5 a0))), .ref 2, .ref 3, .ref 4, .int 0, .ref 5, .ref 6, .ref 7, .int 0]), .inl (.int, 4, .inl (upd (upd (upd (upd (fun _ => 0) 0 (Int32.ofInt 1)) 1 (Int32.ofInt (1 * (zmax 1 (zmin 5 a0))))) 2 (Int32.ofInt ((1 * (zmax 1 (zmin 5 a0))) * (zmax 1 (zmin 5 a0))))) 3 (Int32.ofInt (((1 * (zmax 1 (zmin 5 a0))) * (zmax 1 (zmin 5 a0))) * (zmax 1 (zmin 5 a0)))))), .inl (.long, 8, .inr (.inl (fun _ => 0))), .inl (.int, 8, .inl (fun _ => 0)), .inl (.int, 1000, .inl (fun _ => 0)), .inl (.long, 1000, .inr (.inl (fun _ => 0))), .inl (.int, 12, .inl (fun _ => 0)), .inr (2, [.ref 9, .int 0, .int 0, .int 0, .int 0, .int 0, .long 0, .int 0]), .inl (.int, 600, .inl (fun _ => 0)), .inr (3, [.ref 8, .ref 1, .null, .int 0, .int 0, .int 0, .int 0, .int 0, .int 0, .ref 11, .ref 12, .ref 13, .ref 14, .ref 15, .ref 16, .int 0, .int 0]), .inl (.int, 20, .inl (fun _ => 0)), .inl (.int, 20, .inl (fun _ => 0)), .inl (.int, 20, .inl (fun _ => 0)), .inl (.int, 20, .inl (fun _ => 0)), .inl (.int, 20, .inl (fun _ => 0)), .inl (.long, 20, .inr (.inl (fun _ => 0))), .inr (4, [.ref 1, .ref 18, .ref 19, .int 0, .ref 20, .ref 21, .ref 22, .ref 23, .ref 24]), .inl (.long, 2750, .inr (.inl (fun _ => 0))), .inl (.int, 22, .inl (fun _ => 0)), .inl (.int, 20, .inl (fun _ => 0)), .inl (.long, 125, .inr (.inl (fun _ => 0))), .inl (.long, 10, .inr (.inl (fun _ => 0))), .inl (.long, 1000, .inr (.inl (fun _ => 0))), .inl (.long, 5000, .inr (.inl (fun _ => 0))), .inr (5, [.ref 1, .int 0, .int 0, .ref 26, .ref 27]), .inl (.int, 5, .inl (fun _ => 0)), .inl (.int, 1440, .inl (fun _ => 0))] hM rfl rfl rfl hb hB rfl rfl rfl rfl rfl rfl ?_
  refine g_aload_n 85 hM rfl rfl rfl ?_
  refine g_bipush 87 hM rfl rfl rfl ?_
  refine rr_newq 90 28 hM rfl rfl rfl ⟨by decide, by decide⟩ rfl rfl (by decide) ?_
  refine rr_put 93 hM rfl rfl rfl rfl rfl rfl ?_
  refine g_iconst 94 hM rfl rfl ?_
  refine g_istore_n 95 hM rfl rfl rfl ?_
  refine g_lv [(0, .ref 0), (2, .int (Int32.ofInt ((0 : Nat) : Int)))] rfl ⟨rfl, rfl, trivial⟩ ?_
  have g := cF_loop (k := k) (d := d) (n := zclamp a0) (fs := [.ref 1, .ref 8, .ref 10, .ref 17, .ref 25, .ref 28, .null, .null, .null, .null, .int 0, .int 0, .int 0, .int 0, .int 0, .int 0, .null, .int 0]) (by omega) rfl 17 0 rfl (cF2 (lv := []) (by omega))
  rw [← zclamp_eq a0] at g ⊢
  exact g
section ZLB
variable {k : zK} {d mi pc : Nat} {M : am_M} {lv : List (Nat × Value)} {st : List Value} {ah : am_H} {r : am_A × am_H}
theorem z_no2 {j : Nat} : am_at ah (am_big + j) = none := by
  unfold am_at
  rw [if_neg (by omega)]
theorem rr_kalen (p : Nat) (hM : xMT (zvz k.1) mi = some M) (hf : zf M pc = some .arraylength) (e : pc + 1 = p) (g : zgo k d mi (p, lv, .int (Int32.ofInt (k.2.1 : Int)) :: st) ah r) : zgo k d mi (pc, lv, .ref (am_big + 0) :: st) ah r := by
  subst e
  refine zgo_st hM hf ?_ g
  simp only [am_step, am_or, am_one, am_alen, z_no2, am_kalen, if_neg (z_nob 0), z_bsub, xkA, Int32.ofInt_eq_ofNat]
theorem rr_kiald (p : Nat) {i : Int} (hM : xMT (zvz k.1) mi = some M) (hf : zf M pc = some .iaload) (e : pc + 1 = p) (hL : k.2.1 ≤ 5760) (hi : 0 ≤ i ∧ i < k.2.1) (g : zgo k d mi (p, lv, .int (Int32.ofInt (gX k i)) :: st) ah r) : zgo k d mi (pc, lv, .int (Int32.ofInt i) :: .ref (am_big + 0) :: st) ah r := by
  subst e
  obtain ⟨h1, h2, h3⟩ := z_ix rfl hL hi
  refine zgo_st hM hf ?_ g
  simp only [am_step, am_or, am_one, am_iald, z_no2, am_kiald, if_neg (z_nob 0), z_bsub, xkA]
  rw [if_neg h1, h2]
  simp only [gX, Int32.ofInt_toInt]
end ZLB
/-- the script's first int, 0 if there is none -/
def zx0 (k : zK) : Int := if 0 < (k.2.1 : Int) then gX k 0 else 0
theorem zx0_R (k : zK) : zR (zx0 k) := by
  unfold zx0
  split
  · exact zR_toInt _
  · decide
theorem w_1 {k : zK} {d : Nat} {ah : am_H} (hL : k.2.1 ≤ 5760) : zgo k d 1 (0, [(0, .ref (am_big + 0)), (1, .int (Int32.ofInt 0))], []) ah (.inl (some (.int (Int32.ofInt (zx0 k)))), ah) := by
  have hM := xM_1 k.1
  have hr : zR (k.2.1 : Int) := ⟨by omega, by omega⟩
  refine g_iload_n 1 hM rfl rfl rfl ?_
  refine g_aload_n 2 hM rfl rfl rfl ?_
  refine rr_kalen 3 hM rfl rfl ?_
  by_cases h : 0 < (k.2.1 : Int)
  · refine g_ic_ge_f 6 12 hM rfl rfl rfl (zR_lit rfl) hr h ?_
    refine g_aload_n 7 hM rfl rfl rfl ?_
    refine g_iload_n 8 hM rfl rfl rfl ?_
    refine rr_kiald 9 hM rfl rfl hL ⟨by decide, h⟩ ?_
    refine g_goto 13 hM rfl rfl ?_
    rw [zx0, if_pos h]
    exact g_ret hM rfl rfl
  · refine g_ic_ge_t 12 hM rfl rfl (zR_lit rfl) hr h ?_
    refine g_iconst 13 hM rfl rfl ?_
    rw [zx0, if_neg h]
    exact g_ret hM rfl rfl

/-- the state at the law's loop: ints, longs, references -/
def zs0 (n : Int) : zS := (fun c i => match c with
    | 0 => if i = 12 then Int32.ofInt (-1) else 0
    | 1 => if i = 0 then Int32.ofInt n else 0
    | 2 => if i = 3 then Int32.ofInt (1 * n * n * n) else if i = 2 then Int32.ofInt (1 * n * n) else if i = 1 then Int32.ofInt (1 * n) else if i = 0 then Int32.ofInt 1 else 0
    | 177 => if i = 1 then Int32.ofInt n else if i = 5 then Int32.ofInt (-1) else 0
    | _ => 0, fun _ _ => 0, fun c i => match c with
    | 0 => 165
    | 28 => 29 + 8 * i.toNat
    | _ => 0)
theorem zRF_len (n : Int) : (zRF n).length = 177 := by
  unfold zRF
  rw [List.length_append, zA_len]
  rfl
theorem upd_ext {f g : Nat → Int32} (h : ∀ j, f j = g j) : f = g := funext h
set_option maxHeartbeats 4000000 in
set_option maxRecDepth 20000 in
theorem zs0_eq (n : Int) : (zRF n ++ cD_C 177 n) ++ [.inl (.long, 1, .inr (.inl (fun _ => 0)))] = hp (zs0 n) := by
  have e1 : zfi 17 = fun j => if j < 17 then some ((zs0 n).2.2 28 (j : Int)) else none := by
    rw [zfi_eq]
    funext j
    show _ = (if j < 17 then some (29 + 8 * ((j : Int)).toNat) else none)
    rw [Int.toNat_natCast]
  have e2 : (upd (upd (upd (upd (fun _ => 0) 0 (Int32.ofInt 1)) 1 (Int32.ofInt (1 * n))) 2 (Int32.ofInt (1 * n * n))) 3 (Int32.ofInt (1 * n * n * n))) = fun j : Nat => (zs0 n).1 2 (j : Int) := by
    funext j
    show _ = (if (j : Int) = 3 then Int32.ofInt (1 * n * n * n) else if (j : Int) = 2 then Int32.ofInt (1 * n * n) else if (j : Int) = 1 then Int32.ofInt (1 * n) else if (j : Int) = 0 then Int32.ofInt 1 else 0)
    unfold upd
    repeat' split
    all_goals first | rfl | (exfalso; omega)
  unfold zRF zA
  rw [e1, e2]
  rfl
set_option maxHeartbeats 4000000 in
theorem cL {k : zK} {d : Nat} {r : am_A × am_H} (hL : k.2.1 ≤ 5760) (hd : 4 ≤ d) (g : zgo k d 0 (33, [(0, .ref (am_big + 0)), (1, .ref 0), (2, .ref 177), (3, .ref 205), (4, .int (Int32.ofInt 1))], []) (hp (zs0 (zclamp (zx0 k))) ++ []) r) : zgo k d 0 (0, [(0, .ref (am_big + 0))], []) [] r := by
  have hM := xM_0 k.1
  rw [List.append_nil, ← zs0_eq] at g
  refine rr_new 3 0 hM rfl rfl rfl rfl (by decide) ?_
  refine g_dup 4 hM rfl rfl rfl ?_
  refine g_aload_n 5 hM rfl rfl rfl ?_
  refine g_iconst 6 hM rfl rfl ?_
  refine g_call 9 _ [.int (Int32.ofInt (zx0 k)), .ref 0, .ref 0] hM rfl rfl rfl rfl rfl (xM_1 _) rfl rfl rfl rfl (by omega) (w_1 hL) rfl ?_
  refine g_call 12 _ [.ref 0] hM rfl rfl rfl rfl rfl (xM_14 _) rfl rfl rfl rfl (by omega) (cF (zx0_R k) (by omega)) rfl ?_
  refine g_astore_n 13 hM rfl rfl rfl ?_
  refine rr_new 16 177 hM rfl rfl rfl (zRF_len _) (by decide) ?_
  refine g_dup 17 hM rfl rfl rfl ?_
  refine g_aload_n 18 hM rfl rfl rfl ?_
  refine g_iconst 19 hM rfl rfl ?_
  refine g_call 22 _ [.int (Int32.ofInt (zx0 k)), .ref 177, .ref 177] hM rfl rfl rfl rfl rfl (xM_1 _) rfl rfl rfl rfl (by omega) (w_1 hL) rfl ?_
  refine g_call 25 _ [.ref 177] hM rfl rfl rfl rfl rfl (xM_141 _) rfl rfl rfl rfl (by omega) (cD (b := 177) (zx0_R k) (by omega) (zRF_len _) (by decide)) rfl ?_
  refine g_astore_n 26 hM rfl rfl rfl ?_
  refine g_iconst 27 hM rfl rfl ?_
  refine rr_newa 29 205 hM rfl rfl ⟨by decide, by decide⟩ rfl rfl rfl (by rw [List.length_append, zRF_len]; rfl) (by decide) ?_
  refine g_astore_n 30 hM rfl rfl rfl ?_
  refine g_iconst 31 hM rfl rfl ?_
  refine g_istore 33 hM rfl rfl rfl ?_
  exact g_lv [(0, .ref (am_big + 0)), (1, .ref 0), (2, .ref 177), (3, .ref 205), (4, .int (Int32.ofInt 1))] rfl ⟨rfl, rfl, rfl, rfl, rfl, trivial⟩ g
