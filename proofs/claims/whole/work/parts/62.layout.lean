/-! THE PURE LAYER: where everything lies, and a lemma for each kind of step. By program. -/
/-- what lies in a cell: an array (type, length), or an object (class, of each field its kind: 0 int, 1 long, 2 a fixed cell, 3 a cell that changes, 4 a cell counted from this one, 5 a cell that changes or null) -/
abbrev zLy : Type := (FieldType × Nat) ⊕ (Nat × List (Nat × Nat))
def zlays : List (List (Nat × zLy)) := [[(0, .inr (0, [(2, 1), (2, 8), (2, 10), (2, 17), (2, 25), (2, 28), (3, 0), (2, 173), (2, 174), (2, 175), (0, 0), (0, 0), (0, 0), (0, 0), (0, 0), (0, 0), (2, 176), (0, 0)])), (1, .inr (1, [(0, 0), (2, 2), (2, 3), (2, 4), (0, 0), (2, 5), (2, 6), (2, 7), (0, 0)])), (2, .inl (.int, 4)), (3, .inl (.long, 8)), (4, .inl (.int, 8)), (5, .inl (.int, 1000)), (6, .inl (.long, 1000)), (7, .inl (.int, 12)), (8, .inr (2, [(2, 9), (0, 0), (0, 0), (0, 0), (0, 0), (0, 0), (1, 0), (0, 0)])), (9, .inl (.int, 600)), (10, .inr (3, [(2, 8), (2, 1), (5, 0), (0, 0), (0, 0), (0, 0), (0, 0), (0, 0), (0, 0), (2, 11), (2, 12), (2, 13), (2, 14), (2, 15), (2, 16), (0, 0), (0, 0)])), (11, .inl (.int, 20)), (12, .inl (.int, 20)), (13, .inl (.int, 20)), (14, .inl (.int, 20)), (15, .inl (.int, 20))],
  [(16, .inl (.long, 20)), (17, .inr (4, [(2, 1), (2, 18), (2, 19), (0, 0), (2, 20), (2, 21), (2, 22), (2, 23), (2, 24)])), (18, .inl (.long, 2750)), (19, .inl (.int, 22)), (20, .inl (.int, 20)), (21, .inl (.long, 125)), (22, .inl (.long, 10)), (23, .inl (.long, 1000)), (24, .inl (.long, 5000)), (25, .inr (5, [(2, 1), (0, 0), (0, 0), (2, 26), (2, 27)])), (26, .inl (.int, 5)), (27, .inl (.int, 1440)), (28, .inl (.object "RelationFinder$Code", 17)), (29, .inr (6, [(0, 0), (4, 1), (4, 2), (4, 3), (4, 4), (4, 5), (4, 6), (4, 7), (0, 0)])), (30, .inl (.int, 200)), (31, .inl (.int, 200))],
  [(32, .inl (.int, 200)), (33, .inl (.int, 200)), (34, .inl (.int, 200)), (35, .inl (.int, 200)), (36, .inl (.int, 200)), (37, .inr (6, [(0, 0), (4, 1), (4, 2), (4, 3), (4, 4), (4, 5), (4, 6), (4, 7), (0, 0)])), (38, .inl (.int, 200)), (39, .inl (.int, 200)), (40, .inl (.int, 200)), (41, .inl (.int, 200)), (42, .inl (.int, 200)), (43, .inl (.int, 200)), (44, .inl (.int, 200)), (45, .inr (6, [(0, 0), (4, 1), (4, 2), (4, 3), (4, 4), (4, 5), (4, 6), (4, 7), (0, 0)])), (46, .inl (.int, 200)), (47, .inl (.int, 200))],
  [(48, .inl (.int, 200)), (49, .inl (.int, 200)), (50, .inl (.int, 200)), (51, .inl (.int, 200)), (52, .inl (.int, 200)), (53, .inr (6, [(0, 0), (4, 1), (4, 2), (4, 3), (4, 4), (4, 5), (4, 6), (4, 7), (0, 0)])), (54, .inl (.int, 200)), (55, .inl (.int, 200)), (56, .inl (.int, 200)), (57, .inl (.int, 200)), (58, .inl (.int, 200)), (59, .inl (.int, 200)), (60, .inl (.int, 200)), (61, .inr (6, [(0, 0), (4, 1), (4, 2), (4, 3), (4, 4), (4, 5), (4, 6), (4, 7), (0, 0)])), (62, .inl (.int, 200)), (63, .inl (.int, 200))],
  [(64, .inl (.int, 200)), (65, .inl (.int, 200)), (66, .inl (.int, 200)), (67, .inl (.int, 200)), (68, .inl (.int, 200)), (69, .inr (6, [(0, 0), (4, 1), (4, 2), (4, 3), (4, 4), (4, 5), (4, 6), (4, 7), (0, 0)])), (70, .inl (.int, 200)), (71, .inl (.int, 200)), (72, .inl (.int, 200)), (73, .inl (.int, 200)), (74, .inl (.int, 200)), (75, .inl (.int, 200)), (76, .inl (.int, 200)), (77, .inr (6, [(0, 0), (4, 1), (4, 2), (4, 3), (4, 4), (4, 5), (4, 6), (4, 7), (0, 0)])), (78, .inl (.int, 200)), (79, .inl (.int, 200))],
  [(80, .inl (.int, 200)), (81, .inl (.int, 200)), (82, .inl (.int, 200)), (83, .inl (.int, 200)), (84, .inl (.int, 200)), (85, .inr (6, [(0, 0), (4, 1), (4, 2), (4, 3), (4, 4), (4, 5), (4, 6), (4, 7), (0, 0)])), (86, .inl (.int, 200)), (87, .inl (.int, 200)), (88, .inl (.int, 200)), (89, .inl (.int, 200)), (90, .inl (.int, 200)), (91, .inl (.int, 200)), (92, .inl (.int, 200)), (93, .inr (6, [(0, 0), (4, 1), (4, 2), (4, 3), (4, 4), (4, 5), (4, 6), (4, 7), (0, 0)])), (94, .inl (.int, 200)), (95, .inl (.int, 200))],
  [(96, .inl (.int, 200)), (97, .inl (.int, 200)), (98, .inl (.int, 200)), (99, .inl (.int, 200)), (100, .inl (.int, 200)), (101, .inr (6, [(0, 0), (4, 1), (4, 2), (4, 3), (4, 4), (4, 5), (4, 6), (4, 7), (0, 0)])), (102, .inl (.int, 200)), (103, .inl (.int, 200)), (104, .inl (.int, 200)), (105, .inl (.int, 200)), (106, .inl (.int, 200)), (107, .inl (.int, 200)), (108, .inl (.int, 200)), (109, .inr (6, [(0, 0), (4, 1), (4, 2), (4, 3), (4, 4), (4, 5), (4, 6), (4, 7), (0, 0)])), (110, .inl (.int, 200)), (111, .inl (.int, 200))],
  [(112, .inl (.int, 200)), (113, .inl (.int, 200)), (114, .inl (.int, 200)), (115, .inl (.int, 200)), (116, .inl (.int, 200)), (117, .inr (6, [(0, 0), (4, 1), (4, 2), (4, 3), (4, 4), (4, 5), (4, 6), (4, 7), (0, 0)])), (118, .inl (.int, 200)), (119, .inl (.int, 200)), (120, .inl (.int, 200)), (121, .inl (.int, 200)), (122, .inl (.int, 200)), (123, .inl (.int, 200)), (124, .inl (.int, 200)), (125, .inr (6, [(0, 0), (4, 1), (4, 2), (4, 3), (4, 4), (4, 5), (4, 6), (4, 7), (0, 0)])), (126, .inl (.int, 200)), (127, .inl (.int, 200))],
  [(128, .inl (.int, 200)), (129, .inl (.int, 200)), (130, .inl (.int, 200)), (131, .inl (.int, 200)), (132, .inl (.int, 200)), (133, .inr (6, [(0, 0), (4, 1), (4, 2), (4, 3), (4, 4), (4, 5), (4, 6), (4, 7), (0, 0)])), (134, .inl (.int, 200)), (135, .inl (.int, 200)), (136, .inl (.int, 200)), (137, .inl (.int, 200)), (138, .inl (.int, 200)), (139, .inl (.int, 200)), (140, .inl (.int, 200)), (141, .inr (6, [(0, 0), (4, 1), (4, 2), (4, 3), (4, 4), (4, 5), (4, 6), (4, 7), (0, 0)])), (142, .inl (.int, 200)), (143, .inl (.int, 200))],
  [(144, .inl (.int, 200)), (145, .inl (.int, 200)), (146, .inl (.int, 200)), (147, .inl (.int, 200)), (148, .inl (.int, 200)), (149, .inr (6, [(0, 0), (4, 1), (4, 2), (4, 3), (4, 4), (4, 5), (4, 6), (4, 7), (0, 0)])), (150, .inl (.int, 200)), (151, .inl (.int, 200)), (152, .inl (.int, 200)), (153, .inl (.int, 200)), (154, .inl (.int, 200)), (155, .inl (.int, 200)), (156, .inl (.int, 200)), (157, .inr (6, [(0, 0), (4, 1), (4, 2), (4, 3), (4, 4), (4, 5), (4, 6), (4, 7), (0, 0)])), (158, .inl (.int, 200)), (159, .inl (.int, 200))],
  [(160, .inl (.int, 200)), (161, .inl (.int, 200)), (162, .inl (.int, 200)), (163, .inl (.int, 200)), (164, .inl (.int, 200)), (165, .inr (6, [(0, 0), (4, 1), (4, 2), (4, 3), (4, 4), (4, 5), (4, 6), (4, 7), (0, 0)])), (166, .inl (.int, 200)), (167, .inl (.int, 200)), (168, .inl (.int, 200)), (169, .inl (.int, 200)), (170, .inl (.int, 200)), (171, .inl (.int, 200)), (172, .inl (.int, 200)), (173, .inl (.long, 1088)), (174, .inl (.long, 17)), (175, .inl (.long, 64))],
  [(176, .inl (.boolean, 125)), (177, .inr (7, [(0, 0), (0, 0), (2, 178), (0, 0), (0, 0), (0, 0), (0, 0), (2, 179), (2, 180), (2, 181), (0, 0), (2, 182), (2, 183), (0, 0), (2, 184), (2, 185), (2, 186), (2, 187), (0, 0), (0, 0), (2, 188), (0, 0), (0, 0), (1, 0), (1, 0), (0, 0), (0, 0), (0, 0), (0, 0), (1, 0), (0, 0), (0, 0), (2, 189), (2, 190), (2, 191), (2, 192), (2, 193), (2, 194), (0, 0), (2, 195), (0, 0), (0, 0), (2, 196), (2, 197), (2, 198), (2, 199), (0, 0), (1, 0), (1, 0), (2, 200), (2, 201), (2, 202), (2, 203), (0, 0), (2, 204)])), (178, .inl (.int, 600)), (179, .inl (.long, 8)), (180, .inl (.int, 8)), (181, .inl (.int, 1000)), (182, .inl (.int, 12)), (183, .inl (.int, 12)), (184, .inl (.int, 5760)), (185, .inl (.int, 5760)), (186, .inl (.int, 5760)), (187, .inl (.int, 18)), (188, .inl (.boolean, 16)), (189, .inl (.int, 64)), (190, .inl (.int, 64)), (191, .inl (.int, 64))],
  [(192, .inl (.int, 64)), (193, .inl (.int, 64)), (194, .inl (.long, 64)), (195, .inl (.int, 64)), (196, .inl (.long, 8)), (197, .inl (.long, 8)), (198, .inl (.long, 128)), (199, .inl (.long, 128)), (200, .inl (.int, 32)), (201, .inl (.int, 32)), (202, .inl (.int, 32)), (203, .inl (.int, 32)), (204, .inl (.int, 5)), (205, .inl (.long, 1))]]
def zlay : Nat → Option zLy := am_lk2 zlays
/-- ints, longs, references by cell and place -/
abbrev zS : Type := (Nat → Int → Int32) × (Nat → Int → BitVec 64) × (Nat → Int → Nat)
def gI (s : zS) (c : Nat) (i : Int) : Int := (s.1 c i).toInt
def gJ (s : zS) (c : Nat) (i : Int) : BitVec 64 := s.2.1 c i
def gP (s : zS) (c : Nat) (i : Int) : Nat := s.2.2 c i
def sI (s : zS) (c : Nat) (i v : Int) : zS := (fun c' i' => if c' = c then (if i' = i then Int32.ofInt v else s.1 c' i') else s.1 c' i', s.2)
def sJ (s : zS) (c : Nat) (i : Int) (v : BitVec 64) : zS := (s.1, fun c' i' => if c' = c then (if i' = i then v else s.2.1 c' i') else s.2.1 c' i', s.2.2)
def sP (s : zS) (c : Nat) (i : Int) (v : Nat) : zS := (s.1, s.2.1, fun c' i' => if c' = c then (if i' = i then v else s.2.2 c' i') else s.2.2 c' i')
/-- longs copied from one array to another -/
def zcp (s : zS) (a : Nat) (i : Int) (b : Nat) (j n : Int) : zS := (s.1, fun c' i' => if c' = b then (if j ≤ i' ∧ i' < j + n then s.2.1 a (i + (i' - j)) else s.2.1 c' i') else s.2.1 c' i', s.2.2)
theorem zR_gI (s : zS) (c : Nat) (i : Int) : zR (gI s c i) := zR_toInt _
def zfv (s : zS) (c j : Nat) (q : Nat × Nat) : Value := match q.1 with
  | 0 => .int (s.1 c (j : Int))
  | 1 => .long (Int64.ofBitVec (s.2.1 c (j : Int)))
  | 2 => .ref q.2
  | 3 => .ref (s.2.2 c (j : Int))
  | 4 => .ref (c + q.2)
  | _ => (match s.2.2 c (j : Int) with
    | 0 => .null
    | n => .ref n)
def zarr (s : zS) (c : Nat) (ty : FieldType) (n : Nat) : am_C := match ty with
  | .long => .inl (.long, n, .inr (.inl (fun j => Int64.ofBitVec (s.2.1 c (j : Int)))))
  | .object C => .inl (.object C, n, .inr (.inr (.inr (.inr (fun j => if j < n then some (s.2.2 c (j : Int)) else none)))))
  | ty => .inl (ty, n, .inl (fun j => s.1 c (j : Int)))
def zmk (s : zS) (c : Nat) : am_C := match zlay c with
  | some (.inl (ty, n)) => zarr s c ty n
  | some (.inr (ci, fs)) => .inr (ci, fs.mapIdx (fun j q => zfv s c j q))
  | none => .inr (0, [])
def hp (s : zS) : am_H := (List.range 206).map (zmk s)
theorem zlay_lt {c : Nat} {q : zLy} (h : zlay c = some q) : c < 206 := by
  have h1 := am_lk2_mem h
  have h2 := List.all_eq_true.mp (show zlays.flatten.all (fun q => decide (q.1 < 206)) = true from by decide +kernel) _ h1
  exact of_decide_eq_true h2
theorem zlay_len {c n : Nat} {ty : FieldType} (h : zlay c = some (.inl (ty, n))) : n ≤ 5760 := by
  have h1 := am_lk2_mem h
  have h2 := List.all_eq_true.mp (show zlays.flatten.all (fun q => match q.2 with | .inl r => decide (r.2 ≤ 5760) | .inr _ => true) = true from by decide +kernel) _ h1
  exact of_decide_eq_true h2
theorem hp_len (s : zS) : (hp s).length = 206 := by rw [hp, List.length_map, List.length_range]
theorem z_at {s : zS} {x : am_H} {c : Nat} {q : zLy} (h : zlay c = some q) : am_at (hp s ++ x) c = some (zmk s c) := by
  have hc := zlay_lt h
  unfold am_at
  rw [if_pos (by unfold am_big; omega), List.getElem?_append_left (by rw [hp_len]; exact hc), hp, List.getElem?_map, List.getElem?_range hc]
  rfl
theorem z_set {s s' : zS} {x : am_H} {c : Nat} {q : zLy} (h : zlay c = some q) (hn : ∀ c', c' ≠ c → zmk s' c' = zmk s c') : (hp s ++ x).set c (zmk s' c) = hp s' ++ x := by
  have hc := zlay_lt h
  rw [List.set_append_left _ _ (by rw [hp_len]; exact hc)]
  congr 1
  apply List.ext_getElem?
  intro j
  rw [List.getElem?_set, hp_len, hp, hp, List.getElem?_map, List.getElem?_map]
  by_cases hj : c = j
  · subst hj
    rw [if_pos rfl, if_pos hc, List.getElem?_range hc]
    rfl
  · rw [if_neg hj]
    by_cases hl : j < 206
    · rw [List.getElem?_range hl]
      show some (zmk s j) = some (zmk s' j)
      rw [hn j (fun e => hj e.symm)]
    · rw [List.getElem?_eq_none (by rw [List.length_range]; omega)]
      rfl
theorem zmk_sI {s : zS} {c c' : Nat} {i v : Int} (h : c' ≠ c) : zmk (sI s c i v) c' = zmk s c' := by
  have e : (sI s c i v).1 c' = s.1 c' := by funext j; show (if c' = c then _ else _) = _; rw [if_neg h]
  unfold zmk zarr zfv
  rw [e]
  rfl
theorem zmk_sJ {s : zS} {c c' : Nat} {i : Int} {v : BitVec 64} (h : c' ≠ c) : zmk (sJ s c i v) c' = zmk s c' := by
  have e : (sJ s c i v).2.1 c' = s.2.1 c' := by funext j; show (if c' = c then _ else _) = _; rw [if_neg h]
  unfold zmk zarr zfv
  rw [e]
  rfl
theorem zmk_sP {s : zS} {c c' : Nat} {i : Int} {v : Nat} (h : c' ≠ c) : zmk (sP s c i v) c' = zmk s c' := by
  have e : (sP s c i v).2.2 c' = s.2.2 c' := by funext j; show (if c' = c then _ else _) = _; rw [if_neg h]
  unfold zmk zarr zfv
  rw [e]
  rfl
theorem zmk_cp {s : zS} {a b c' : Nat} {i j n : Int} (h : c' ≠ b) : zmk (zcp s a i b j n) c' = zmk s c' := by
  have e : (zcp s a i b j n).2.1 c' = s.2.1 c' := by funext j; show (if c' = b then _ else _) = _; rw [if_neg h]
  unfold zmk zarr zfv
  rw [e]
  rfl
theorem zmk_arr {s : zS} {c n : Nat} {ty : FieldType} (h : zlay c = some (.inl (ty, n))) : zmk s c = zarr s c ty n := by unfold zmk; rw [h]
theorem zmk_obj {s : zS} {c ci : Nat} {fs : List (Nat × Nat)} (h : zlay c = some (.inr (ci, fs))) : zmk s c = .inr (ci, fs.mapIdx (fun j q => zfv s c j q)) := by unfold zmk; rw [h]
theorem z_fld {s : zS} {c j : Nat} {fs : List (Nat × Nat)} {q : Nat × Nat} (hj : fs[j]? = some q) : (fs.mapIdx (fun j q => zfv s c j q))[j]? = some (zfv s c j q) := by
  rw [List.getElem?_mapIdx, hj]
  rfl
theorem z_fset {s s' : zS} {c j : Nat} {fs : List (Nat × Nat)} {q : Nat × Nat} (hj : fs[j]? = some q) (ho : ∀ j' q', j' ≠ j → zfv s' c j' q' = zfv s c j' q') : (fs.mapIdx (fun j q => zfv s c j q)).set j (zfv s' c j q) = fs.mapIdx (fun j q => zfv s' c j q) := by
  apply List.ext_getElem?
  intro m
  rw [List.getElem?_set, List.length_mapIdx, List.getElem?_mapIdx, List.getElem?_mapIdx]
  have hl : j < fs.length := (List.getElem?_eq_some_iff.mp hj).1
  by_cases e : j = m
  · subst e
    rw [if_pos rfl, if_pos hl, hj]
    rfl
  · rw [if_neg e]
    cases hm : fs[m]? with
    | none => rfl
    | some q' =>
      show some (zfv s c m q') = some (zfv s' c m q')
      rw [ho m q' (fun e' => e e'.symm)]
theorem zfv_sI {s : zS} {c j j' : Nat} {v : Int} {q : Nat × Nat} (h : j' ≠ j) : zfv (sI s c (j : Int) v) c j' q = zfv s c j' q := by
  have e : (sI s c (j : Int) v).1 c (j' : Int) = s.1 c (j' : Int) := by
    show (if c = c then (if (j' : Int) = (j : Int) then _ else _) else _) = _
    rw [if_pos rfl, if_neg (by omega)]
  unfold zfv
  rw [e]
  rfl
theorem zfv_sJ {s : zS} {c j j' : Nat} {v : BitVec 64} {q : Nat × Nat} (h : j' ≠ j) : zfv (sJ s c (j : Int) v) c j' q = zfv s c j' q := by
  have e : (sJ s c (j : Int) v).2.1 c (j' : Int) = s.2.1 c (j' : Int) := by
    show (if c = c then (if (j' : Int) = (j : Int) then _ else _) else _) = _
    rw [if_pos rfl, if_neg (by omega)]
  unfold zfv
  rw [e]
  rfl
theorem zfv_sP {s : zS} {c j j' : Nat} {v : Nat} {q : Nat × Nat} (h : j' ≠ j) : zfv (sP s c (j : Int) v) c j' q = zfv s c j' q := by
  have e : (sP s c (j : Int) v).2.2 c (j' : Int) = s.2.2 c (j' : Int) := by
    show (if c = c then (if (j' : Int) = (j : Int) then _ else _) else _) = _
    rw [if_pos rfl, if_neg (by omega)]
  unfold zfv
  rw [e]
  rfl

section ZGO
variable {k : zK} {d mi pc : Nat} {M : am_M} {lv : List (Nat × Value)} {st : List Value} {ah ah' : am_H} {r : am_A × am_H} {s : zS} {x : am_H} {i : Instr} {f' : am_F}
theorem zgo_st (hM : xMT (zvz k.1) mi = some M) (hf : zf M pc = some i) (hs : am_step xcl xfty xtyl (xkA k.2.1 k.2.2) xkF M i (pc, lv, st) ah = some (f', ah')) (g : zgo k d mi f' ah' r) : zgo k d mi (pc, lv, st) ah r := by
  obtain ⟨n, hn⟩ := g
  obtain ⟨len, hI, hX, hp⟩ := zf_spec hf
  refine ⟨n + 1, ?_⟩
  simp only [am_exec, hM, hI, hX, zpl_ret hp, zpl_cal hp, hs, hn]
theorem zgo_one {o : Option am_F} (hM : xMT (zvz k.1) mi = some M) (hf : zf M pc = some i) (hs : am_step xcl xfty xtyl (xkA k.2.1 k.2.2) xkF M i (pc, lv, st) ah = am_one o ah) (ho : o = some f') (g : zgo k d mi f' ah r) : zgo k d mi (pc, lv, st) ah r := zgo_st hM hf (by rw [hs, ho]; rfl) g
theorem zgo_or {o o2 : Option am_F} (hM : xMT (zvz k.1) mi = some M) (hf : zf M pc = some i) (hs : am_step xcl xfty xtyl (xkA k.2.1 k.2.2) xkF M i (pc, lv, st) ah = am_or o o2 ah) (ho : o = some f') (g : zgo k d mi f' ah r) : zgo k d mi (pc, lv, st) ah r := zgo_st hM hf (by rw [hs, ho]; rfl) g
theorem zgo_or2 {o o2 : Option am_F} (hM : xMT (zvz k.1) mi = some M) (hf : zf M pc = some i) (hs : am_step xcl xfty xtyl (xkA k.2.1 k.2.2) xkF M i (pc, lv, st) ah = am_or o o2 ah) (ho : o = none) (ho2 : o2 = some f') (g : zgo k d mi f' ah r) : zgo k d mi (pc, lv, st) ah r := zgo_st hM hf (by rw [hs, ho, ho2]; rfl) g
theorem zgo_mono {d' : Nat} {lv' : List (Nat × Value)} (hd : d ≤ d') (hk : zp_kd lv = true) (hl : zp_le lv lv') (g : zgo k d mi (pc, lv, st) ah r) : zgo k d' mi (pc, lv', st) ah r := by
  obtain ⟨n, hn⟩ := g
  exact ⟨n, zp_mono n d mi pc lv st ah r hn n d' lv' (Nat.le_refl _) hd hk hl⟩
def zsub : List (Nat × Value) → List (Nat × Value) → Prop
  | [], _ => True
  | q :: t, lv => am_ld lv q.1 = some q.2 ∧ zsub t lv
theorem zsub_le : ∀ {a b : List (Nat × Value)}, zsub a b → zp_le a b
  | [], _, _ => fun _ _ h => by cases h
  | q :: t, b, h => fun i v hv => by
    rw [zp_ld_cons] at hv
    split at hv
    · next e => cases hv; rw [← e]; exact h.1
    · exact zsub_le h.2 i v hv
/-- on with fewer locals -/
theorem g_lv (lv0 : List (Nat × Value)) (hk : zp_kd lv0 = true) (hl : zsub lv0 lv) (g : zgo k d mi (pc, lv0, st) ah r) : zgo k d mi (pc, lv, st) ah r := zgo_mono (Nat.le_refl _) hk (zsub_le hl) g

theorem g_iload (p : Nat) {j : Nat} {v : Int32} (hM : xMT (zvz k.1) mi = some M) (hf : zf M pc = some (.iload j)) (e : pc + 2 = p) (hl : am_ld lv j = some (.int v)) (g : zgo k d mi (p, lv, .int v :: st) (ah) r) : zgo k d mi (pc, lv, st) (ah) r := by
  subst e
  exact zgo_st hM hf (by simp only [am_step, am_one, am_P, am_ldi, hl]) g
theorem g_iload_n (p : Nat) {j : Fin 4} {v : Int32} (hM : xMT (zvz k.1) mi = some M) (hf : zf M pc = some (.iload_n j)) (e : pc + 1 = p) (hl : am_ld lv j.val = some (.int v)) (g : zgo k d mi (p, lv, .int v :: st) (ah) r) : zgo k d mi (pc, lv, st) (ah) r := by
  subst e
  exact zgo_st hM hf (by simp only [am_step, am_one, am_P, am_ldi, hl]) g
theorem g_lload (p : Nat) {j : Nat} {v : Int64} (hM : xMT (zvz k.1) mi = some M) (hf : zf M pc = some (.lload j)) (e : pc + 2 = p) (hl : am_ld lv j = some (.long v)) (g : zgo k d mi (p, lv, .long v :: st) (ah) r) : zgo k d mi (pc, lv, st) (ah) r := by
  subst e
  exact zgo_st hM hf (by simp only [am_step, am_one, am_P, am_ldl, hl]) g
theorem g_lload_n (p : Nat) {j : Fin 4} {v : Int64} (hM : xMT (zvz k.1) mi = some M) (hf : zf M pc = some (.lload_n j)) (e : pc + 1 = p) (hl : am_ld lv j.val = some (.long v)) (g : zgo k d mi (p, lv, .long v :: st) (ah) r) : zgo k d mi (pc, lv, st) (ah) r := by
  subst e
  exact zgo_st hM hf (by simp only [am_step, am_one, am_P, am_ldl, hl]) g
theorem g_aload (p : Nat) {j v : Nat} (hM : xMT (zvz k.1) mi = some M) (hf : zf M pc = some (.aload j)) (e : pc + 2 = p) (hl : am_ld lv j = some (.ref v)) (g : zgo k d mi (p, lv, .ref v :: st) (ah) r) : zgo k d mi (pc, lv, st) (ah) r := by
  subst e
  exact zgo_st hM hf (by simp only [am_step, am_one, am_P, am_lda, hl]) g
theorem g_aload_n (p : Nat) {j : Fin 4} {v : Nat} (hM : xMT (zvz k.1) mi = some M) (hf : zf M pc = some (.aload_n j)) (e : pc + 1 = p) (hl : am_ld lv j.val = some (.ref v)) (g : zgo k d mi (p, lv, .ref v :: st) (ah) r) : zgo k d mi (pc, lv, st) (ah) r := by
  subst e
  exact zgo_st hM hf (by simp only [am_step, am_one, am_P, am_lda, hl]) g
theorem g_aload_null (p : Nat) {j : Fin 4} (hM : xMT (zvz k.1) mi = some M) (hf : zf M pc = some (.aload_n j)) (e : pc + 1 = p) (hl : am_ld lv j.val = some .null) (g : zgo k d mi (p, lv, .null :: st) (ah) r) : zgo k d mi (pc, lv, st) (ah) r := by
  subst e
  exact zgo_st hM hf (by simp only [am_step, am_one, am_P, am_lda, hl]) g
theorem g_istore (p : Nat) {j : Nat} {v : Int32} (hM : xMT (zvz k.1) mi = some M) (hf : zf M pc = some (.istore j)) (e : pc + 2 = p) (hj : Nat.ble (j + 1) (am_n M) = true) (g : zgo k d mi (p, am_st1 lv j (.int v), st) (ah) r) : zgo k d mi (pc, lv, .int v :: st) (ah) r := by
  subst e
  exact zgo_st hM hf (by simp only [am_step, am_one, am_P, am_sti]; rw [if_pos (Nat.lt_of_succ_le (Nat.le_of_ble_eq_true hj))]) g
theorem g_istore_n (p : Nat) {j : Fin 4} {v : Int32} (hM : xMT (zvz k.1) mi = some M) (hf : zf M pc = some (.istore_n j)) (e : pc + 1 = p) (hj : Nat.ble (j.val + 1) (am_n M) = true) (g : zgo k d mi (p, am_st1 lv j.val (.int v), st) (ah) r) : zgo k d mi (pc, lv, .int v :: st) (ah) r := by
  subst e
  exact zgo_st hM hf (by simp only [am_step, am_one, am_P, am_sti]; rw [if_pos (Nat.lt_of_succ_le (Nat.le_of_ble_eq_true hj))]) g
theorem g_lstore (p : Nat) {j : Nat} {v : Int64} (hM : xMT (zvz k.1) mi = some M) (hf : zf M pc = some (.lstore j)) (e : pc + 2 = p) (hj : Nat.ble (j + 1 + 1) (am_n M) = true) (g : zgo k d mi (p, am_st2 lv j (.long v), st) (ah) r) : zgo k d mi (pc, lv, .long v :: st) (ah) r := by
  subst e
  exact zgo_st hM hf (by simp only [am_step, am_one, am_P, am_stl]; rw [if_pos (Nat.lt_of_succ_le (Nat.le_of_ble_eq_true hj))]) g
theorem g_lstore_n (p : Nat) {j : Fin 4} {v : Int64} (hM : xMT (zvz k.1) mi = some M) (hf : zf M pc = some (.lstore_n j)) (e : pc + 1 = p) (hj : Nat.ble (j.val + 1 + 1) (am_n M) = true) (g : zgo k d mi (p, am_st2 lv j.val (.long v), st) (ah) r) : zgo k d mi (pc, lv, .long v :: st) (ah) r := by
  subst e
  exact zgo_st hM hf (by simp only [am_step, am_one, am_P, am_stl]; rw [if_pos (Nat.lt_of_succ_le (Nat.le_of_ble_eq_true hj))]) g
theorem g_astore (p : Nat) {j : Nat} {v : Nat} (hM : xMT (zvz k.1) mi = some M) (hf : zf M pc = some (.astore j)) (e : pc + 2 = p) (hj : Nat.ble (j + 1) (am_n M) = true) (g : zgo k d mi (p, am_st1 lv j (.ref v), st) (ah) r) : zgo k d mi (pc, lv, .ref v :: st) (ah) r := by
  subst e
  exact zgo_st hM hf (by simp only [am_step, am_one, am_P, am_sta]; rw [if_pos (Nat.lt_of_succ_le (Nat.le_of_ble_eq_true hj))]) g
theorem g_astore_n (p : Nat) {j : Fin 4} {v : Nat} (hM : xMT (zvz k.1) mi = some M) (hf : zf M pc = some (.astore_n j)) (e : pc + 1 = p) (hj : Nat.ble (j.val + 1) (am_n M) = true) (g : zgo k d mi (p, am_st1 lv j.val (.ref v), st) (ah) r) : zgo k d mi (pc, lv, .ref v :: st) (ah) r := by
  subst e
  exact zgo_st hM hf (by simp only [am_step, am_one, am_P, am_sta]; rw [if_pos (Nat.lt_of_succ_le (Nat.le_of_ble_eq_true hj))]) g
theorem g_iinc (p : Nat) {j : Nat} {n v : Int} (hM : xMT (zvz k.1) mi = some M) (hf : zf M pc = some (.iinc j n)) (e : pc + 3 = p) (hl : am_ld lv j = some (.int (Int32.ofInt v))) (hj : Nat.ble (j + 1) (am_n M) = true) (g : zgo k d mi (p, am_st1 lv j (.int (Int32.ofInt (v + n))), st) (ah) r) : zgo k d mi (pc, lv, st) (ah) r := by
  subst e
  exact zgo_st hM hf (by simp only [am_step, am_one, am_P, am_inc, hl]; rw [if_pos (Nat.lt_of_succ_le (Nat.le_of_ble_eq_true hj)), Int32.ofInt_add]) g
theorem g_iconst (p : Nat) {n : Int} (hM : xMT (zvz k.1) mi = some M) (hf : zf M pc = some (.iconst n)) (e : pc + 1 = p) (g : zgo k d mi (p, lv, .int (Int32.ofInt n) :: st) (ah) r) : zgo k d mi (pc, lv, st) (ah) r := by
  subst e
  exact zgo_st hM hf rfl g
theorem g_bipush (p : Nat) {n : Int} (hM : xMT (zvz k.1) mi = some M) (hf : zf M pc = some (.bipush n)) (e : pc + 2 = p) (hn : decide (Int8.minValue.toInt ≤ n ∧ n ≤ Int8.maxValue.toInt) = true) (g : zgo k d mi (p, lv, .int (Int32.ofInt n) :: st) (ah) r) : zgo k d mi (pc, lv, st) (ah) r := by
  subst e
  exact zgo_st hM hf (by simp only [am_step, am_one, am_P, Int8.toInt32_ofInt (of_decide_eq_true hn).1 (of_decide_eq_true hn).2]) g
theorem g_sipush (p : Nat) {n : Int} (hM : xMT (zvz k.1) mi = some M) (hf : zf M pc = some (.sipush n)) (e : pc + 3 = p) (hn : decide (Int16.minValue.toInt ≤ n ∧ n ≤ Int16.maxValue.toInt) = true) (g : zgo k d mi (p, lv, .int (Int32.ofInt n) :: st) (ah) r) : zgo k d mi (pc, lv, st) (ah) r := by
  subst e
  exact zgo_st hM hf (by simp only [am_step, am_one, am_P, Int16.toInt32_ofInt (of_decide_eq_true hn).1 (of_decide_eq_true hn).2]) g
theorem g_lconst (p : Nat) (b : BitVec 64) {n : Fin 2} (hM : xMT (zvz k.1) mi = some M) (hf : zf M pc = some (.lconst n)) (e : pc + 1 = p) (hn : BitVec.ofNat 64 n.val = b) (g : zgo k d mi (p, lv, .long (Int64.ofBitVec b) :: st) (ah) r) : zgo k d mi (pc, lv, st) (ah) r := by
  subst e
  subst hn; exact zgo_st hM hf rfl g
theorem g_ldcI (p : Nat) (n : Int) {ix : Nat} {v : Int32} (hM : xMT (zvz k.1) mi = some M) (hf : zf M pc = some (.ldc ix)) (e : pc + 2 = p) (hl : am_mL M ix = some (.int v)) (hv : v = Int32.ofInt n) (g : zgo k d mi (p, lv, .int (Int32.ofInt n) :: st) (ah) r) : zgo k d mi (pc, lv, st) (ah) r := by
  subst e
  exact zgo_st hM hf (by simp only [am_step, am_one, am_P, am_ldc, hl, hv]) g
theorem g_ldcwI (p : Nat) (n : Int) {ix : Nat} {v : Int32} (hM : xMT (zvz k.1) mi = some M) (hf : zf M pc = some (.ldc_w ix)) (e : pc + 3 = p) (hl : am_mL M ix = some (.int v)) (hv : v = Int32.ofInt n) (g : zgo k d mi (p, lv, .int (Int32.ofInt n) :: st) (ah) r) : zgo k d mi (pc, lv, st) (ah) r := by
  subst e
  exact zgo_st hM hf (by simp only [am_step, am_one, am_P, am_ldc, hl, hv]) g
theorem g_ldcS (p : Nat) {ix v : Nat} (hM : xMT (zvz k.1) mi = some M) (hf : zf M pc = some (.ldc ix)) (e : pc + 2 = p) (hl : am_mL M ix = some (.ref v)) (g : zgo k d mi (p, lv, .ref v :: st) (ah) r) : zgo k d mi (pc, lv, st) (ah) r := by
  subst e
  exact zgo_st hM hf (by simp only [am_step, am_one, am_P, am_ldc, hl]; rfl) g
theorem g_ldc2 (p : Nat) (b : BitVec 64) {ix : Nat} {v : Int64} (hM : xMT (zvz k.1) mi = some M) (hf : zf M pc = some (.ldc2_w ix)) (e : pc + 3 = p) (hl : am_mL M ix = some (.long v)) (hv : v = Int64.ofBitVec b) (g : zgo k d mi (p, lv, .long (Int64.ofBitVec b) :: st) (ah) r) : zgo k d mi (pc, lv, st) (ah) r := by
  subst e
  exact zgo_st hM hf (by simp only [am_step, am_one, am_P, am_ldc2, hl, hv]) g
theorem g_getstatic (p : Nat) {ix : Nat} {v : Value} (hM : xMT (zvz k.1) mi = some M) (hf : zf M pc = some (.getstatic ix)) (e : pc + 3 = p) (hl : am_mS M ix = some v) (g : zgo k d mi (p, lv, v :: st) (ah) r) : zgo k d mi (pc, lv, st) (ah) r := by
  subst e
  exact zgo_st hM hf (by simp only [am_step, am_one, am_P, am_gets, hl]) g
theorem g_getstI (p : Nat) (n : Int) {ix : Nat} {v : Int32} (hM : xMT (zvz k.1) mi = some M) (hf : zf M pc = some (.getstatic ix)) (e : pc + 3 = p) (hl : am_mS M ix = some (.int v)) (hv : v = Int32.ofInt n) (g : zgo k d mi (p, lv, .int (Int32.ofInt n) :: st) (ah) r) : zgo k d mi (pc, lv, st) (ah) r := by
  subst e
  exact zgo_st hM hf (by simp only [am_step, am_one, am_gets, hl, hv]) g
theorem g_iadd (p : Nat) {a b : Int} (hM : xMT (zvz k.1) mi = some M) (hf : zf M pc = some (.iadd)) (e : pc + 1 = p) (g : zgo k d mi (p, lv, .int (Int32.ofInt (a + b)) :: st) (ah) r) : zgo k d mi (pc, lv, .int (Int32.ofInt b) :: .int (Int32.ofInt a) :: st) (ah) r := by
  subst e
  exact zgo_st hM hf (by simp only [am_step, am_one, am_P, am_ii, Int32.ofInt_add]) g
theorem g_isub (p : Nat) {a b : Int} (hM : xMT (zvz k.1) mi = some M) (hf : zf M pc = some (.isub)) (e : pc + 1 = p) (g : zgo k d mi (p, lv, .int (Int32.ofInt (a - b)) :: st) (ah) r) : zgo k d mi (pc, lv, .int (Int32.ofInt b) :: .int (Int32.ofInt a) :: st) (ah) r := by
  subst e
  exact zgo_st hM hf (by simp only [am_step, am_one, am_P, am_ii, Int32.ofInt_sub]) g
theorem g_imul (p : Nat) {a b : Int} (hM : xMT (zvz k.1) mi = some M) (hf : zf M pc = some (.imul)) (e : pc + 1 = p) (g : zgo k d mi (p, lv, .int (Int32.ofInt (a * b)) :: st) (ah) r) : zgo k d mi (pc, lv, .int (Int32.ofInt b) :: .int (Int32.ofInt a) :: st) (ah) r := by
  subst e
  exact zgo_st hM hf (by simp only [am_step, am_one, am_P, am_ii, Int32.ofInt_mul]) g
theorem g_iand (p : Nat) {a b : Int} (hM : xMT (zvz k.1) mi = some M) (hf : zf M pc = some (.iand)) (e : pc + 1 = p) (g : zgo k d mi (p, lv, .int (Int32.ofInt (zand a b)) :: st) (ah) r) : zgo k d mi (pc, lv, .int (Int32.ofInt b) :: .int (Int32.ofInt a) :: st) (ah) r := by
  subst e
  exact zgo_st hM hf (by simp only [am_step, am_one, am_P, am_ii, z_and]) g
theorem g_ior (p : Nat) {a b : Int} (hM : xMT (zvz k.1) mi = some M) (hf : zf M pc = some (.ior)) (e : pc + 1 = p) (g : zgo k d mi (p, lv, .int (Int32.ofInt (zor a b)) :: st) (ah) r) : zgo k d mi (pc, lv, .int (Int32.ofInt b) :: .int (Int32.ofInt a) :: st) (ah) r := by
  subst e
  exact zgo_st hM hf (by simp only [am_step, am_one, am_P, am_ii, z_or]) g
theorem g_ixor (p : Nat) {a b : Int} (hM : xMT (zvz k.1) mi = some M) (hf : zf M pc = some (.ixor)) (e : pc + 1 = p) (g : zgo k d mi (p, lv, .int (Int32.ofInt (zxor a b)) :: st) (ah) r) : zgo k d mi (pc, lv, .int (Int32.ofInt b) :: .int (Int32.ofInt a) :: st) (ah) r := by
  subst e
  exact zgo_st hM hf (by simp only [am_step, am_one, am_P, am_ii, z_xor]) g
theorem g_ishl (p : Nat) {a b : Int} (hM : xMT (zvz k.1) mi = some M) (hf : zf M pc = some (.ishl)) (e : pc + 1 = p) (g : zgo k d mi (p, lv, .int (Int32.ofInt (a * 2 ^ zsh b)) :: st) (ah) r) : zgo k d mi (pc, lv, .int (Int32.ofInt b) :: .int (Int32.ofInt a) :: st) (ah) r := by
  subst e
  exact zgo_st hM hf (by simp only [am_step, am_one, am_P, am_ii, z_shl]) g
theorem g_iushr (p : Nat) {a b : Int} (hM : xMT (zvz k.1) mi = some M) (hf : zf M pc = some (.iushr)) (e : pc + 1 = p) (ha : 0 ≤ a ∧ zR a) (g : zgo k d mi (p, lv, .int (Int32.ofInt (a / 2 ^ zsh b)) :: st) (ah) r) : zgo k d mi (pc, lv, .int (Int32.ofInt b) :: .int (Int32.ofInt a) :: st) (ah) r := by
  subst e
  exact zgo_st hM hf (by simp only [am_step, am_one, am_P, am_ii, z_ushr ha.1 ha.2]) g
theorem g_ishr (p : Nat) {a b : Int} (hM : xMT (zvz k.1) mi = some M) (hf : zf M pc = some (.ishr)) (e : pc + 1 = p) (ha : 0 ≤ a ∧ zR a) (g : zgo k d mi (p, lv, .int (Int32.ofInt (a / 2 ^ zsh b)) :: st) (ah) r) : zgo k d mi (pc, lv, .int (Int32.ofInt b) :: .int (Int32.ofInt a) :: st) (ah) r := by
  subst e
  exact zgo_st hM hf (by simp only [am_step, am_one, am_P, am_ii, z_shr ha.1 ha.2]) g
theorem g_idiv (p : Nat) {a b : Int} (hM : xMT (zvz k.1) mi = some M) (hf : zf M pc = some (.idiv)) (e : pc + 1 = p) (ha : 0 ≤ a ∧ zR a ∧ 0 < b ∧ zR b) (g : zgo k d mi (p, lv, .int (Int32.ofInt (a / b)) :: st) (ah) r) : zgo k d mi (pc, lv, .int (Int32.ofInt b) :: .int (Int32.ofInt a) :: st) (ah) r := by
  subst e
  exact zgo_st hM hf (by simp only [am_step, am_one, am_P, am_ii]; rw [if_neg (fun h => by rw [z_z, z_eq ha.2.2.2 z_R0] at h; have := ha.2.2.1; omega)]; simp only [z_div ha.1 ha.2.1 ha.2.2.1 ha.2.2.2]) g
theorem g_irem (p : Nat) {a b : Int} (hM : xMT (zvz k.1) mi = some M) (hf : zf M pc = some (.irem)) (e : pc + 1 = p) (ha : 0 ≤ a ∧ zR a ∧ 0 < b ∧ zR b) (g : zgo k d mi (p, lv, .int (Int32.ofInt (a % b)) :: st) (ah) r) : zgo k d mi (pc, lv, .int (Int32.ofInt b) :: .int (Int32.ofInt a) :: st) (ah) r := by
  subst e
  exact zgo_st hM hf (by simp only [am_step, am_one, am_P, am_ii]; rw [if_neg (fun h => by rw [z_z, z_eq ha.2.2.2 z_R0] at h; have := ha.2.2.1; omega)]; simp only [z_rem ha.1 ha.2.1 ha.2.2.1 ha.2.2.2]) g
theorem g_i2l (p : Nat) {a : Int} (hM : xMT (zvz k.1) mi = some M) (hf : zf M pc = some (.i2l)) (e : pc + 1 = p) (ha : zR a) (g : zgo k d mi (p, lv, .long (Int64.ofBitVec (BitVec.ofInt 64 a)) :: st) (ah) r) : zgo k d mi (pc, lv, .int (Int32.ofInt a) :: st) (ah) r := by
  subst e
  exact zgo_st hM hf (by simp only [am_step, am_one, am_P, am_i, z_i2l ha]) g
theorem g_i2c (p : Nat) {a : Int} (hM : xMT (zvz k.1) mi = some M) (hf : zf M pc = some (.i2c)) (e : pc + 1 = p) (g : zgo k d mi (p, lv, .int (Int32.ofInt (a % 65536)) :: st) (ah) r) : zgo k d mi (pc, lv, .int (Int32.ofInt a) :: st) (ah) r := by
  subst e
  exact zgo_st hM hf (by simp only [am_step, am_one, am_P, am_i, z_c16]) g
theorem g_i2b (p : Nat) {a : Int} (hM : xMT (zvz k.1) mi = some M) (hf : zf M pc = some (.i2b)) (e : pc + 1 = p) (g : zgo k d mi (p, lv, .int (Int32.ofInt (a.bmod 256)) :: st) (ah) r) : zgo k d mi (pc, lv, .int (Int32.ofInt a) :: st) (ah) r := by
  subst e
  exact zgo_st hM hf (by simp only [am_step, am_one, am_P, am_i, z_i8]) g
theorem g_l2i (p : Nat) {b : BitVec 64} (hM : xMT (zvz k.1) mi = some M) (hf : zf M pc = some (.l2i)) (e : pc + 1 = p) (g : zgo k d mi (p, lv, .int (Int32.ofInt (b.toNat : Int)) :: st) (ah) r) : zgo k d mi (pc, lv, .long (Int64.ofBitVec b) :: st) (ah) r := by
  subst e
  exact zgo_st hM hf (by simp only [am_step, am_one, am_P, am_l, z_l2i]) g
theorem g_ladd (p : Nat) {a b : BitVec 64} (hM : xMT (zvz k.1) mi = some M) (hf : zf M pc = some (.ladd)) (e : pc + 1 = p) (g : zgo k d mi (p, lv, .long (Int64.ofBitVec (a + b)) :: st) (ah) r) : zgo k d mi (pc, lv, .long (Int64.ofBitVec b) :: .long (Int64.ofBitVec a) :: st) (ah) r := by
  subst e
  exact zgo_st hM hf rfl g
theorem g_lsub (p : Nat) {a b : BitVec 64} (hM : xMT (zvz k.1) mi = some M) (hf : zf M pc = some (.lsub)) (e : pc + 1 = p) (g : zgo k d mi (p, lv, .long (Int64.ofBitVec (a - b)) :: st) (ah) r) : zgo k d mi (pc, lv, .long (Int64.ofBitVec b) :: .long (Int64.ofBitVec a) :: st) (ah) r := by
  subst e
  exact zgo_st hM hf rfl g
theorem g_land (p : Nat) {a b : BitVec 64} (hM : xMT (zvz k.1) mi = some M) (hf : zf M pc = some (.land)) (e : pc + 1 = p) (g : zgo k d mi (p, lv, .long (Int64.ofBitVec (a &&& b)) :: st) (ah) r) : zgo k d mi (pc, lv, .long (Int64.ofBitVec b) :: .long (Int64.ofBitVec a) :: st) (ah) r := by
  subst e
  exact zgo_st hM hf rfl g
theorem g_lor (p : Nat) {a b : BitVec 64} (hM : xMT (zvz k.1) mi = some M) (hf : zf M pc = some (.lor)) (e : pc + 1 = p) (g : zgo k d mi (p, lv, .long (Int64.ofBitVec (a ||| b)) :: st) (ah) r) : zgo k d mi (pc, lv, .long (Int64.ofBitVec b) :: .long (Int64.ofBitVec a) :: st) (ah) r := by
  subst e
  exact zgo_st hM hf rfl g
theorem g_lxor (p : Nat) {a b : BitVec 64} (hM : xMT (zvz k.1) mi = some M) (hf : zf M pc = some (.lxor)) (e : pc + 1 = p) (g : zgo k d mi (p, lv, .long (Int64.ofBitVec (a ^^^ b)) :: st) (ah) r) : zgo k d mi (pc, lv, .long (Int64.ofBitVec b) :: .long (Int64.ofBitVec a) :: st) (ah) r := by
  subst e
  exact zgo_st hM hf rfl g
theorem g_lshl (p : Nat) {a : BitVec 64} {b : Int} (hM : xMT (zvz k.1) mi = some M) (hf : zf M pc = some (.lshl)) (e : pc + 1 = p) (hb : zR b) (g : zgo k d mi (p, lv, .long (Int64.ofBitVec (a <<< zshl b)) :: st) (ah) r) : zgo k d mi (pc, lv, .int (Int32.ofInt b) :: .long (Int64.ofBitVec a) :: st) (ah) r := by
  subst e
  exact zgo_st hM hf (by simp only [am_step, am_one, am_P, am_li, z_lshl a hb]) g
theorem g_lushr (p : Nat) {a : BitVec 64} {b : Int} (hM : xMT (zvz k.1) mi = some M) (hf : zf M pc = some (.lushr)) (e : pc + 1 = p) (hb : zR b) (g : zgo k d mi (p, lv, .long (Int64.ofBitVec (a >>> zshl b)) :: st) (ah) r) : zgo k d mi (pc, lv, .int (Int32.ofInt b) :: .long (Int64.ofBitVec a) :: st) (ah) r := by
  subst e
  exact zgo_st hM hf (by simp only [am_step, am_one, am_P, am_li, z_lushr a hb]) g
theorem g_dup (p : Nat) {v : Value} (hM : xMT (zvz k.1) mi = some M) (hf : zf M pc = some (.dup)) (e : pc + 1 = p) (hv : v.category = 1) (g : zgo k d mi (p, lv, v :: v :: st) (ah) r) : zgo k d mi (pc, lv, v :: st) (ah) r := by
  subst e
  exact zgo_st hM hf (by simp only [am_step, am_one, am_P, am_dup]; rw [if_pos hv]) g
theorem g_dup2 (p : Nat) {u v : Value} (hM : xMT (zvz k.1) mi = some M) (hf : zf M pc = some (.dup2)) (e : pc + 1 = p) (hv : v.category = 1) (hu : u.category = 1) (g : zgo k d mi (p, lv, v :: u :: v :: u :: st) (ah) r) : zgo k d mi (pc, lv, v :: u :: st) (ah) r := by
  subst e
  exact zgo_st hM hf (by simp only [am_step, am_one, am_P, am_dup2]; rw [if_neg (by rw [hv]; decide), if_pos ⟨hv, hu⟩]) g
theorem g_pop (p : Nat) {v : Value} (hM : xMT (zvz k.1) mi = some M) (hf : zf M pc = some (.pop)) (e : pc + 1 = p) (hv : v.category = 1) (g : zgo k d mi (p, lv, st) (ah) r) : zgo k d mi (pc, lv, v :: st) (ah) r := by
  subst e
  exact zgo_st hM hf (by simp only [am_step, am_one, am_P, am_pop]; rw [if_pos hv]) g
theorem g_goto (p : Nat) {o : Int} (hM : xMT (zvz k.1) mi = some M) (hf : zf M pc = some (.goto o)) (e : am_br pc o = some p) (g : zgo k d mi (p, lv, st) ah r) : zgo k d mi (pc, lv, st) ah r := zgo_st hM hf (by simp only [am_step, am_one, am_P, e]) g
theorem g_ic_eq_t (p : Nat) {a b : Int} {o : Int} (hM : xMT (zvz k.1) mi = some M) (hf : zf M pc = some (.if_icmp .eq o)) (e : am_br pc o = some p) (ha : zR a) (hb : zR b) (hc : a = b) (g : zgo k d mi (p, lv, st) ah r) : zgo k d mi (pc, lv, .int (Int32.ofInt b) :: .int (Int32.ofInt a) :: st) ah r := by
  have hb2 : (decide (Int32.ofInt a = Int32.ofInt b)) = true := decide_eq_true (by rw [z_eq ha hb]; omega)
  exact zgo_st hM hf (by simp only [am_step, am_one, am_P, am_ic, am_jmp, e, hb2, ↓reduceIte]) g
theorem g_ic_eq_f (p t : Nat) {a b : Int} {o : Int} (hM : xMT (zvz k.1) mi = some M) (hf : zf M pc = some (.if_icmp .eq o)) (e0 : am_br pc o = some t) (e : pc + 3 = p) (ha : zR a) (hb : zR b) (hc : ¬ a = b) (g : zgo k d mi (p, lv, st) ah r) : zgo k d mi (pc, lv, .int (Int32.ofInt b) :: .int (Int32.ofInt a) :: st) ah r := by
  subst e
  have hb2 : (decide (Int32.ofInt a = Int32.ofInt b)) = false := decide_eq_false (by rw [z_eq ha hb]; omega)
  exact zgo_st hM hf (by simp only [am_step, am_one, am_P, am_ic, am_jmp, e0, hb2, Bool.false_eq_true, ↓reduceIte]) g
theorem g_ic_ne_t (p : Nat) {a b : Int} {o : Int} (hM : xMT (zvz k.1) mi = some M) (hf : zf M pc = some (.if_icmp .ne o)) (e : am_br pc o = some p) (ha : zR a) (hb : zR b) (hc : ¬ a = b) (g : zgo k d mi (p, lv, st) ah r) : zgo k d mi (pc, lv, .int (Int32.ofInt b) :: .int (Int32.ofInt a) :: st) ah r := by
  have hb2 : (decide (¬ Int32.ofInt a = Int32.ofInt b)) = true := decide_eq_true (by rw [z_eq ha hb]; omega)
  exact zgo_st hM hf (by simp only [am_step, am_one, am_P, am_ic, am_jmp, e, hb2, ↓reduceIte]) g
theorem g_ic_ne_f (p t : Nat) {a b : Int} {o : Int} (hM : xMT (zvz k.1) mi = some M) (hf : zf M pc = some (.if_icmp .ne o)) (e0 : am_br pc o = some t) (e : pc + 3 = p) (ha : zR a) (hb : zR b) (hc : a = b) (g : zgo k d mi (p, lv, st) ah r) : zgo k d mi (pc, lv, .int (Int32.ofInt b) :: .int (Int32.ofInt a) :: st) ah r := by
  subst e
  have hb2 : (decide (¬ Int32.ofInt a = Int32.ofInt b)) = false := decide_eq_false (by rw [z_eq ha hb]; omega)
  exact zgo_st hM hf (by simp only [am_step, am_one, am_P, am_ic, am_jmp, e0, hb2, Bool.false_eq_true, ↓reduceIte]) g
theorem g_ic_lt_t (p : Nat) {a b : Int} {o : Int} (hM : xMT (zvz k.1) mi = some M) (hf : zf M pc = some (.if_icmp .lt o)) (e : am_br pc o = some p) (ha : zR a) (hb : zR b) (hc : a < b) (g : zgo k d mi (p, lv, st) ah r) : zgo k d mi (pc, lv, .int (Int32.ofInt b) :: .int (Int32.ofInt a) :: st) ah r := by
  have hb2 : (decide (Int32.ofInt a < Int32.ofInt b)) = true := decide_eq_true (by rw [z_lt ha hb]; omega)
  exact zgo_st hM hf (by simp only [am_step, am_one, am_P, am_ic, am_jmp, e, hb2, ↓reduceIte]) g
theorem g_ic_lt_f (p t : Nat) {a b : Int} {o : Int} (hM : xMT (zvz k.1) mi = some M) (hf : zf M pc = some (.if_icmp .lt o)) (e0 : am_br pc o = some t) (e : pc + 3 = p) (ha : zR a) (hb : zR b) (hc : ¬ a < b) (g : zgo k d mi (p, lv, st) ah r) : zgo k d mi (pc, lv, .int (Int32.ofInt b) :: .int (Int32.ofInt a) :: st) ah r := by
  subst e
  have hb2 : (decide (Int32.ofInt a < Int32.ofInt b)) = false := decide_eq_false (by rw [z_lt ha hb]; omega)
  exact zgo_st hM hf (by simp only [am_step, am_one, am_P, am_ic, am_jmp, e0, hb2, Bool.false_eq_true, ↓reduceIte]) g
theorem g_ic_ge_t (p : Nat) {a b : Int} {o : Int} (hM : xMT (zvz k.1) mi = some M) (hf : zf M pc = some (.if_icmp .ge o)) (e : am_br pc o = some p) (ha : zR a) (hb : zR b) (hc : ¬ a < b) (g : zgo k d mi (p, lv, st) ah r) : zgo k d mi (pc, lv, .int (Int32.ofInt b) :: .int (Int32.ofInt a) :: st) ah r := by
  have hb2 : (decide (Int32.ofInt b ≤ Int32.ofInt a)) = true := decide_eq_true (by rw [z_le hb ha]; omega)
  exact zgo_st hM hf (by simp only [am_step, am_one, am_P, am_ic, am_jmp, e, hb2, ↓reduceIte]) g
theorem g_ic_ge_f (p t : Nat) {a b : Int} {o : Int} (hM : xMT (zvz k.1) mi = some M) (hf : zf M pc = some (.if_icmp .ge o)) (e0 : am_br pc o = some t) (e : pc + 3 = p) (ha : zR a) (hb : zR b) (hc : a < b) (g : zgo k d mi (p, lv, st) ah r) : zgo k d mi (pc, lv, .int (Int32.ofInt b) :: .int (Int32.ofInt a) :: st) ah r := by
  subst e
  have hb2 : (decide (Int32.ofInt b ≤ Int32.ofInt a)) = false := decide_eq_false (by rw [z_le hb ha]; omega)
  exact zgo_st hM hf (by simp only [am_step, am_one, am_P, am_ic, am_jmp, e0, hb2, Bool.false_eq_true, ↓reduceIte]) g
theorem g_ic_gt_t (p : Nat) {a b : Int} {o : Int} (hM : xMT (zvz k.1) mi = some M) (hf : zf M pc = some (.if_icmp .gt o)) (e : am_br pc o = some p) (ha : zR a) (hb : zR b) (hc : b < a) (g : zgo k d mi (p, lv, st) ah r) : zgo k d mi (pc, lv, .int (Int32.ofInt b) :: .int (Int32.ofInt a) :: st) ah r := by
  have hb2 : (decide (Int32.ofInt b < Int32.ofInt a)) = true := decide_eq_true (by rw [z_lt hb ha]; omega)
  exact zgo_st hM hf (by simp only [am_step, am_one, am_P, am_ic, am_jmp, e, hb2, ↓reduceIte]) g
theorem g_ic_gt_f (p t : Nat) {a b : Int} {o : Int} (hM : xMT (zvz k.1) mi = some M) (hf : zf M pc = some (.if_icmp .gt o)) (e0 : am_br pc o = some t) (e : pc + 3 = p) (ha : zR a) (hb : zR b) (hc : ¬ b < a) (g : zgo k d mi (p, lv, st) ah r) : zgo k d mi (pc, lv, .int (Int32.ofInt b) :: .int (Int32.ofInt a) :: st) ah r := by
  subst e
  have hb2 : (decide (Int32.ofInt b < Int32.ofInt a)) = false := decide_eq_false (by rw [z_lt hb ha]; omega)
  exact zgo_st hM hf (by simp only [am_step, am_one, am_P, am_ic, am_jmp, e0, hb2, Bool.false_eq_true, ↓reduceIte]) g
theorem g_ic_le_t (p : Nat) {a b : Int} {o : Int} (hM : xMT (zvz k.1) mi = some M) (hf : zf M pc = some (.if_icmp .le o)) (e : am_br pc o = some p) (ha : zR a) (hb : zR b) (hc : ¬ b < a) (g : zgo k d mi (p, lv, st) ah r) : zgo k d mi (pc, lv, .int (Int32.ofInt b) :: .int (Int32.ofInt a) :: st) ah r := by
  have hb2 : (decide (Int32.ofInt a ≤ Int32.ofInt b)) = true := decide_eq_true (by rw [z_le ha hb]; omega)
  exact zgo_st hM hf (by simp only [am_step, am_one, am_P, am_ic, am_jmp, e, hb2, ↓reduceIte]) g
theorem g_ic_le_f (p t : Nat) {a b : Int} {o : Int} (hM : xMT (zvz k.1) mi = some M) (hf : zf M pc = some (.if_icmp .le o)) (e0 : am_br pc o = some t) (e : pc + 3 = p) (ha : zR a) (hb : zR b) (hc : b < a) (g : zgo k d mi (p, lv, st) ah r) : zgo k d mi (pc, lv, .int (Int32.ofInt b) :: .int (Int32.ofInt a) :: st) ah r := by
  subst e
  have hb2 : (decide (Int32.ofInt a ≤ Int32.ofInt b)) = false := decide_eq_false (by rw [z_le ha hb]; omega)
  exact zgo_st hM hf (by simp only [am_step, am_one, am_P, am_ic, am_jmp, e0, hb2, Bool.false_eq_true, ↓reduceIte]) g
theorem g_if_eq_t (p : Nat) {a : Int} {o : Int} (hM : xMT (zvz k.1) mi = some M) (hf : zf M pc = some (.ifCond .eq o)) (e : am_br pc o = some p) (ha : zR a) (hc : a = 0) (g : zgo k d mi (p, lv, st) ah r) : zgo k d mi (pc, lv, .int (Int32.ofInt a) :: st) ah r := by
  have hb2 : (decide (Int32.ofInt a = 0)) = true := decide_eq_true (by rw [z_z]; rw [z_eq ha z_R0]; omega)
  exact zgo_st hM hf (by simp only [am_step, am_one, am_P, am_if, am_jmp, e, hb2, ↓reduceIte]) g
theorem g_if_eq_f (p t : Nat) {a : Int} {o : Int} (hM : xMT (zvz k.1) mi = some M) (hf : zf M pc = some (.ifCond .eq o)) (e0 : am_br pc o = some t) (e : pc + 3 = p) (ha : zR a) (hc : ¬ a = 0) (g : zgo k d mi (p, lv, st) ah r) : zgo k d mi (pc, lv, .int (Int32.ofInt a) :: st) ah r := by
  subst e
  have hb2 : (decide (Int32.ofInt a = 0)) = false := decide_eq_false (by rw [z_z]; rw [z_eq ha z_R0]; omega)
  exact zgo_st hM hf (by simp only [am_step, am_one, am_P, am_if, am_jmp, e0, hb2, Bool.false_eq_true, ↓reduceIte]) g
theorem g_if_ne_t (p : Nat) {a : Int} {o : Int} (hM : xMT (zvz k.1) mi = some M) (hf : zf M pc = some (.ifCond .ne o)) (e : am_br pc o = some p) (ha : zR a) (hc : ¬ a = 0) (g : zgo k d mi (p, lv, st) ah r) : zgo k d mi (pc, lv, .int (Int32.ofInt a) :: st) ah r := by
  have hb2 : (decide (¬ Int32.ofInt a = 0)) = true := decide_eq_true (by rw [z_z]; rw [z_eq ha z_R0]; omega)
  exact zgo_st hM hf (by simp only [am_step, am_one, am_P, am_if, am_jmp, e, hb2, ↓reduceIte]) g
theorem g_if_ne_f (p t : Nat) {a : Int} {o : Int} (hM : xMT (zvz k.1) mi = some M) (hf : zf M pc = some (.ifCond .ne o)) (e0 : am_br pc o = some t) (e : pc + 3 = p) (ha : zR a) (hc : a = 0) (g : zgo k d mi (p, lv, st) ah r) : zgo k d mi (pc, lv, .int (Int32.ofInt a) :: st) ah r := by
  subst e
  have hb2 : (decide (¬ Int32.ofInt a = 0)) = false := decide_eq_false (by rw [z_z]; rw [z_eq ha z_R0]; omega)
  exact zgo_st hM hf (by simp only [am_step, am_one, am_P, am_if, am_jmp, e0, hb2, Bool.false_eq_true, ↓reduceIte]) g
theorem g_if_lt_t (p : Nat) {a : Int} {o : Int} (hM : xMT (zvz k.1) mi = some M) (hf : zf M pc = some (.ifCond .lt o)) (e : am_br pc o = some p) (ha : zR a) (hc : a < 0) (g : zgo k d mi (p, lv, st) ah r) : zgo k d mi (pc, lv, .int (Int32.ofInt a) :: st) ah r := by
  have hb2 : (decide (Int32.ofInt a < 0)) = true := decide_eq_true (by rw [z_z]; rw [z_lt ha z_R0]; omega)
  exact zgo_st hM hf (by simp only [am_step, am_one, am_P, am_if, am_jmp, e, hb2, ↓reduceIte]) g
theorem g_if_lt_f (p t : Nat) {a : Int} {o : Int} (hM : xMT (zvz k.1) mi = some M) (hf : zf M pc = some (.ifCond .lt o)) (e0 : am_br pc o = some t) (e : pc + 3 = p) (ha : zR a) (hc : ¬ a < 0) (g : zgo k d mi (p, lv, st) ah r) : zgo k d mi (pc, lv, .int (Int32.ofInt a) :: st) ah r := by
  subst e
  have hb2 : (decide (Int32.ofInt a < 0)) = false := decide_eq_false (by rw [z_z]; rw [z_lt ha z_R0]; omega)
  exact zgo_st hM hf (by simp only [am_step, am_one, am_P, am_if, am_jmp, e0, hb2, Bool.false_eq_true, ↓reduceIte]) g
theorem g_if_ge_t (p : Nat) {a : Int} {o : Int} (hM : xMT (zvz k.1) mi = some M) (hf : zf M pc = some (.ifCond .ge o)) (e : am_br pc o = some p) (ha : zR a) (hc : ¬ a < 0) (g : zgo k d mi (p, lv, st) ah r) : zgo k d mi (pc, lv, .int (Int32.ofInt a) :: st) ah r := by
  have hb2 : (decide (0 ≤ Int32.ofInt a)) = true := decide_eq_true (by rw [z_z]; rw [z_le z_R0 ha]; omega)
  exact zgo_st hM hf (by simp only [am_step, am_one, am_P, am_if, am_jmp, e, hb2, ↓reduceIte]) g
theorem g_if_ge_f (p t : Nat) {a : Int} {o : Int} (hM : xMT (zvz k.1) mi = some M) (hf : zf M pc = some (.ifCond .ge o)) (e0 : am_br pc o = some t) (e : pc + 3 = p) (ha : zR a) (hc : a < 0) (g : zgo k d mi (p, lv, st) ah r) : zgo k d mi (pc, lv, .int (Int32.ofInt a) :: st) ah r := by
  subst e
  have hb2 : (decide (0 ≤ Int32.ofInt a)) = false := decide_eq_false (by rw [z_z]; rw [z_le z_R0 ha]; omega)
  exact zgo_st hM hf (by simp only [am_step, am_one, am_P, am_if, am_jmp, e0, hb2, Bool.false_eq_true, ↓reduceIte]) g
theorem g_if_gt_t (p : Nat) {a : Int} {o : Int} (hM : xMT (zvz k.1) mi = some M) (hf : zf M pc = some (.ifCond .gt o)) (e : am_br pc o = some p) (ha : zR a) (hc : 0 < a) (g : zgo k d mi (p, lv, st) ah r) : zgo k d mi (pc, lv, .int (Int32.ofInt a) :: st) ah r := by
  have hb2 : (decide (0 < Int32.ofInt a)) = true := decide_eq_true (by rw [z_z]; rw [z_lt z_R0 ha]; omega)
  exact zgo_st hM hf (by simp only [am_step, am_one, am_P, am_if, am_jmp, e, hb2, ↓reduceIte]) g
theorem g_if_gt_f (p t : Nat) {a : Int} {o : Int} (hM : xMT (zvz k.1) mi = some M) (hf : zf M pc = some (.ifCond .gt o)) (e0 : am_br pc o = some t) (e : pc + 3 = p) (ha : zR a) (hc : ¬ 0 < a) (g : zgo k d mi (p, lv, st) ah r) : zgo k d mi (pc, lv, .int (Int32.ofInt a) :: st) ah r := by
  subst e
  have hb2 : (decide (0 < Int32.ofInt a)) = false := decide_eq_false (by rw [z_z]; rw [z_lt z_R0 ha]; omega)
  exact zgo_st hM hf (by simp only [am_step, am_one, am_P, am_if, am_jmp, e0, hb2, Bool.false_eq_true, ↓reduceIte]) g
theorem g_if_le_t (p : Nat) {a : Int} {o : Int} (hM : xMT (zvz k.1) mi = some M) (hf : zf M pc = some (.ifCond .le o)) (e : am_br pc o = some p) (ha : zR a) (hc : ¬ 0 < a) (g : zgo k d mi (p, lv, st) ah r) : zgo k d mi (pc, lv, .int (Int32.ofInt a) :: st) ah r := by
  have hb2 : (decide (Int32.ofInt a ≤ 0)) = true := decide_eq_true (by rw [z_z]; rw [z_le ha z_R0]; omega)
  exact zgo_st hM hf (by simp only [am_step, am_one, am_P, am_if, am_jmp, e, hb2, ↓reduceIte]) g
theorem g_if_le_f (p t : Nat) {a : Int} {o : Int} (hM : xMT (zvz k.1) mi = some M) (hf : zf M pc = some (.ifCond .le o)) (e0 : am_br pc o = some t) (e : pc + 3 = p) (ha : zR a) (hc : 0 < a) (g : zgo k d mi (p, lv, st) ah r) : zgo k d mi (pc, lv, .int (Int32.ofInt a) :: st) ah r := by
  subst e
  have hb2 : (decide (Int32.ofInt a ≤ 0)) = false := decide_eq_false (by rw [z_z]; rw [z_le ha z_R0]; omega)
  exact zgo_st hM hf (by simp only [am_step, am_one, am_P, am_if, am_jmp, e0, hb2, Bool.false_eq_true, ↓reduceIte]) g
theorem g_lc_eq_t (q p : Nat) {a b : BitVec 64} {o : Int} (hM : xMT (zvz k.1) mi = some M) (hf : zf M pc = some .lcmp) (eq : pc + 1 = q) (hf2 : zf M q = some (.ifCond .eq o)) (e : am_br q o = some p) (hc : a = b) (g : zgo k d mi (p, lv, st) ah r) : zgo k d mi (pc, lv, .long (Int64.ofBitVec b) :: .long (Int64.ofBitVec a) :: st) ah r := by
  subst eq
  have hb2 : (decide (lg_cmp (Int64.ofBitVec a) (Int64.ofBitVec b) = 0)) = true := decide_eq_true (by rw [z_cmp0]; exact hc)
  exact zgo_st hM hf rfl (zgo_st hM hf2 (by simp only [am_step, am_one, am_P, am_if, am_jmp, e, hb2, ↓reduceIte]) g)
theorem g_lc_eq_f (q p t : Nat) {a b : BitVec 64} {o : Int} (hM : xMT (zvz k.1) mi = some M) (hf : zf M pc = some .lcmp) (eq : pc + 1 = q) (hf2 : zf M q = some (.ifCond .eq o)) (e0 : am_br q o = some t) (e : q + 3 = p) (hc : ¬ a = b) (g : zgo k d mi (p, lv, st) ah r) : zgo k d mi (pc, lv, .long (Int64.ofBitVec b) :: .long (Int64.ofBitVec a) :: st) ah r := by
  subst eq
  subst e
  have hb2 : (decide (lg_cmp (Int64.ofBitVec a) (Int64.ofBitVec b) = 0)) = false := decide_eq_false (by rw [z_cmp0]; exact hc)
  exact zgo_st hM hf rfl (zgo_st hM hf2 (by simp only [am_step, am_one, am_P, am_if, am_jmp, e0, hb2, Bool.false_eq_true, ↓reduceIte]) g)
theorem g_lc_ne_t (q p : Nat) {a b : BitVec 64} {o : Int} (hM : xMT (zvz k.1) mi = some M) (hf : zf M pc = some .lcmp) (eq : pc + 1 = q) (hf2 : zf M q = some (.ifCond .ne o)) (e : am_br q o = some p) (hc : ¬ a = b) (g : zgo k d mi (p, lv, st) ah r) : zgo k d mi (pc, lv, .long (Int64.ofBitVec b) :: .long (Int64.ofBitVec a) :: st) ah r := by
  subst eq
  have hb2 : (decide (¬ lg_cmp (Int64.ofBitVec a) (Int64.ofBitVec b) = 0)) = true := decide_eq_true (by rw [z_cmp0]; exact hc)
  exact zgo_st hM hf rfl (zgo_st hM hf2 (by simp only [am_step, am_one, am_P, am_if, am_jmp, e, hb2, ↓reduceIte]) g)
theorem g_lc_ne_f (q p t : Nat) {a b : BitVec 64} {o : Int} (hM : xMT (zvz k.1) mi = some M) (hf : zf M pc = some .lcmp) (eq : pc + 1 = q) (hf2 : zf M q = some (.ifCond .ne o)) (e0 : am_br q o = some t) (e : q + 3 = p) (hc : a = b) (g : zgo k d mi (p, lv, st) ah r) : zgo k d mi (pc, lv, .long (Int64.ofBitVec b) :: .long (Int64.ofBitVec a) :: st) ah r := by
  subst eq
  subst e
  have hb2 : (decide (¬ lg_cmp (Int64.ofBitVec a) (Int64.ofBitVec b) = 0)) = false := decide_eq_false (by rw [z_cmp0]; exact fun h => h hc)
  exact zgo_st hM hf rfl (zgo_st hM hf2 (by simp only [am_step, am_one, am_P, am_if, am_jmp, e0, hb2, Bool.false_eq_true, ↓reduceIte]) g)
def zswt (lo hi : Int) (ts : List Nat) (df : Nat) (a : Int) : Nat := if a < lo ∨ hi < a then df else ts.getD (a - lo).toNat df
theorem g_tsw (p : Nat) {a dfo lo hi : Int} {os : Array Int} {ts : List Nat} {df : Nat} (hM : xMT (zvz k.1) mi = some M) (hf : zf M pc = some (.tableswitch dfo lo hi os)) (ha : zR a) (hp : zswt lo hi ts df a = p) (h1 : os.toList.map (am_br pc) = ts.map some) (h2 : am_br pc dfo = some df) (h3 : (ts.length : Int) = hi - lo + 1) (g : zgo k d mi (p, lv, st) ah r) : zgo k d mi (pc, lv, .int (Int32.ofInt a) :: st) ah r := by
  subst hp
  refine zgo_st hM hf ?_ g
  simp only [am_step, am_one, am_P, am_tsw, z_toInt ha, zswt]
  by_cases hc : a < lo ∨ hi < a
  · rw [if_pos hc, if_pos hc, h2]
  · rw [if_neg hc, if_neg hc]
    have hl : (a - lo).toNat < ts.length := by omega
    have h4 : (os.toList.map (am_br pc))[(a - lo).toNat]? = (ts.map some)[(a - lo).toNat]? := by rw [h1]
    rw [List.getElem?_map, List.getElem?_map, List.getElem?_eq_getElem hl] at h4
    rw [← Array.getElem?_toList]
    cases h5 : os.toList[(a - lo).toNat]? with
    | none => rw [h5] at h4; cases h4
    | some off =>
      rw [h5] at h4
      have h6 : am_br pc off = some ts[(a - lo).toNat] := by simpa using h4
      simp only [h6]
      rw [List.getD_eq_getElem?_getD, List.getElem?_eq_getElem hl]
      rfl
def zswl : List (Int × Nat) → Nat → Int → Nat
  | [], df, _ => df
  | (c, t) :: l, df, a => if a = c then t else zswl l df a
theorem zswl_off {ps : List (Int × Int)} {pc df : Nat} {dfo a : Int} : ∀ {ts : List (Int × Nat)}, am_br pc dfo = some df → ps.map (fun q => (q.1, am_br pc q.2)) = ts.map (fun q => (q.1, some q.2)) → am_br pc (Op.lookupswitch.offset ps dfo a) = some (zswl ts df a) := by
  induction ps with
  | nil =>
    intro ts hd h
    cases ts with
    | nil => exact hd
    | cons q l => cases h
  | cons u l ih =>
    intro ts hd h
    cases ts with
    | nil => cases h
    | cons q m =>
      rw [List.map_cons, List.map_cons] at h
      injection h with h1 h2
      have h3 := ih hd h2
      obtain ⟨uc, uo⟩ := u
      obtain ⟨qc, qt⟩ := q
      simp only [Prod.mk.injEq] at h1
      obtain ⟨rfl, h4⟩ := h1
      rw [zswl, Op.lookupswitch.offset]
      by_cases hc : a = uc
      · subst hc
        rw [if_pos rfl, if_pos rfl]
        exact h4
      · rw [if_neg hc, if_neg (fun e => hc e.symm)]
        exact h3
theorem g_lsw (p : Nat) {a dfo : Int} {ps : Array (Int × Int)} {ts : List (Int × Nat)} {df : Nat} (hM : xMT (zvz k.1) mi = some M) (hf : zf M pc = some (.lookupswitch dfo ps)) (ha : zR a) (hp : zswl ts df a = p) (h1 : ps.toList.map (fun q => (q.1, am_br pc q.2)) = ts.map (fun q => (q.1, some q.2))) (h2 : am_br pc dfo = some df) (h3 : (ps.toList.zip (ps.toList.drop 1)).all (fun (a, next) => a.1 < next.1) = true) (g : zgo k d mi (p, lv, st) ah r) : zgo k d mi (pc, lv, .int (Int32.ofInt a) :: st) ah r := by
  subst hp
  refine zgo_st hM hf ?_ g
  simp only [am_step, am_one, am_P, am_lsw, z_toInt ha]
  rw [if_pos h3, zswl_off h2 h1]

theorem g_getI (p : Nat) (ji w : Int) {qq : Nat} {ix ci j c : Nat} {hh : Option String} {fs : List (Nat × Nat)} (hM : xMT (zvz k.1) mi = some M) (hf : zf M pc = some (.getfield ix)) (e : pc + 3 = p) (hG : am_mG M ix = some (ci, j, hh)) (hl : zlay c = some (.inr (ci, fs))) (hj : fs[j]? = some (0, qq)) (hji : (j : Int) = ji) (hw : gI s c ji = w) (g : zgo k d mi (p, lv, .int (Int32.ofInt w) :: st) (hp s ++ x) r) : zgo k d mi (pc, lv, .ref c :: st) (hp s ++ x) r := by
  subst e
  refine zgo_st hM hf ?_ g
  simp only [am_step, am_or, am_getf, hG, z_at hl, zmk_obj hl, ↓reduceIte, z_fld hj]
  subst hji; subst hw; simp only [zfv, gI, Int32.ofInt_toInt]
theorem g_getJ (p : Nat) (ji : Int) (w : BitVec 64) {qq : Nat} {ix ci j c : Nat} {hh : Option String} {fs : List (Nat × Nat)} (hM : xMT (zvz k.1) mi = some M) (hf : zf M pc = some (.getfield ix)) (e : pc + 3 = p) (hG : am_mG M ix = some (ci, j, hh)) (hl : zlay c = some (.inr (ci, fs))) (hj : fs[j]? = some (1, qq)) (hji : (j : Int) = ji) (hw : gJ s c ji = w) (g : zgo k d mi (p, lv, .long (Int64.ofBitVec w) :: st) (hp s ++ x) r) : zgo k d mi (pc, lv, .ref c :: st) (hp s ++ x) r := by
  subst e
  refine zgo_st hM hf ?_ g
  simp only [am_step, am_or, am_getf, hG, z_at hl, zmk_obj hl, ↓reduceIte, z_fld hj]
  subst hji; subst hw; rfl
theorem g_getF (p : Nat) {t : Nat} {ix ci j c : Nat} {hh : Option String} {fs : List (Nat × Nat)} (hM : xMT (zvz k.1) mi = some M) (hf : zf M pc = some (.getfield ix)) (e : pc + 3 = p) (hG : am_mG M ix = some (ci, j, hh)) (hl : zlay c = some (.inr (ci, fs))) (hj : fs[j]? = some (2, t)) (g : zgo k d mi (p, lv, .ref t :: st) (hp s ++ x) r) : zgo k d mi (pc, lv, .ref c :: st) (hp s ++ x) r := by
  subst e
  refine zgo_st hM hf ?_ g
  simp only [am_step, am_or, am_getf, hG, z_at hl, zmk_obj hl, ↓reduceIte, z_fld hj]
  rfl
theorem g_getR (p : Nat) {t : Nat} {ix ci j c : Nat} {hh : Option String} {fs : List (Nat × Nat)} (hM : xMT (zvz k.1) mi = some M) (hf : zf M pc = some (.getfield ix)) (e : pc + 3 = p) (hG : am_mG M ix = some (ci, j, hh)) (hl : zlay c = some (.inr (ci, fs))) (hj : fs[j]? = some (4, t)) (g : zgo k d mi (p, lv, .ref (c + t) :: st) (hp s ++ x) r) : zgo k d mi (pc, lv, .ref c :: st) (hp s ++ x) r := by
  subst e
  refine zgo_st hM hf ?_ g
  simp only [am_step, am_or, am_getf, hG, z_at hl, zmk_obj hl, ↓reduceIte, z_fld hj]
  rfl
theorem g_getP (p : Nat) (ji : Int) (w : Nat) {qq : Nat} {ix ci j c : Nat} {hh : Option String} {fs : List (Nat × Nat)} (hM : xMT (zvz k.1) mi = some M) (hf : zf M pc = some (.getfield ix)) (e : pc + 3 = p) (hG : am_mG M ix = some (ci, j, hh)) (hl : zlay c = some (.inr (ci, fs))) (hj : fs[j]? = some (3, qq)) (hji : (j : Int) = ji) (hw : gP s c ji = w) (g : zgo k d mi (p, lv, .ref w :: st) (hp s ++ x) r) : zgo k d mi (pc, lv, .ref c :: st) (hp s ++ x) r := by
  subst e
  refine zgo_st hM hf ?_ g
  simp only [am_step, am_or, am_getf, hG, z_at hl, zmk_obj hl, ↓reduceIte, z_fld hj]
  subst hji; subst hw; rfl
theorem g_getN (p : Nat) (ji : Int) (w : Nat) {qq : Nat} {ix ci j c : Nat} {hh : Option String} {fs : List (Nat × Nat)} (hM : xMT (zvz k.1) mi = some M) (hf : zf M pc = some (.getfield ix)) (e : pc + 3 = p) (hG : am_mG M ix = some (ci, j, hh)) (hl : zlay c = some (.inr (ci, fs))) (hj : fs[j]? = some (5, qq)) (hji : (j : Int) = ji) (hw : gP s c ji = w) (h0 : w ≠ 0) (g : zgo k d mi (p, lv, .ref w :: st) (hp s ++ x) r) : zgo k d mi (pc, lv, .ref c :: st) (hp s ++ x) r := by
  subst e
  refine zgo_st hM hf ?_ g
  simp only [am_step, am_or, am_getf, hG, z_at hl, zmk_obj hl, ↓reduceIte, z_fld hj]
  subst hji; subst hw; simp only [zfv, gP] at h0 ⊢
theorem g_putI (p : Nat) (ji : Int) {v : Int} {qq : Nat} {ix ci j c : Nat} {hh : Option String} {fin : Bool} {fs : List (Nat × Nat)} (hM : xMT (zvz k.1) mi = some M) (hf : zf M pc = some (.putfield ix)) (e : pc + 3 = p) (hG : am_mP M ix = some (ci, j, hh, fin)) (hl : zlay c = some (.inr (ci, fs))) (hj : fs[j]? = some (0, qq)) (hji : (j : Int) = ji) (ht : am_fit (xfty ci j) (.int (Int32.ofInt v)) = true) (g : zgo k d mi (p, lv, st) (hp (sI s c ji v) ++ x) r) : zgo k d mi (pc, lv, .int (Int32.ofInt v) :: .ref c :: st) (hp s ++ x) r := by
  subst e
  subst hji
  refine zgo_st hM hf ?_ g
  have hl1 : j < (fs.mapIdx (fun j q => zfv s c j q)).length := by rw [List.length_mapIdx]; exact (List.getElem?_eq_some_iff.mp hj).1
  have h2 : zfv (sI s c (j : Int) v) c j (0, qq) = .int (Int32.ofInt v) := by
    simp only [zfv, sI, sJ, sP, if_pos]
  have h3 : zmk (sI s c (j : Int) v) c = .inr (ci, (fs.mapIdx (fun j q => zfv s c j q)).set j (.int (Int32.ofInt v))) := by
    rw [zmk_obj hl, ← h2, z_fset hj (fun j' q' h => zfv_sI h)]
  simp only [am_step, am_putf, hG, z_at hl, zmk_obj hl, ↓reduceIte, hl1, ht]
  rw [← h3, z_set hl (fun c' h => zmk_sI h)]
theorem g_putJ (p : Nat) (ji : Int) {v : BitVec 64} {qq : Nat} {ix ci j c : Nat} {hh : Option String} {fin : Bool} {fs : List (Nat × Nat)} (hM : xMT (zvz k.1) mi = some M) (hf : zf M pc = some (.putfield ix)) (e : pc + 3 = p) (hG : am_mP M ix = some (ci, j, hh, fin)) (hl : zlay c = some (.inr (ci, fs))) (hj : fs[j]? = some (1, qq)) (hji : (j : Int) = ji) (ht : am_fit (xfty ci j) (.long (Int64.ofBitVec v)) = true) (g : zgo k d mi (p, lv, st) (hp (sJ s c ji v) ++ x) r) : zgo k d mi (pc, lv, .long (Int64.ofBitVec v) :: .ref c :: st) (hp s ++ x) r := by
  subst e
  subst hji
  refine zgo_st hM hf ?_ g
  have hl1 : j < (fs.mapIdx (fun j q => zfv s c j q)).length := by rw [List.length_mapIdx]; exact (List.getElem?_eq_some_iff.mp hj).1
  have h2 : zfv (sJ s c (j : Int) v) c j (1, qq) = .long (Int64.ofBitVec v) := by
    simp only [zfv, sI, sJ, sP, if_pos]
  have h3 : zmk (sJ s c (j : Int) v) c = .inr (ci, (fs.mapIdx (fun j q => zfv s c j q)).set j (.long (Int64.ofBitVec v))) := by
    rw [zmk_obj hl, ← h2, z_fset hj (fun j' q' h => zfv_sJ h)]
  simp only [am_step, am_putf, hG, z_at hl, zmk_obj hl, ↓reduceIte, hl1, ht]
  rw [← h3, z_set hl (fun c' h => zmk_sJ h)]
theorem g_putP (p : Nat) (ji : Int) {v : Nat} {qq : Nat} {ix ci j c : Nat} {hh : Option String} {fin : Bool} {fs : List (Nat × Nat)} (hM : xMT (zvz k.1) mi = some M) (hf : zf M pc = some (.putfield ix)) (e : pc + 3 = p) (hG : am_mP M ix = some (ci, j, hh, fin)) (hl : zlay c = some (.inr (ci, fs))) (hj : fs[j]? = some (3, qq)) (hji : (j : Int) = ji) (ht : am_fit (xfty ci j) (.ref v) = true) (g : zgo k d mi (p, lv, st) (hp (sP s c ji v) ++ x) r) : zgo k d mi (pc, lv, .ref v :: .ref c :: st) (hp s ++ x) r := by
  subst e
  subst hji
  refine zgo_st hM hf ?_ g
  have hl1 : j < (fs.mapIdx (fun j q => zfv s c j q)).length := by rw [List.length_mapIdx]; exact (List.getElem?_eq_some_iff.mp hj).1
  have h2 : zfv (sP s c (j : Int) v) c j (3, qq) = .ref v := by
    simp only [zfv, sI, sJ, sP, if_pos]
  have h3 : zmk (sP s c (j : Int) v) c = .inr (ci, (fs.mapIdx (fun j q => zfv s c j q)).set j (.ref v)) := by
    rw [zmk_obj hl, ← h2, z_fset hj (fun j' q' h => zfv_sP h)]
  simp only [am_step, am_putf, hG, z_at hl, zmk_obj hl, ↓reduceIte, hl1, ht]
  rw [← h3, z_set hl (fun c' h => zmk_sP h)]
theorem g_putN (p : Nat) (ji : Int) {v : Nat} {qq : Nat} {ix ci j c : Nat} {hh : Option String} {fin : Bool} {fs : List (Nat × Nat)} (hM : xMT (zvz k.1) mi = some M) (hf : zf M pc = some (.putfield ix)) (e : pc + 3 = p) (hG : am_mP M ix = some (ci, j, hh, fin)) (hl : zlay c = some (.inr (ci, fs))) (hj : fs[j]? = some (5, qq)) (hji : (j : Int) = ji) (ht : am_fit (xfty ci j) (.ref v) = true) (h0 : v ≠ 0) (g : zgo k d mi (p, lv, st) (hp (sP s c ji v) ++ x) r) : zgo k d mi (pc, lv, .ref v :: .ref c :: st) (hp s ++ x) r := by
  subst e
  subst hji
  refine zgo_st hM hf ?_ g
  have hl1 : j < (fs.mapIdx (fun j q => zfv s c j q)).length := by rw [List.length_mapIdx]; exact (List.getElem?_eq_some_iff.mp hj).1
  have h2 : zfv (sP s c (j : Int) v) c j (5, qq) = .ref v := by
    simp only [zfv, sP, if_pos]
  have h3 : zmk (sP s c (j : Int) v) c = .inr (ci, (fs.mapIdx (fun j q => zfv s c j q)).set j (.ref v)) := by
    rw [zmk_obj hl, ← h2, z_fset hj (fun j' q' h => zfv_sP h)]
  simp only [am_step, am_putf, hG, z_at hl, zmk_obj hl, ↓reduceIte, hl1, ht]
  rw [← h3, z_set hl (fun c' h => zmk_sP h)]
theorem z_fitB {v : Int} (h : v = 0 ∨ v = 1) {ty : FieldType} (ht : ty = .boolean) : am_fit ty (.int (Int32.ofInt v)) = true := by
  subst ht
  rcases h with rfl | rfl <;> rfl
theorem z_rfitB {v : Int} (h : v = 0 ∨ v = 1) : am_rfit .boolean (Int32.ofInt v) = true := by
  rcases h with rfl | rfl <;> rfl
theorem z_narB {v : Int} (h : v = 0 ∨ v = 1) : vp_nar .boolean (Int32.ofInt v) = Int32.ofInt v := by
  rcases h with rfl | rfl <;> rfl
theorem z_ix {i nI : Int} {n : Nat} (hn : (n : Int) = nI) (hl : n ≤ 5760) (hi : 0 ≤ i ∧ i < nI) : ¬ (Int32.ofInt i < 0 ∨ n ≤ (Int32.ofInt i).toNatClampNeg) ∧ (Int32.ofInt i).toNatClampNeg = i.toNat ∧ ((i.toNat : Nat) : Int) = i := by
  have hr : zR i := ⟨by omega, by omega⟩
  rw [z_lt0 hr, z_nat hi.1 hr]
  refine ⟨by omega, rfl, by omega⟩
theorem g_iaload (p : Nat) (w : Int) {c n : Nat} {i nI : Int} (hM : xMT (zvz k.1) mi = some M) (hf : zf M pc = some .iaload) (e : pc + 1 = p) (hl : zlay c = some (.inl (.int, n))) (hn : (n : Int) = nI) (hi : 0 ≤ i ∧ i < nI) (hw : gI s c i = w) (g : zgo k d mi (p, lv, .int (Int32.ofInt w) :: st) (hp s ++ x) r) : zgo k d mi (pc, lv, .int (Int32.ofInt i) :: .ref c :: st) (hp s ++ x) r := by
  subst e
  subst hw
  obtain ⟨h1, h2, h3⟩ := z_ix hn (zlay_len hl) hi
  refine zgo_st hM hf ?_ g
  simp only [am_step, am_or, am_iald, z_at hl, zmk_arr hl, zarr]
  rw [if_neg h1, h2, h3]
  simp only [gI, gJ, Int32.ofInt_toInt]
theorem g_baload (p : Nat) (w : Int) {c n : Nat} {i nI : Int} (hM : xMT (zvz k.1) mi = some M) (hf : zf M pc = some .baload) (e : pc + 1 = p) (hl : zlay c = some (.inl (.boolean, n))) (hn : (n : Int) = nI) (hi : 0 ≤ i ∧ i < nI) (hw : gI s c i = w) (g : zgo k d mi (p, lv, .int (Int32.ofInt w) :: st) (hp s ++ x) r) : zgo k d mi (pc, lv, .int (Int32.ofInt i) :: .ref c :: st) (hp s ++ x) r := by
  subst e
  subst hw
  obtain ⟨h1, h2, h3⟩ := z_ix hn (zlay_len hl) hi
  refine zgo_st hM hf ?_ g
  simp only [am_step, am_or, am_bald, z_at hl, zmk_arr hl, zarr]
  rw [if_neg h1, h2, h3]
  simp only [gI, gJ, Int32.ofInt_toInt]
theorem g_laload (p : Nat) (w : BitVec 64) {c n : Nat} {i nI : Int} (hM : xMT (zvz k.1) mi = some M) (hf : zf M pc = some .laload) (e : pc + 1 = p) (hl : zlay c = some (.inl (.long, n))) (hn : (n : Int) = nI) (hi : 0 ≤ i ∧ i < nI) (hw : gJ s c i = w) (g : zgo k d mi (p, lv, .long (Int64.ofBitVec w) :: st) (hp s ++ x) r) : zgo k d mi (pc, lv, .int (Int32.ofInt i) :: .ref c :: st) (hp s ++ x) r := by
  subst e
  subst hw
  obtain ⟨h1, h2, h3⟩ := z_ix hn (zlay_len hl) hi
  refine zgo_st hM hf ?_ g
  simp only [am_step, am_or, am_lald, z_at hl, zmk_arr hl, zarr]
  rw [if_neg h1, h2, h3]
  simp only [gI, gJ, Int32.ofInt_toInt]
theorem g_aaload (p w : Nat) {c n : Nat} {i nI : Int} {C : String} (hM : xMT (zvz k.1) mi = some M) (hf : zf M pc = some .aaload) (e : pc + 1 = p) (hl : zlay c = some (.inl (.object C, n))) (hC : decide (FieldType.object C ∈ xtyl) = true) (hn : (n : Int) = nI) (hi : 0 ≤ i ∧ i < nI) (hw : gP s c i = w) (g : zgo k d mi (p, lv, .ref w :: st) (hp s ++ x) r) : zgo k d mi (pc, lv, .int (Int32.ofInt i) :: .ref c :: st) (hp s ++ x) r := by
  subst e
  subst hw
  obtain ⟨h1, h2, h3⟩ := z_ix hn (zlay_len hl) hi
  refine zgo_st hM hf ?_ g
  simp only [am_step, am_one, am_aald, z_at hl, zmk_arr hl, zarr]
  rw [if_neg h1, if_pos (of_decide_eq_true hC), h2, if_pos (by omega), h3]
  rfl
theorem g_iastore (p : Nat) {c n : Nat} {i nI : Int} {v : Int} (hM : xMT (zvz k.1) mi = some M) (hf : zf M pc = some .iastore) (e : pc + 1 = p) (hl : zlay c = some (.inl (.int, n))) (hn : (n : Int) = nI) (hi : 0 ≤ i ∧ i < nI) (g : zgo k d mi (p, lv, st) (hp (sI s c i v) ++ x) r) : zgo k d mi (pc, lv, .int (Int32.ofInt v) :: .int (Int32.ofInt i) :: .ref c :: st) (hp s ++ x) r := by
  subst e
  obtain ⟨h1, h2, h3⟩ := z_ix hn (zlay_len hl) hi
  refine zgo_st hM hf ?_ g
  have h4 : zmk (sI s c i v) c = .inl (.int, n, .inl (upd (fun j : Nat => s.1 c (j : Int)) i.toNat (Int32.ofInt v))) := by
    rw [zmk_arr hl]
    simp only [zarr]
    congr 4
    funext j
    simp only [sI, upd, if_pos]
    by_cases hj : (j : Int) = i
    · rw [if_pos hj, if_pos (by omega)]
    · rw [if_neg hj, if_neg (by omega)]
  simp only [am_step, am_iast, z_at hl, zmk_arr hl, zarr]
  rw [if_neg h1, h2, ← h4, z_set hl (fun c' h => zmk_sI h)]
theorem g_lastore (p : Nat) {c n : Nat} {i nI : Int} {v : BitVec 64} (hM : xMT (zvz k.1) mi = some M) (hf : zf M pc = some .lastore) (e : pc + 1 = p) (hl : zlay c = some (.inl (.long, n))) (hn : (n : Int) = nI) (hi : 0 ≤ i ∧ i < nI) (g : zgo k d mi (p, lv, st) (hp (sJ s c i v) ++ x) r) : zgo k d mi (pc, lv, .long (Int64.ofBitVec v) :: .int (Int32.ofInt i) :: .ref c :: st) (hp s ++ x) r := by
  subst e
  obtain ⟨h1, h2, h3⟩ := z_ix hn (zlay_len hl) hi
  refine zgo_st hM hf ?_ g
  have h4 : zmk (sJ s c i v) c = .inl (.long, n, .inr (.inl (vp_updL (fun j : Nat => Int64.ofBitVec (s.2.1 c (j : Int))) i.toNat (Int64.ofBitVec v)))) := by
    rw [zmk_arr hl]
    simp only [zarr]
    congr 5
    funext j
    simp only [sJ, vp_updL, if_pos]
    by_cases hj : (j : Int) = i
    · rw [if_pos hj, if_pos (by omega)]
    · rw [if_neg hj, if_neg (by omega)]
  simp only [am_step, am_last, z_at hl, zmk_arr hl, zarr]
  rw [if_neg h1, h2, ← h4, z_set hl (fun c' h => zmk_sJ h)]
theorem g_bastore (p : Nat) {c n : Nat} {i nI : Int} {v : Int} (hM : xMT (zvz k.1) mi = some M) (hf : zf M pc = some .bastore) (e : pc + 1 = p) (hl : zlay c = some (.inl (.boolean, n))) (hn : (n : Int) = nI) (hi : 0 ≤ i ∧ i < nI) (hb : v = 0 ∨ v = 1) (g : zgo k d mi (p, lv, st) (hp (sI s c i v) ++ x) r) : zgo k d mi (pc, lv, .int (Int32.ofInt v) :: .int (Int32.ofInt i) :: .ref c :: st) (hp s ++ x) r := by
  subst e
  obtain ⟨h1, h2, h3⟩ := z_ix hn (zlay_len hl) hi
  refine zgo_st hM hf ?_ g
  have h4 : zmk (sI s c i v) c = .inl (.boolean, n, .inl (upd (fun j : Nat => s.1 c (j : Int)) i.toNat (Int32.ofInt v))) := by
    rw [zmk_arr hl]
    simp only [zarr]
    congr 4
    funext j
    simp only [sI, upd, if_pos]
    by_cases hj : (j : Int) = i
    · rw [if_pos hj, if_pos (by omega)]
    · rw [if_neg hj, if_neg (by omega)]
  simp only [am_step, am_bast, z_at hl, zmk_arr hl, zarr]
  rw [if_neg h1, h2, z_narB hb, ← h4, z_set hl (fun c' h => zmk_sI h)]
theorem g_aastore (p : Nat) {c n ci v : Nat} {i nI : Int} {C : String} {fs : List (Nat × Nat)} {rr : vw_C} (hM : xMT (zvz k.1) mi = some M) (hf : zf M pc = some .aastore) (e : pc + 1 = p) (hl : zlay c = some (.inl (.object C, n))) (hv : zlay v = some (.inr (ci, fs))) (hr : xcl[ci]? = some rr) (hC2 : rr.1 = C) (hC : decide (FieldType.object C ∈ xtyl) = true) (hn : (n : Int) = nI) (hi : 0 ≤ i ∧ i < nI) (g : zgo k d mi (p, lv, st) (hp (sP s c i v) ++ x) r) : zgo k d mi (pc, lv, .ref v :: .int (Int32.ofInt i) :: .ref c :: st) (hp s ++ x) r := by
  subst e
  obtain ⟨h1, h2, h3⟩ := z_ix hn (zlay_len hl) hi
  refine zgo_st hM hf ?_ g
  have h4 : zmk (sP s c i v) c = .inl (.object C, n, .inr (.inr (.inr (.inr (va_up (fun j : Nat => if j < n then some (s.2.2 c (j : Int)) else none) i.toNat (some v)))))) := by
    rw [zmk_arr hl]
    simp only [zarr]
    congr 7
    funext j
    simp only [sP, va_up, if_pos]
    by_cases hj : (j : Int) = i
    · rw [if_pos hj, if_pos (by omega), if_pos (by omega)]
    · rw [if_neg hj, if_neg (show ¬ j = i.toNat by omega)]
  simp only [am_step, am_aast, z_at hl, z_at hv, zmk_arr hl, zmk_obj hv, zarr]
  rw [if_neg h1, hr]
  dsimp only
  rw [if_pos hC2, if_pos (of_decide_eq_true hC), h2, ← h4, z_set hl (fun c' h => zmk_sP h)]
theorem g_alen (p : Nat) (nI : Int) {c n : Nat} {ty : FieldType} (hM : xMT (zvz k.1) mi = some M) (hf : zf M pc = some .arraylength) (e : pc + 1 = p) (hl : zlay c = some (.inl (ty, n))) (hC : decide (ty ∈ xtyl) = true) (hn : (n : Int) = nI) (g : zgo k d mi (p, lv, .int (Int32.ofInt nI) :: st) (hp s ++ x) r) : zgo k d mi (pc, lv, .ref c :: st) (hp s ++ x) r := by
  subst e
  subst hn
  refine zgo_st hM hf ?_ g
  have h1 : ∃ a, zmk s c = .inl (ty, n, a) := by
    rw [zmk_arr hl]
    cases ty <;> exact ⟨_, rfl⟩
  obtain ⟨a, h1⟩ := h1
  simp only [am_step, am_or, am_alen, z_at hl, h1]
  rw [if_pos (of_decide_eq_true hC), Int32.ofInt_eq_ofNat]
def gX (k : zK) (i : Int) : Int := (k.2.2 i.toNat).toInt
def zkw (i : Int) : BitVec 64 := (xkw.getD i.toNat 0).toBitVec
def zstp (i : Int) : BitVec 64 := (xstp.getD i.toNat 0).toBitVec
def zst0 (i : Int) : Int := (xstr_0.getD i.toNat 0).toInt
def zst1 (i : Int) : Int := (xstr_1.getD i.toNat 0).toInt
theorem z_no {s : zS} {x : am_H} {j : Nat} : am_at (hp s ++ x) (am_big + j) = none := by
  unfold am_at
  rw [if_neg (by omega)]
theorem z_nob (j : Nat) : ¬ (am_big + j < am_big) := by omega
theorem z_bsub (j : Nat) : am_big + j - am_big = j := by omega
theorem g_kiaload (p : Nat) {i : Int} (hM : xMT (zvz k.1) mi = some M) (hf : zf M pc = some .iaload) (e : pc + 1 = p) (hL : k.2.1 ≤ 5760) (hi : 0 ≤ i ∧ i < k.2.1) (g : zgo k d mi (p, lv, .int (Int32.ofInt (gX k i)) :: st) (hp s ++ x) r) : zgo k d mi (pc, lv, .int (Int32.ofInt i) :: .ref (am_big + 0) :: st) (hp s ++ x) r := by
  subst e
  obtain ⟨h1, h2, h3⟩ := z_ix rfl hL hi
  refine zgo_st hM hf ?_ g
  simp only [am_step, am_or, am_one, am_iald, z_no, am_kiald, if_neg (z_nob 0), z_bsub, xkA]
  rw [if_neg h1, h2]
  simp only [gX, Int32.ofInt_toInt]
theorem g_kalenX (p : Nat) (hM : xMT (zvz k.1) mi = some M) (hf : zf M pc = some .arraylength) (e : pc + 1 = p) (g : zgo k d mi (p, lv, .int (Int32.ofInt (k.2.1 : Int)) :: st) (hp s ++ x) r) : zgo k d mi (pc, lv, .ref (am_big + 0) :: st) (hp s ++ x) r := by
  subst e
  refine zgo_st hM hf ?_ g
  simp only [am_step, am_or, am_one, am_alen, z_no, am_kalen, if_neg (z_nob 0), z_bsub, xkA, Int32.ofInt_eq_ofNat]

theorem g_klaload1 (p : Nat) {i : Int} (hM : xMT (zvz k.1) mi = some M) (hf : zf M pc = some .laload) (e : pc + 1 = p) (hi : 0 ≤ i ∧ i < 16) (g : zgo k d mi (p, lv, .long (Int64.ofBitVec (zkw i)) :: st) (hp s ++ x) r) : zgo k d mi (pc, lv, .int (Int32.ofInt i) :: .ref (am_big + 1) :: st) (hp s ++ x) r := by
  subst e
  obtain ⟨h1, h2, h3⟩ := z_ix (n := 16) rfl (by decide) hi
  refine zgo_st hM hf ?_ g
  simp only [am_step, am_or, am_one, am_lald, z_no, am_klald, if_neg (z_nob 1), z_bsub, xkA]
  rw [if_neg h1, h2]
  rfl
theorem g_kalen1 (p : Nat) (hM : xMT (zvz k.1) mi = some M) (hf : zf M pc = some .arraylength) (e : pc + 1 = p) (g : zgo k d mi (p, lv, .int (Int32.ofInt 16) :: st) (hp s ++ x) r) : zgo k d mi (pc, lv, .ref (am_big + 1) :: st) (hp s ++ x) r := by
  subst e
  refine zgo_st hM hf ?_ g
  simp only [am_step, am_or, am_one, am_alen, z_no, am_kalen, if_neg (z_nob 1), z_bsub, xkA]
  rfl
theorem g_klaload2 (p : Nat) {i : Int} (hM : xMT (zvz k.1) mi = some M) (hf : zf M pc = some .laload) (e : pc + 1 = p) (hi : 0 ≤ i ∧ i < 6) (g : zgo k d mi (p, lv, .long (Int64.ofBitVec (zstp i)) :: st) (hp s ++ x) r) : zgo k d mi (pc, lv, .int (Int32.ofInt i) :: .ref (am_big + 2) :: st) (hp s ++ x) r := by
  subst e
  obtain ⟨h1, h2, h3⟩ := z_ix (n := 6) rfl (by decide) hi
  refine zgo_st hM hf ?_ g
  simp only [am_step, am_or, am_one, am_lald, z_no, am_klald, if_neg (z_nob 2), z_bsub, xkA]
  rw [if_neg h1, h2]
  rfl
theorem g_kalen2 (p : Nat) (hM : xMT (zvz k.1) mi = some M) (hf : zf M pc = some .arraylength) (e : pc + 1 = p) (g : zgo k d mi (p, lv, .int (Int32.ofInt 6) :: st) (hp s ++ x) r) : zgo k d mi (pc, lv, .ref (am_big + 2) :: st) (hp s ++ x) r := by
  subst e
  refine zgo_st hM hf ?_ g
  simp only [am_step, am_or, am_one, am_alen, z_no, am_kalen, if_neg (z_nob 2), z_bsub, xkA]
  rfl
theorem g_kbaload5 (p : Nat) {i : Int} (hM : xMT (zvz k.1) mi = some M) (hf : zf M pc = some .baload) (e : pc + 1 = p) (hi : 0 ≤ i ∧ i < 8) (g : zgo k d mi (p, lv, .int (Int32.ofInt (zst0 i)) :: st) (hp s ++ x) r) : zgo k d mi (pc, lv, .int (Int32.ofInt i) :: .ref (am_big + 5) :: st) (hp s ++ x) r := by
  subst e
  obtain ⟨h1, h2, h3⟩ := z_ix (n := 8) rfl (by decide) hi
  refine zgo_st hM hf ?_ g
  simp only [am_step, am_or, am_one, am_bald, z_no, am_kbald, if_neg (z_nob 5), z_bsub, xkA]
  rw [if_neg h1, h2]
  simp only [zst0, Int32.ofInt_toInt]
theorem g_kalen5 (p : Nat) (hM : xMT (zvz k.1) mi = some M) (hf : zf M pc = some .arraylength) (e : pc + 1 = p) (g : zgo k d mi (p, lv, .int (Int32.ofInt 8) :: st) (hp s ++ x) r) : zgo k d mi (pc, lv, .ref (am_big + 5) :: st) (hp s ++ x) r := by
  subst e
  refine zgo_st hM hf ?_ g
  simp only [am_step, am_or, am_one, am_alen, z_no, am_kalen, if_neg (z_nob 5), z_bsub, xkA]
  rfl
theorem g_kbaload7 (p : Nat) {i : Int} (hM : xMT (zvz k.1) mi = some M) (hf : zf M pc = some .baload) (e : pc + 1 = p) (hi : 0 ≤ i ∧ i < 19) (g : zgo k d mi (p, lv, .int (Int32.ofInt (zst1 i)) :: st) (hp s ++ x) r) : zgo k d mi (pc, lv, .int (Int32.ofInt i) :: .ref (am_big + 7) :: st) (hp s ++ x) r := by
  subst e
  obtain ⟨h1, h2, h3⟩ := z_ix (n := 19) rfl (by decide) hi
  refine zgo_st hM hf ?_ g
  simp only [am_step, am_or, am_one, am_bald, z_no, am_kbald, if_neg (z_nob 7), z_bsub, xkA]
  rw [if_neg h1, h2]
  simp only [zst1, Int32.ofInt_toInt]
theorem g_kalen7 (p : Nat) (hM : xMT (zvz k.1) mi = some M) (hf : zf M pc = some .arraylength) (e : pc + 1 = p) (g : zgo k d mi (p, lv, .int (Int32.ofInt 19) :: st) (hp s ++ x) r) : zgo k d mi (pc, lv, .ref (am_big + 7) :: st) (hp s ++ x) r := by
  subst e
  refine zgo_st hM hf ?_ g
  simp only [am_step, am_or, am_one, am_alen, z_no, am_kalen, if_neg (z_nob 7), z_bsub, xkA]
  rfl
theorem g_kgetR (p : Nat) {ix j f t : Nat} (hM : xMT (zvz k.1) mi = some M) (hf : zf M pc = some (.getfield ix)) (e : pc + 3 = p) (hH : am_mH M ix = some f) (hF : xkF j f = some (.ref t)) (g : zgo k d mi (p, lv, .ref t :: st) (hp s ++ x) r) : zgo k d mi (pc, lv, .ref (am_big + j) :: st) (hp s ++ x) r := by
  subst e
  refine zgo_st hM hf ?_ g
  have h8 : am_getf (am_mG M) ix (pc, lv, .ref (am_big + j) :: st) (hp s ++ x) = none := by
    simp only [am_getf, z_no]
    cases am_mG M ix <;> rfl
  simp only [am_step, am_or, am_one, h8, am_kgetf, hH, if_neg (z_nob j), z_bsub, hF]
theorem g_kgetI (p : Nat) (n : Int) {ix j f : Nat} {v : Int32} (hM : xMT (zvz k.1) mi = some M) (hf : zf M pc = some (.getfield ix)) (e : pc + 3 = p) (hH : am_mH M ix = some f) (hF : xkF j f = some (.int v)) (hv : v = Int32.ofInt n) (g : zgo k d mi (p, lv, .int (Int32.ofInt n) :: st) (hp s ++ x) r) : zgo k d mi (pc, lv, .ref (am_big + j) :: st) (hp s ++ x) r := by
  subst e
  subst hv
  refine zgo_st hM hf ?_ g
  have h8 : am_getf (am_mG M) ix (pc, lv, .ref (am_big + j) :: st) (hp s ++ x) = none := by
    simp only [am_getf, z_no]
    cases am_mG M ix <;> rfl
  simp only [am_step, am_or, am_one, h8, am_kgetf, hH, if_neg (z_nob j), z_bsub, hF]

end ZGO
/-- the number of a cell where a Code lies -/
def zC (c : Nat) : Bool := decide (29 ≤ c ∧ c ≤ 165 ∧ (c - 29) % 8 = 0)
def zcf : List (Nat × Nat) := [(0, 0), (4, 1), (4, 2), (4, 3), (4, 4), (4, 5), (4, 6), (4, 7), (0, 0)]
theorem zC_ix {c : Nat} (h : zC c = true) : ∃ q : Fin 18, c = 29 + 8 * q.val := by
  have h1 := of_decide_eq_true h
  exact ⟨⟨(c - 29) / 8, by omega⟩, by show c = 29 + 8 * ((c - 29) / 8); omega⟩
theorem zC_ne {c : Nat} (h : zC c = true) : c ≠ 0 := by
  have h1 := of_decide_eq_true h
  omega
theorem zC_obj {c : Nat} (h : zC c = true) : zlay c = some (.inr (6, zcf)) := by
  obtain ⟨q, rfl⟩ := zC_ix h
  exact (by decide +kernel : ∀ q : Fin 18, zlay (29 + 8 * q.val) = some (.inr (6, zcf))) q

theorem zC_a1 {c : Nat} (h : zC c = true) : zlay (c + 1) = some (.inl (.int, 200)) := by
  obtain ⟨q, rfl⟩ := zC_ix h
  exact (by decide +kernel : ∀ q : Fin 18, zlay (29 + 8 * q.val + 1) = some (.inl (.int, 200))) q
theorem zC_a2 {c : Nat} (h : zC c = true) : zlay (c + 2) = some (.inl (.int, 200)) := by
  obtain ⟨q, rfl⟩ := zC_ix h
  exact (by decide +kernel : ∀ q : Fin 18, zlay (29 + 8 * q.val + 2) = some (.inl (.int, 200))) q
theorem zC_a3 {c : Nat} (h : zC c = true) : zlay (c + 3) = some (.inl (.int, 200)) := by
  obtain ⟨q, rfl⟩ := zC_ix h
  exact (by decide +kernel : ∀ q : Fin 18, zlay (29 + 8 * q.val + 3) = some (.inl (.int, 200))) q
theorem zC_a4 {c : Nat} (h : zC c = true) : zlay (c + 4) = some (.inl (.int, 200)) := by
  obtain ⟨q, rfl⟩ := zC_ix h
  exact (by decide +kernel : ∀ q : Fin 18, zlay (29 + 8 * q.val + 4) = some (.inl (.int, 200))) q
theorem zC_a5 {c : Nat} (h : zC c = true) : zlay (c + 5) = some (.inl (.int, 200)) := by
  obtain ⟨q, rfl⟩ := zC_ix h
  exact (by decide +kernel : ∀ q : Fin 18, zlay (29 + 8 * q.val + 5) = some (.inl (.int, 200))) q
theorem zC_a6 {c : Nat} (h : zC c = true) : zlay (c + 6) = some (.inl (.int, 200)) := by
  obtain ⟨q, rfl⟩ := zC_ix h
  exact (by decide +kernel : ∀ q : Fin 18, zlay (29 + 8 * q.val + 6) = some (.inl (.int, 200))) q
theorem zC_a7 {c : Nat} (h : zC c = true) : zlay (c + 7) = some (.inl (.int, 200)) := by
  obtain ⟨q, rfl⟩ := zC_ix h
  exact (by decide +kernel : ∀ q : Fin 18, zlay (29 + 8 * q.val + 7) = some (.inl (.int, 200))) q
