/-! THE ABSTRACT MACHINE, frame steps. A frame is (pc, locals by place, operand stack); a reference is the number of an own cell (from the law's start on), or am_big and more for a thing that was there before. -/
abbrev am_F : Type := Nat × List (Nat × Value) × List Value
def am_big : Nat := 1099511627776
/-- the address of the own cell k, or of the k - am_big th thing that was there -/
def am_cr (base : Nat) (g : Nat → Nat) (k : Nat) : Nat := if k < am_big then base + k else g (k - am_big)
def am_cv (base : Nat) (g : Nat → Nat) (v : Value) : Value := match v with
  | .ref k => .ref (am_cr base g k)
  | .int x => .int x
  | .long x => .long x
  | .float x => .float x
  | .double x => .double x
  | .null => .null
  | .retAddr x => .retAddr x
theorem am_cv_cat (base : Nat) (g : Nat → Nat) (v : Value) : (am_cv base g v).category = v.category := by cases v <;> rfl
abbrev am_cq (base : Nat) (g : Nat → Nat) (q : Nat × Value) : Nat × Value := (q.1, am_cv base g q.2)
abbrev am_lv (base : Nat) (g : Nat → Nat) (lv : List (Nat × Value)) : List (Nat × Value) := lv.map (am_cq base g)
abbrev am_sk (base : Nat) (g : Nat → Nat) (st : List Value) : List Value := st.map (am_cv base g)
def am_ld (lv : List (Nat × Value)) (i : Nat) : Option Value := (lv.find? (fun q => q.1 == i)).map (fun q => q.2)
def am_st1 (lv : List (Nat × Value)) (i : Nat) (v : Value) : List (Nat × Value) := (i, v) :: lv.filter (fun q => !(q.1 == i) && !(q.1 + 1 == i && q.2.category == 2))
def am_st2 (lv : List (Nat × Value)) (i : Nat) (v : Value) : List (Nat × Value) := (i, v) :: lv.filter (fun q => !(q.1 == i) && (!(q.1 == i + 1) && !(q.1 + 1 == i && q.2.category == 2)))
def am_br (pc : Nat) (off : Int) : Option Nat := match (pc : Int) + off with
  | .ofNat t => some t
  | .negSucc _ => none
theorem am_br_spec {pc t : Nat} {off : Int} (h : am_br pc off = some t) : (pc : Int) + off = (t : Int) := by
  unfold am_br at h
  split at h
  · next t' e => cases h; exact e
  · cases h
theorem am_ld_mem {lv : List (Nat × Value)} {i : Nat} {v : Value} (h : am_ld lv i = some v) : (i, v) ∈ lv := by
  unfold am_ld at h
  cases hf : lv.find? (fun q => q.1 == i) with
  | none => rw [hf] at h; cases h
  | some q =>
    rw [hf] at h
    have h1 := List.find?_some hf
    have h2 := List.mem_of_find?_eq_some hf
    obtain ⟨a, b⟩ := q
    simp only [Option.map_some, Option.some.injEq] at h
    simp only [beq_iff_eq] at h1
    subst h; subst h1
    exact h2
theorem am_ld_has {base : Nat} {g : Nat → Nat} {ls : Array Slot} {nL : Nat} {lv : List (Nat × Value)} (hl : lv_has ls nL (am_lv base g lv)) {i : Nat} {v : Value} (h : am_ld lv i = some v) : ls[i]? = some (.val (am_cv base g v)) :=
  hl.2.2 (i, am_cv base g v) (List.mem_map.mpr ⟨(i, v), am_ld_mem h, rfl⟩)
theorem am_st1_lv (base : Nat) (g : Nat → Nat) (lv : List (Nat × Value)) (i : Nat) (v : Value) : (i, am_cv base g v) :: (am_lv base g lv).filter (fun q => !(q.1 == i) && !(q.1 + 1 == i && q.2.category == 2)) = am_lv base g (am_st1 lv i v) := by
  simp only [am_lv, am_st1, List.map_cons, List.filter_map, Function.comp_def, am_cv_cat]
theorem am_st2_lv (base : Nat) (g : Nat → Nat) (lv : List (Nat × Value)) (i : Nat) (v : Value) : (i, am_cv base g v) :: (am_lv base g lv).filter (fun q => !(q.1 == i) && (!(q.1 == i + 1) && !(q.1 + 1 == i && q.2.category == 2))) = am_lv base g (am_st2 lv i v) := by
  simp only [am_lv, am_st2, List.map_cons, List.filter_map, Function.comp_def, am_cv_cat]
def am_ii (f : am_F) (op : Int32 → Int32 → Option Value) : Option am_F := match f.2.2 with
  | .int y :: .int x :: st => (match op x y with | some v => some (f.1 + 1, f.2.1, v :: st) | none => none)
  | _ => none
def am_i (f : am_F) (op : Int32 → Value) : Option am_F := match f.2.2 with
  | .int x :: st => some (f.1 + 1, f.2.1, op x :: st)
  | _ => none
def am_ll (f : am_F) (op : Int64 → Int64 → Option Value) : Option am_F := match f.2.2 with
  | .long y :: .long x :: st => (match op x y with | some v => some (f.1 + 1, f.2.1, v :: st) | none => none)
  | _ => none
def am_l (f : am_F) (op : Int64 → Value) : Option am_F := match f.2.2 with
  | .long x :: st => some (f.1 + 1, f.2.1, op x :: st)
  | _ => none
def am_li (f : am_F) (op : Int64 → Int32 → Value) : Option am_F := match f.2.2 with
  | .int y :: .long x :: st => some (f.1 + 1, f.2.1, op x y :: st)
  | _ => none
def am_ldi (f : am_F) (n i : Nat) : Option am_F := match am_ld f.2.1 i with
  | some (.int x) => some (f.1 + n, f.2.1, .int x :: f.2.2)
  | _ => none
def am_ldl (f : am_F) (n i : Nat) : Option am_F := match am_ld f.2.1 i with
  | some (.long x) => some (f.1 + n, f.2.1, .long x :: f.2.2)
  | _ => none
def am_lda (f : am_F) (n i : Nat) : Option am_F := match am_ld f.2.1 i with
  | some (.ref x) => some (f.1 + n, f.2.1, .ref x :: f.2.2)
  | some .null => some (f.1 + n, f.2.1, .null :: f.2.2)
  | _ => none
def am_sti (nL : Nat) (f : am_F) (n i : Nat) : Option am_F := match f.2.2 with
  | .int x :: st => if i < nL then some (f.1 + n, am_st1 f.2.1 i (.int x), st) else none
  | _ => none
def am_stl (nL : Nat) (f : am_F) (n i : Nat) : Option am_F := match f.2.2 with
  | .long x :: st => if i + 1 < nL then some (f.1 + n, am_st2 f.2.1 i (.long x), st) else none
  | _ => none
def am_sta (nL : Nat) (f : am_F) (n i : Nat) : Option am_F := match f.2.2 with
  | .ref x :: st => if i < nL then some (f.1 + n, am_st1 f.2.1 i (.ref x), st) else none
  | .null :: st => if i < nL then some (f.1 + n, am_st1 f.2.1 i .null, st) else none
  | _ => none
def am_inc (nL : Nat) (f : am_F) (i : Nat) (n : Int) : Option am_F := match am_ld f.2.1 i with
  | some (.int x) => if i < nL then some (f.1 + 3, am_st1 f.2.1 i (.int (x + Int32.ofInt n)), f.2.2) else none
  | _ => none
def am_jmp (f : am_F) (st : List Value) (b : Bool) (off : Int) : Option am_F := match am_br f.1 off with
  | some t => some (if b then t else f.1 + 3, f.2.1, st)
  | none => none
def am_if (f : am_F) (P : Int32 → Bool) (off : Int) : Option am_F := match f.2.2 with
  | .int x :: st => am_jmp f st (P x) off
  | _ => none
def am_ic (f : am_F) (P : Int32 → Int32 → Bool) (off : Int) : Option am_F := match f.2.2 with
  | .int y :: .int x :: st => am_jmp f st (P x y) off
  | _ => none
def am_nul (f : am_F) (b : Bool) (off : Int) : Option am_F := match f.2.2 with
  | .null :: st => am_jmp f st b off
  | .ref _ :: st => am_jmp f st (!b) off
  | _ => none
def am_dup (f : am_F) : Option am_F := match f.2.2 with
  | v :: st => if v.category = 1 then some (f.1 + 1, f.2.1, v :: v :: st) else none
  | _ => none
def am_dup2 (f : am_F) : Option am_F := match f.2.2 with
  | v :: st => if v.category = 2 then some (f.1 + 1, f.2.1, v :: v :: st) else (match st with
    | u :: st2 => if v.category = 1 ∧ u.category = 1 then some (f.1 + 1, f.2.1, v :: u :: v :: u :: st2) else none
    | _ => none)
  | _ => none
def am_dupx1 (f : am_F) : Option am_F := match f.2.2 with
  | v :: u :: st => if v.category = 1 ∧ u.category = 1 then some (f.1 + 1, f.2.1, v :: u :: v :: st) else none
  | _ => none
def am_dupx2 (f : am_F) : Option am_F := match f.2.2 with
  | v :: u :: t :: st => if v.category = 1 ∧ u.category = 1 ∧ t.category = 1 then some (f.1 + 1, f.2.1, v :: u :: t :: v :: st) else none
  | _ => none
def am_dup2x1 (f : am_F) : Option am_F := match f.2.2 with
  | v :: u :: st => if v.category = 2 ∧ u.category = 1 then some (f.1 + 1, f.2.1, v :: u :: v :: st) else none
  | _ => none
def am_pop (f : am_F) : Option am_F := match f.2.2 with
  | v :: st => if v.category = 1 then some (f.1 + 1, f.2.1, st) else none
  | _ => none
def am_pop2 (f : am_F) : Option am_F := match f.2.2 with
  | v :: st => if v.category = 2 then some (f.1 + 1, f.2.1, st) else none
  | _ => none
def am_tsw (f : am_F) (dflt lo hi : Int) (offs : Array Int) : Option am_F := match f.2.2 with
  | .int x :: st => if x.toInt < lo ∨ hi < x.toInt then (match am_br f.1 dflt with | some t => some (t, f.2.1, st) | none => none)
      else (match offs[(x.toInt - lo).toNat]? with
        | some off => (match am_br f.1 off with | some t => some (t, f.2.1, st) | none => none)
        | none => none)
  | _ => none
def am_lsw (f : am_F) (dflt : Int) (ps : Array (Int × Int)) : Option am_F := match f.2.2 with
  | .int x :: st => if (ps.toList.zip (ps.toList.drop 1)).all (fun (a, next) => a.1 < next.1) = true then (match am_br f.1 (Op.lookupswitch.offset ps.toList dflt x.toInt) with | some t => some (t, f.2.1, st) | none => none) else none
  | _ => none
/-- a step of the frame alone; nL: how many places its locals have -/
def am_P (nL : Nat) (i : Instr) (f : am_F) : Option am_F := match i with
  | .iadd => am_ii f (fun x y => some (.int (x + y)))
  | .isub => am_ii f (fun x y => some (.int (x - y)))
  | .imul => am_ii f (fun x y => some (.int (x * y)))
  | .iand => am_ii f (fun x y => some (.int (x &&& y)))
  | .ior => am_ii f (fun x y => some (.int (x ||| y)))
  | .ixor => am_ii f (fun x y => some (.int (x ^^^ y)))
  | .idiv => am_ii f (fun x y => if y = 0 then none else some (.int (x / y)))
  | .irem => am_ii f (fun x y => if y = 0 then none else some (.int (x - x / y * y)))
  | .ishl => am_ii f (fun x y => some (.int (x <<< (y &&& 31))))
  | .ishr => am_ii f (fun x y => some (.int (x >>> (y &&& 31))))
  | .iushr => am_ii f (fun x y => some (.int (x.toUInt32 >>> (y.toUInt32 &&& Int32.toUInt32 31)).toInt32))
  | .ineg => am_i f (fun x => .int (-x))
  | .i2l => am_i f (fun x => .long x.toInt64)
  | .i2b => am_i f (fun x => .int x.toInt8.toInt32)
  | .i2c => am_i f (fun x => .int (x.toUInt32 % 65536).toInt32)
  | .i2s => am_i f (fun x => .int x.toInt16.toInt32)
  | .ladd => am_ll f (fun x y => some (.long (x + y)))
  | .lsub => am_ll f (fun x y => some (.long (x - y)))
  | .lmul => am_ll f (fun x y => some (.long (x * y)))
  | .land => am_ll f (fun x y => some (.long (x &&& y)))
  | .lor => am_ll f (fun x y => some (.long (x ||| y)))
  | .lxor => am_ll f (fun x y => some (.long (x ^^^ y)))
  | .ldiv => am_ll f (fun x y => if y = 0 then none else some (.long (x / y)))
  | .lrem => am_ll f (fun x y => if y = 0 then none else some (.long (x - x / y * y)))
  | .lcmp => am_ll f (fun x y => some (.int (lg_cmp x y)))
  | .lneg => am_l f (fun x => .long (-x))
  | .l2i => am_l f (fun x => .int x.toInt32)
  | .lshl => am_li f (fun x y => .long (x <<< (y.toInt64 &&& 63)))
  | .lshr => am_li f (fun x y => .long (x >>> (y.toInt64 &&& 63)))
  | .lushr => am_li f (fun x y => .long (x.toUInt64 >>> (y.toInt64.toUInt64 &&& Int64.toUInt64 63)).toInt64)
  | .aconst_null => some (f.1 + 1, f.2.1, .null :: f.2.2)
  | .iconst n => some (f.1 + 1, f.2.1, .int (Int32.ofInt n) :: f.2.2)
  | .lconst n => some (f.1 + 1, f.2.1, .long (Int64.ofNat (n : Nat)) :: f.2.2)
  | .bipush n => some (f.1 + 2, f.2.1, .int (Int8.ofInt n).toInt32 :: f.2.2)
  | .sipush n => some (f.1 + 3, f.2.1, .int (Int16.ofInt n).toInt32 :: f.2.2)
  | .iload n => am_ldi f 2 n
  | .iload_n n => am_ldi f 1 (n : Nat)
  | .lload n => am_ldl f 2 n
  | .lload_n n => am_ldl f 1 (n : Nat)
  | .aload n => am_lda f 2 n
  | .aload_n n => am_lda f 1 (n : Nat)
  | .istore n => am_sti nL f 2 n
  | .istore_n n => am_sti nL f 1 (n : Nat)
  | .lstore n => am_stl nL f 2 n
  | .lstore_n n => am_stl nL f 1 (n : Nat)
  | .astore n => am_sta nL f 2 n
  | .astore_n n => am_sta nL f 1 (n : Nat)
  | .iinc n z => am_inc nL f n z
  | .goto o => (match am_br f.1 o with | some t => some (t, f.2.1, f.2.2) | none => none)
  | .ifnull o => am_nul f true o
  | .ifnonnull o => am_nul f false o
  | .dup => am_dup f
  | .dup_x1 => am_dupx1 f
  | .dup_x2 => am_dupx2 f
  | .dup2 => am_dup2 f
  | .dup2_x1 => am_dup2x1 f
  | .pop => am_pop f
  | .pop2 => am_pop2 f
  | .tableswitch d lo hi os => am_tsw f d lo hi os
  | .lookupswitch d ps => am_lsw f d ps
  | .ifCond cd o => (match cd with
    | .eq => am_if f (fun x => decide (x = 0)) o
    | .ne => am_if f (fun x => decide (¬ x = 0)) o
    | .lt => am_if f (fun x => decide (x < 0)) o
    | .ge => am_if f (fun x => decide (0 ≤ x)) o
    | .gt => am_if f (fun x => decide (0 < x)) o
    | .le => am_if f (fun x => decide (x ≤ 0)) o
    )
  | .if_icmp cd o => (match cd with
    | .eq => am_ic f (fun x y => decide (x = y)) o
    | .ne => am_ic f (fun x y => decide (¬ x = y)) o
    | .lt => am_ic f (fun x y => decide (x < y)) o
    | .ge => am_ic f (fun x y => decide (y ≤ x)) o
    | .gt => am_ic f (fun x y => decide (y < x)) o
    | .le => am_ic f (fun x y => decide (x ≤ y)) o
    )
  | _ => none
/-- how long such an instruction is -/
def am_len (i : Instr) (len : Nat) : Bool := match i with
  | .iadd => len == 1
  | .isub => len == 1
  | .imul => len == 1
  | .iand => len == 1
  | .ior => len == 1
  | .ixor => len == 1
  | .idiv => len == 1
  | .irem => len == 1
  | .ishl => len == 1
  | .ishr => len == 1
  | .iushr => len == 1
  | .ineg => len == 1
  | .i2l => len == 1
  | .i2b => len == 1
  | .i2c => len == 1
  | .i2s => len == 1
  | .ladd => len == 1
  | .lsub => len == 1
  | .lmul => len == 1
  | .land => len == 1
  | .lor => len == 1
  | .lxor => len == 1
  | .ldiv => len == 1
  | .lrem => len == 1
  | .lcmp => len == 1
  | .lneg => len == 1
  | .l2i => len == 1
  | .lshl => len == 1
  | .lshr => len == 1
  | .lushr => len == 1
  | .aconst_null => len == 1
  | .iconst _ => len == 1
  | .lconst _ => len == 1
  | .bipush _ => len == 2
  | .sipush _ => len == 3
  | .iload _ => len == 2
  | .iload_n _ => len == 1
  | .lload _ => len == 2
  | .lload_n _ => len == 1
  | .aload _ => len == 2
  | .aload_n _ => len == 1
  | .istore _ => len == 2
  | .istore_n _ => len == 1
  | .lstore _ => len == 2
  | .lstore_n _ => len == 1
  | .astore _ => len == 2
  | .astore_n _ => len == 1
  | .iinc _ _ => len == 3
  | .goto _ => len == 3
  | .ifnull _ => len == 3
  | .ifnonnull _ => len == 3
  | .dup => len == 1
  | .dup_x1 => len == 1
  | .dup_x2 => len == 1
  | .dup2 => len == 1
  | .dup2_x1 => len == 1
  | .pop => len == 1
  | .pop2 => len == 1
  | .tableswitch _ _ _ _ => true
  | .lookupswitch _ _ => true
  | .ifCond _ _ => len == 3
  | .if_icmp _ _ => len == 3
  | _ => false
section AMF
variable {p : Program} {l : Launch} {e : Env} {R : Room} {s : State} {m : MethodId} {args : Array Value} {below : List Frame} {meth : Method} {c : Code} {H : Heap} {locs : List Loc} {cells slots : Nat} {Q : State → Prop}
variable {cc : ByteArray} {pc nL base : Nat} {g : Nat → Nat} {ls : Array Slot} {lv : List (Nat × Value)} {st : List Value} {f' : am_F}
/-- what is to be shown of the next frame -/
def am_Go (p : Program) (l : Launch) (e : Env) (R : Room) (s : State) (m : MethodId) (args : Array Value) (below : List Frame) (meth : Method) (c : Code) (H : Heap) (locs : List Loc) (cells slots : Nat) (Q : State → Prop) (nL base : Nat) (g : Nat → Nat) (f : am_F) : Prop :=
  ∀ ls : Array Slot, lv_has ls nL (am_lv base g f.2.1) → W p l e R s m args below meth c H locs cells slots Q (F0 m f.1 ls (am_sk base g f.2.2))
theorem am_s_iadd (hx : p.tables.exec = Jvm.exec) (hb : c.code = cc) (hs : am_P nL (.iadd) (pc, lv, st) = some f') (hdg : decode cc pc = .ok (.iadd, 1)) (hl : lv_has ls nL (am_lv base g lv)) (kk : am_Go p l e R s m args below meth c H locs cells slots Q nL base g f') : W p l e R s m args below meth c H locs cells slots Q (F0 m pc ls (am_sk base g st)) := by
  simp only [am_P, am_ii] at hs
  split at hs
  · next y x st2 =>
    cases hs
    exact lv_iadd hx hb hdg (kk ls hl)
  · cases hs
theorem am_s_isub (hx : p.tables.exec = Jvm.exec) (hb : c.code = cc) (hs : am_P nL (.isub) (pc, lv, st) = some f') (hdg : decode cc pc = .ok (.isub, 1)) (hl : lv_has ls nL (am_lv base g lv)) (kk : am_Go p l e R s m args below meth c H locs cells slots Q nL base g f') : W p l e R s m args below meth c H locs cells slots Q (F0 m pc ls (am_sk base g st)) := by
  simp only [am_P, am_ii] at hs
  split at hs
  · next y x st2 =>
    cases hs
    exact lv_isub hx hb hdg (kk ls hl)
  · cases hs
theorem am_s_imul (hx : p.tables.exec = Jvm.exec) (hb : c.code = cc) (hs : am_P nL (.imul) (pc, lv, st) = some f') (hdg : decode cc pc = .ok (.imul, 1)) (hl : lv_has ls nL (am_lv base g lv)) (kk : am_Go p l e R s m args below meth c H locs cells slots Q nL base g f') : W p l e R s m args below meth c H locs cells slots Q (F0 m pc ls (am_sk base g st)) := by
  simp only [am_P, am_ii] at hs
  split at hs
  · next y x st2 =>
    cases hs
    exact lv_imul hx hb hdg (kk ls hl)
  · cases hs
theorem am_s_iand (hx : p.tables.exec = Jvm.exec) (hb : c.code = cc) (hs : am_P nL (.iand) (pc, lv, st) = some f') (hdg : decode cc pc = .ok (.iand, 1)) (hl : lv_has ls nL (am_lv base g lv)) (kk : am_Go p l e R s m args below meth c H locs cells slots Q nL base g f') : W p l e R s m args below meth c H locs cells slots Q (F0 m pc ls (am_sk base g st)) := by
  simp only [am_P, am_ii] at hs
  split at hs
  · next y x st2 =>
    cases hs
    exact lv_iand hx hb hdg (kk ls hl)
  · cases hs
theorem am_s_ior (hx : p.tables.exec = Jvm.exec) (hb : c.code = cc) (hs : am_P nL (.ior) (pc, lv, st) = some f') (hdg : decode cc pc = .ok (.ior, 1)) (hl : lv_has ls nL (am_lv base g lv)) (kk : am_Go p l e R s m args below meth c H locs cells slots Q nL base g f') : W p l e R s m args below meth c H locs cells slots Q (F0 m pc ls (am_sk base g st)) := by
  simp only [am_P, am_ii] at hs
  split at hs
  · next y x st2 =>
    cases hs
    exact lv_ior hx hb hdg (kk ls hl)
  · cases hs
theorem am_s_ixor (hx : p.tables.exec = Jvm.exec) (hb : c.code = cc) (hs : am_P nL (.ixor) (pc, lv, st) = some f') (hdg : decode cc pc = .ok (.ixor, 1)) (hl : lv_has ls nL (am_lv base g lv)) (kk : am_Go p l e R s m args below meth c H locs cells slots Q nL base g f') : W p l e R s m args below meth c H locs cells slots Q (F0 m pc ls (am_sk base g st)) := by
  simp only [am_P, am_ii] at hs
  split at hs
  · next y x st2 =>
    cases hs
    exact lv_ixor hx hb hdg (kk ls hl)
  · cases hs
theorem am_s_idiv (hx : p.tables.exec = Jvm.exec) (hb : c.code = cc) (hs : am_P nL (.idiv) (pc, lv, st) = some f') (hdg : decode cc pc = .ok (.idiv, 1)) (hl : lv_has ls nL (am_lv base g lv)) (kk : am_Go p l e R s m args below meth c H locs cells slots Q nL base g f') : W p l e R s m args below meth c H locs cells slots Q (F0 m pc ls (am_sk base g st)) := by
  simp only [am_P, am_ii] at hs
  split at hs
  · next y x st2 =>
    by_cases hy : y = 0
    · simp [hy] at hs
    · rw [if_neg hy] at hs
      cases hs
      exact lv_idiv hx hb hdg hy (kk ls hl)
  · cases hs
theorem am_s_irem (hx : p.tables.exec = Jvm.exec) (hb : c.code = cc) (hs : am_P nL (.irem) (pc, lv, st) = some f') (hdg : decode cc pc = .ok (.irem, 1)) (hl : lv_has ls nL (am_lv base g lv)) (kk : am_Go p l e R s m args below meth c H locs cells slots Q nL base g f') : W p l e R s m args below meth c H locs cells slots Q (F0 m pc ls (am_sk base g st)) := by
  simp only [am_P, am_ii] at hs
  split at hs
  · next y x st2 =>
    by_cases hy : y = 0
    · simp [hy] at hs
    · rw [if_neg hy] at hs
      cases hs
      exact lv_irem hx hb hdg hy (kk ls hl)
  · cases hs
theorem am_s_ishl (hx : p.tables.exec = Jvm.exec) (hb : c.code = cc) (hs : am_P nL (.ishl) (pc, lv, st) = some f') (hdg : decode cc pc = .ok (.ishl, 1)) (hl : lv_has ls nL (am_lv base g lv)) (kk : am_Go p l e R s m args below meth c H locs cells slots Q nL base g f') : W p l e R s m args below meth c H locs cells slots Q (F0 m pc ls (am_sk base g st)) := by
  simp only [am_P, am_ii] at hs
  split at hs
  · next y x st2 =>
    cases hs
    exact lv_ishl hx hb hdg (kk ls hl)
  · cases hs
theorem am_s_ishr (hx : p.tables.exec = Jvm.exec) (hb : c.code = cc) (hs : am_P nL (.ishr) (pc, lv, st) = some f') (hdg : decode cc pc = .ok (.ishr, 1)) (hl : lv_has ls nL (am_lv base g lv)) (kk : am_Go p l e R s m args below meth c H locs cells slots Q nL base g f') : W p l e R s m args below meth c H locs cells slots Q (F0 m pc ls (am_sk base g st)) := by
  simp only [am_P, am_ii] at hs
  split at hs
  · next y x st2 =>
    cases hs
    exact lv_ishr hx hb hdg (kk ls hl)
  · cases hs
theorem am_s_iushr (hx : p.tables.exec = Jvm.exec) (hb : c.code = cc) (hs : am_P nL (.iushr) (pc, lv, st) = some f') (hdg : decode cc pc = .ok (.iushr, 1)) (hl : lv_has ls nL (am_lv base g lv)) (kk : am_Go p l e R s m args below meth c H locs cells slots Q nL base g f') : W p l e R s m args below meth c H locs cells slots Q (F0 m pc ls (am_sk base g st)) := by
  simp only [am_P, am_ii] at hs
  split at hs
  · next y x st2 =>
    cases hs
    exact lv_iushr hx hb hdg rfl (kk ls hl)
  · cases hs
theorem am_s_ineg (hx : p.tables.exec = Jvm.exec) (hb : c.code = cc) (hs : am_P nL (.ineg) (pc, lv, st) = some f') (hdg : decode cc pc = .ok (.ineg, 1)) (hl : lv_has ls nL (am_lv base g lv)) (kk : am_Go p l e R s m args below meth c H locs cells slots Q nL base g f') : W p l e R s m args below meth c H locs cells slots Q (F0 m pc ls (am_sk base g st)) := by
  simp only [am_P, am_i] at hs
  split at hs
  · next x st2 =>
    cases hs
    exact lv_ineg hx hb hdg (kk ls hl)
  · cases hs
theorem am_s_i2l (hx : p.tables.exec = Jvm.exec) (hb : c.code = cc) (hs : am_P nL (.i2l) (pc, lv, st) = some f') (hdg : decode cc pc = .ok (.i2l, 1)) (hl : lv_has ls nL (am_lv base g lv)) (kk : am_Go p l e R s m args below meth c H locs cells slots Q nL base g f') : W p l e R s m args below meth c H locs cells slots Q (F0 m pc ls (am_sk base g st)) := by
  simp only [am_P, am_i] at hs
  split at hs
  · next x st2 =>
    cases hs
    exact lv_i2l hx hb hdg rfl (kk ls hl)
  · cases hs
theorem am_s_i2b (hx : p.tables.exec = Jvm.exec) (hb : c.code = cc) (hs : am_P nL (.i2b) (pc, lv, st) = some f') (hdg : decode cc pc = .ok (.i2b, 1)) (hl : lv_has ls nL (am_lv base g lv)) (kk : am_Go p l e R s m args below meth c H locs cells slots Q nL base g f') : W p l e R s m args below meth c H locs cells slots Q (F0 m pc ls (am_sk base g st)) := by
  simp only [am_P, am_i] at hs
  split at hs
  · next x st2 =>
    cases hs
    exact lv_i2b hx hb hdg rfl (kk ls hl)
  · cases hs
theorem am_s_i2c (hx : p.tables.exec = Jvm.exec) (hb : c.code = cc) (hs : am_P nL (.i2c) (pc, lv, st) = some f') (hdg : decode cc pc = .ok (.i2c, 1)) (hl : lv_has ls nL (am_lv base g lv)) (kk : am_Go p l e R s m args below meth c H locs cells slots Q nL base g f') : W p l e R s m args below meth c H locs cells slots Q (F0 m pc ls (am_sk base g st)) := by
  simp only [am_P, am_i] at hs
  split at hs
  · next x st2 =>
    cases hs
    exact lv_i2c hx hb hdg rfl (kk ls hl)
  · cases hs
theorem am_s_i2s (hx : p.tables.exec = Jvm.exec) (hb : c.code = cc) (hs : am_P nL (.i2s) (pc, lv, st) = some f') (hdg : decode cc pc = .ok (.i2s, 1)) (hl : lv_has ls nL (am_lv base g lv)) (kk : am_Go p l e R s m args below meth c H locs cells slots Q nL base g f') : W p l e R s m args below meth c H locs cells slots Q (F0 m pc ls (am_sk base g st)) := by
  simp only [am_P, am_i] at hs
  split at hs
  · next x st2 =>
    cases hs
    exact lv_i2s hx hb hdg rfl (kk ls hl)
  · cases hs
theorem am_s_ladd (hx : p.tables.exec = Jvm.exec) (hb : c.code = cc) (hs : am_P nL (.ladd) (pc, lv, st) = some f') (hdg : decode cc pc = .ok (.ladd, 1)) (hl : lv_has ls nL (am_lv base g lv)) (kk : am_Go p l e R s m args below meth c H locs cells slots Q nL base g f') : W p l e R s m args below meth c H locs cells slots Q (F0 m pc ls (am_sk base g st)) := by
  simp only [am_P, am_ll] at hs
  split at hs
  · next y x st2 =>
    cases hs
    exact lv_ladd hx hb hdg (kk ls hl)
  · cases hs
theorem am_s_lsub (hx : p.tables.exec = Jvm.exec) (hb : c.code = cc) (hs : am_P nL (.lsub) (pc, lv, st) = some f') (hdg : decode cc pc = .ok (.lsub, 1)) (hl : lv_has ls nL (am_lv base g lv)) (kk : am_Go p l e R s m args below meth c H locs cells slots Q nL base g f') : W p l e R s m args below meth c H locs cells slots Q (F0 m pc ls (am_sk base g st)) := by
  simp only [am_P, am_ll] at hs
  split at hs
  · next y x st2 =>
    cases hs
    exact lv_lsub hx hb hdg (kk ls hl)
  · cases hs
theorem am_s_lmul (hx : p.tables.exec = Jvm.exec) (hb : c.code = cc) (hs : am_P nL (.lmul) (pc, lv, st) = some f') (hdg : decode cc pc = .ok (.lmul, 1)) (hl : lv_has ls nL (am_lv base g lv)) (kk : am_Go p l e R s m args below meth c H locs cells slots Q nL base g f') : W p l e R s m args below meth c H locs cells slots Q (F0 m pc ls (am_sk base g st)) := by
  simp only [am_P, am_ll] at hs
  split at hs
  · next y x st2 =>
    cases hs
    exact lv_lmul hx hb hdg (kk ls hl)
  · cases hs
theorem am_s_land (hx : p.tables.exec = Jvm.exec) (hb : c.code = cc) (hs : am_P nL (.land) (pc, lv, st) = some f') (hdg : decode cc pc = .ok (.land, 1)) (hl : lv_has ls nL (am_lv base g lv)) (kk : am_Go p l e R s m args below meth c H locs cells slots Q nL base g f') : W p l e R s m args below meth c H locs cells slots Q (F0 m pc ls (am_sk base g st)) := by
  simp only [am_P, am_ll] at hs
  split at hs
  · next y x st2 =>
    cases hs
    exact lv_land hx hb hdg (kk ls hl)
  · cases hs
theorem am_s_lor (hx : p.tables.exec = Jvm.exec) (hb : c.code = cc) (hs : am_P nL (.lor) (pc, lv, st) = some f') (hdg : decode cc pc = .ok (.lor, 1)) (hl : lv_has ls nL (am_lv base g lv)) (kk : am_Go p l e R s m args below meth c H locs cells slots Q nL base g f') : W p l e R s m args below meth c H locs cells slots Q (F0 m pc ls (am_sk base g st)) := by
  simp only [am_P, am_ll] at hs
  split at hs
  · next y x st2 =>
    cases hs
    exact lv_lor hx hb hdg (kk ls hl)
  · cases hs
theorem am_s_lxor (hx : p.tables.exec = Jvm.exec) (hb : c.code = cc) (hs : am_P nL (.lxor) (pc, lv, st) = some f') (hdg : decode cc pc = .ok (.lxor, 1)) (hl : lv_has ls nL (am_lv base g lv)) (kk : am_Go p l e R s m args below meth c H locs cells slots Q nL base g f') : W p l e R s m args below meth c H locs cells slots Q (F0 m pc ls (am_sk base g st)) := by
  simp only [am_P, am_ll] at hs
  split at hs
  · next y x st2 =>
    cases hs
    exact lv_lxor hx hb hdg (kk ls hl)
  · cases hs
theorem am_s_ldiv (hx : p.tables.exec = Jvm.exec) (hb : c.code = cc) (hs : am_P nL (.ldiv) (pc, lv, st) = some f') (hdg : decode cc pc = .ok (.ldiv, 1)) (hl : lv_has ls nL (am_lv base g lv)) (kk : am_Go p l e R s m args below meth c H locs cells slots Q nL base g f') : W p l e R s m args below meth c H locs cells slots Q (F0 m pc ls (am_sk base g st)) := by
  simp only [am_P, am_ll] at hs
  split at hs
  · next y x st2 =>
    by_cases hy : y = 0
    · simp [hy] at hs
    · rw [if_neg hy] at hs
      cases hs
      exact lv_ldiv hx hb hdg hy (kk ls hl)
  · cases hs
theorem am_s_lrem (hx : p.tables.exec = Jvm.exec) (hb : c.code = cc) (hs : am_P nL (.lrem) (pc, lv, st) = some f') (hdg : decode cc pc = .ok (.lrem, 1)) (hl : lv_has ls nL (am_lv base g lv)) (kk : am_Go p l e R s m args below meth c H locs cells slots Q nL base g f') : W p l e R s m args below meth c H locs cells slots Q (F0 m pc ls (am_sk base g st)) := by
  simp only [am_P, am_ll] at hs
  split at hs
  · next y x st2 =>
    by_cases hy : y = 0
    · simp [hy] at hs
    · rw [if_neg hy] at hs
      cases hs
      exact lv_lrem hx hb hdg hy (kk ls hl)
  · cases hs
theorem am_s_lcmp (hx : p.tables.exec = Jvm.exec) (hb : c.code = cc) (hs : am_P nL (.lcmp) (pc, lv, st) = some f') (hdg : decode cc pc = .ok (.lcmp, 1)) (hl : lv_has ls nL (am_lv base g lv)) (kk : am_Go p l e R s m args below meth c H locs cells slots Q nL base g f') : W p l e R s m args below meth c H locs cells slots Q (F0 m pc ls (am_sk base g st)) := by
  simp only [am_P, am_ll] at hs
  split at hs
  · next y x st2 =>
    cases hs
    exact W.lcmp hx hb hdg (kk ls hl)
  · cases hs
theorem am_s_lneg (hx : p.tables.exec = Jvm.exec) (hb : c.code = cc) (hs : am_P nL (.lneg) (pc, lv, st) = some f') (hdg : decode cc pc = .ok (.lneg, 1)) (hl : lv_has ls nL (am_lv base g lv)) (kk : am_Go p l e R s m args below meth c H locs cells slots Q nL base g f') : W p l e R s m args below meth c H locs cells slots Q (F0 m pc ls (am_sk base g st)) := by
  simp only [am_P, am_l] at hs
  split at hs
  · next x st2 =>
    cases hs
    exact lv_lneg hx hb hdg (kk ls hl)
  · cases hs
theorem am_s_l2i (hx : p.tables.exec = Jvm.exec) (hb : c.code = cc) (hs : am_P nL (.l2i) (pc, lv, st) = some f') (hdg : decode cc pc = .ok (.l2i, 1)) (hl : lv_has ls nL (am_lv base g lv)) (kk : am_Go p l e R s m args below meth c H locs cells slots Q nL base g f') : W p l e R s m args below meth c H locs cells slots Q (F0 m pc ls (am_sk base g st)) := by
  simp only [am_P, am_l] at hs
  split at hs
  · next x st2 =>
    cases hs
    exact lv_l2i hx hb hdg rfl (kk ls hl)
  · cases hs
theorem am_s_lshl (hx : p.tables.exec = Jvm.exec) (hb : c.code = cc) (hs : am_P nL (.lshl) (pc, lv, st) = some f') (hdg : decode cc pc = .ok (.lshl, 1)) (hl : lv_has ls nL (am_lv base g lv)) (kk : am_Go p l e R s m args below meth c H locs cells slots Q nL base g f') : W p l e R s m args below meth c H locs cells slots Q (F0 m pc ls (am_sk base g st)) := by
  simp only [am_P, am_li] at hs
  split at hs
  · next y x st2 =>
    cases hs
    exact lv_lshl hx hb hdg rfl (kk ls hl)
  · cases hs
theorem am_s_lshr (hx : p.tables.exec = Jvm.exec) (hb : c.code = cc) (hs : am_P nL (.lshr) (pc, lv, st) = some f') (hdg : decode cc pc = .ok (.lshr, 1)) (hl : lv_has ls nL (am_lv base g lv)) (kk : am_Go p l e R s m args below meth c H locs cells slots Q nL base g f') : W p l e R s m args below meth c H locs cells slots Q (F0 m pc ls (am_sk base g st)) := by
  simp only [am_P, am_li] at hs
  split at hs
  · next y x st2 =>
    cases hs
    exact lv_lshr hx hb hdg rfl (kk ls hl)
  · cases hs
theorem am_s_lushr (hx : p.tables.exec = Jvm.exec) (hb : c.code = cc) (hs : am_P nL (.lushr) (pc, lv, st) = some f') (hdg : decode cc pc = .ok (.lushr, 1)) (hl : lv_has ls nL (am_lv base g lv)) (kk : am_Go p l e R s m args below meth c H locs cells slots Q nL base g f') : W p l e R s m args below meth c H locs cells slots Q (F0 m pc ls (am_sk base g st)) := by
  simp only [am_P, am_li] at hs
  split at hs
  · next y x st2 =>
    cases hs
    exact lv_lushr hx hb hdg rfl (kk ls hl)
  · cases hs
theorem am_s_aconst_null (hx : p.tables.exec = Jvm.exec) (hb : c.code = cc) (hs : am_P nL (.aconst_null) (pc, lv, st) = some f') (hdg : decode cc pc = .ok (.aconst_null, 1)) (hl : lv_has ls nL (am_lv base g lv)) (kk : am_Go p l e R s m args below meth c H locs cells slots Q nL base g f') : W p l e R s m args below meth c H locs cells slots Q (F0 m pc ls (am_sk base g st)) := by
  cases hs
  exact lv_null hx hb hdg (kk ls hl)
theorem am_s_iconst {n : Int} (hx : p.tables.exec = Jvm.exec) (hb : c.code = cc) (hs : am_P nL (.iconst n) (pc, lv, st) = some f') (hdg : decode cc pc = .ok (.iconst n, 1)) (hl : lv_has ls nL (am_lv base g lv)) (kk : am_Go p l e R s m args below meth c H locs cells slots Q nL base g f') : W p l e R s m args below meth c H locs cells slots Q (F0 m pc ls (am_sk base g st)) := by
  cases hs
  exact lv_iconst hx hb hdg rfl (kk ls hl)
theorem am_s_lconst {n : Fin 2} (hx : p.tables.exec = Jvm.exec) (hb : c.code = cc) (hs : am_P nL (.lconst n) (pc, lv, st) = some f') (hdg : decode cc pc = .ok (.lconst n, 1)) (hl : lv_has ls nL (am_lv base g lv)) (kk : am_Go p l e R s m args below meth c H locs cells slots Q nL base g f') : W p l e R s m args below meth c H locs cells slots Q (F0 m pc ls (am_sk base g st)) := by
  cases hs
  exact lv_lconst hx hb hdg rfl (kk ls hl)
theorem am_s_bipush {n : Int} (hx : p.tables.exec = Jvm.exec) (hb : c.code = cc) (hs : am_P nL (.bipush n) (pc, lv, st) = some f') (hdg : decode cc pc = .ok (.bipush n, 2)) (hl : lv_has ls nL (am_lv base g lv)) (kk : am_Go p l e R s m args below meth c H locs cells slots Q nL base g f') : W p l e R s m args below meth c H locs cells slots Q (F0 m pc ls (am_sk base g st)) := by
  cases hs
  exact lv_bipush hx hb hdg rfl (kk ls hl)
theorem am_s_sipush {n : Int} (hx : p.tables.exec = Jvm.exec) (hb : c.code = cc) (hs : am_P nL (.sipush n) (pc, lv, st) = some f') (hdg : decode cc pc = .ok (.sipush n, 3)) (hl : lv_has ls nL (am_lv base g lv)) (kk : am_Go p l e R s m args below meth c H locs cells slots Q nL base g f') : W p l e R s m args below meth c H locs cells slots Q (F0 m pc ls (am_sk base g st)) := by
  cases hs
  exact lv_sipush hx hb hdg rfl (kk ls hl)
theorem am_s_iload {n : Nat} (hx : p.tables.exec = Jvm.exec) (hb : c.code = cc) (hs : am_P nL (.iload n) (pc, lv, st) = some f') (hdg : decode cc pc = .ok (.iload n, 2)) (hl : lv_has ls nL (am_lv base g lv)) (kk : am_Go p l e R s m args below meth c H locs cells slots Q nL base g f') : W p l e R s m args below meth c H locs cells slots Q (F0 m pc ls (am_sk base g st)) := by
  simp only [am_P, am_ldi] at hs
  split at hs
  · next x e2 =>
    cases hs
    exact lv_iload hx hb hdg (am_ld_has hl e2) (kk ls hl)
  · cases hs
theorem am_s_iload_n {n : Fin 4} (hx : p.tables.exec = Jvm.exec) (hb : c.code = cc) (hs : am_P nL (.iload_n n) (pc, lv, st) = some f') (hdg : decode cc pc = .ok (.iload_n n, 1)) (hl : lv_has ls nL (am_lv base g lv)) (kk : am_Go p l e R s m args below meth c H locs cells slots Q nL base g f') : W p l e R s m args below meth c H locs cells slots Q (F0 m pc ls (am_sk base g st)) := by
  simp only [am_P, am_ldi] at hs
  split at hs
  · next x e2 =>
    cases hs
    exact lv_iload_n hx hb hdg rfl (am_ld_has hl e2) (kk ls hl)
  · cases hs
theorem am_s_lload {n : Nat} (hx : p.tables.exec = Jvm.exec) (hb : c.code = cc) (hs : am_P nL (.lload n) (pc, lv, st) = some f') (hdg : decode cc pc = .ok (.lload n, 2)) (hl : lv_has ls nL (am_lv base g lv)) (kk : am_Go p l e R s m args below meth c H locs cells slots Q nL base g f') : W p l e R s m args below meth c H locs cells slots Q (F0 m pc ls (am_sk base g st)) := by
  simp only [am_P, am_ldl] at hs
  split at hs
  · next x e2 =>
    cases hs
    exact lv_lload hx hb hdg (am_ld_has hl e2) (kk ls hl)
  · cases hs
theorem am_s_lload_n {n : Fin 4} (hx : p.tables.exec = Jvm.exec) (hb : c.code = cc) (hs : am_P nL (.lload_n n) (pc, lv, st) = some f') (hdg : decode cc pc = .ok (.lload_n n, 1)) (hl : lv_has ls nL (am_lv base g lv)) (kk : am_Go p l e R s m args below meth c H locs cells slots Q nL base g f') : W p l e R s m args below meth c H locs cells slots Q (F0 m pc ls (am_sk base g st)) := by
  simp only [am_P, am_ldl] at hs
  split at hs
  · next x e2 =>
    cases hs
    exact lv_lload_n hx hb hdg rfl (am_ld_has hl e2) (kk ls hl)
  · cases hs
theorem am_s_aload {n : Nat} (hx : p.tables.exec = Jvm.exec) (hb : c.code = cc) (hs : am_P nL (.aload n) (pc, lv, st) = some f') (hdg : decode cc pc = .ok (.aload n, 2)) (hl : lv_has ls nL (am_lv base g lv)) (kk : am_Go p l e R s m args below meth c H locs cells slots Q nL base g f') : W p l e R s m args below meth c H locs cells slots Q (F0 m pc ls (am_sk base g st)) := by
  simp only [am_P, am_lda] at hs
  split at hs
  · next x e2 =>
    cases hs
    exact lv_aload hx hb hdg (am_ld_has hl e2) (kk ls hl)
  · next e2 =>
    cases hs
    exact lv_aloadN hx hb hdg (am_ld_has hl e2) (kk ls hl)
  · cases hs
theorem am_s_aload_n {n : Fin 4} (hx : p.tables.exec = Jvm.exec) (hb : c.code = cc) (hs : am_P nL (.aload_n n) (pc, lv, st) = some f') (hdg : decode cc pc = .ok (.aload_n n, 1)) (hl : lv_has ls nL (am_lv base g lv)) (kk : am_Go p l e R s m args below meth c H locs cells slots Q nL base g f') : W p l e R s m args below meth c H locs cells slots Q (F0 m pc ls (am_sk base g st)) := by
  simp only [am_P, am_lda] at hs
  split at hs
  · next x e2 =>
    cases hs
    exact lv_aload_n hx hb hdg rfl (am_ld_has hl e2) (kk ls hl)
  · next e2 =>
    cases hs
    exact lv_aload_nN hx hb hdg rfl (am_ld_has hl e2) (kk ls hl)
  · cases hs
theorem am_s_istore {n : Nat} (hx : p.tables.exec = Jvm.exec) (hb : c.code = cc) (hs : am_P nL (.istore n) (pc, lv, st) = some f') (hdg : decode cc pc = .ok (.istore n, 2)) (hl : lv_has ls nL (am_lv base g lv)) (kk : am_Go p l e R s m args below meth c H locs cells slots Q nL base g f') : W p l e R s m args below meth c H locs cells slots Q (F0 m pc ls (am_sk base g st)) := by
  simp only [am_P, am_sti] at hs
  split at hs
  · next x st2 =>
    split at hs
    · next hn =>
      cases hs
      exact lv_istore hx hb hdg hl hn (am_st1_lv base g lv _ (.int x)) (fun ls' h' => kk ls' h')
    · cases hs
  · cases hs
theorem am_s_istore_n {n : Fin 4} (hx : p.tables.exec = Jvm.exec) (hb : c.code = cc) (hs : am_P nL (.istore_n n) (pc, lv, st) = some f') (hdg : decode cc pc = .ok (.istore_n n, 1)) (hl : lv_has ls nL (am_lv base g lv)) (kk : am_Go p l e R s m args below meth c H locs cells slots Q nL base g f') : W p l e R s m args below meth c H locs cells slots Q (F0 m pc ls (am_sk base g st)) := by
  simp only [am_P, am_sti] at hs
  split at hs
  · next x st2 =>
    split at hs
    · next hn =>
      cases hs
      exact lv_istore_n hx hb hdg rfl hl hn (am_st1_lv base g lv _ (.int x)) (fun ls' h' => kk ls' h')
    · cases hs
  · cases hs
theorem am_s_lstore {n : Nat} (hx : p.tables.exec = Jvm.exec) (hb : c.code = cc) (hs : am_P nL (.lstore n) (pc, lv, st) = some f') (hdg : decode cc pc = .ok (.lstore n, 2)) (hl : lv_has ls nL (am_lv base g lv)) (kk : am_Go p l e R s m args below meth c H locs cells slots Q nL base g f') : W p l e R s m args below meth c H locs cells slots Q (F0 m pc ls (am_sk base g st)) := by
  simp only [am_P, am_stl] at hs
  split at hs
  · next x st2 =>
    split at hs
    · next hn =>
      cases hs
      exact lv_lstore hx hb hdg hl hn (am_st2_lv base g lv _ (.long x)) (fun ls' h' => kk ls' h')
    · cases hs
  · cases hs
theorem am_s_lstore_n {n : Fin 4} (hx : p.tables.exec = Jvm.exec) (hb : c.code = cc) (hs : am_P nL (.lstore_n n) (pc, lv, st) = some f') (hdg : decode cc pc = .ok (.lstore_n n, 1)) (hl : lv_has ls nL (am_lv base g lv)) (kk : am_Go p l e R s m args below meth c H locs cells slots Q nL base g f') : W p l e R s m args below meth c H locs cells slots Q (F0 m pc ls (am_sk base g st)) := by
  simp only [am_P, am_stl] at hs
  split at hs
  · next x st2 =>
    split at hs
    · next hn =>
      cases hs
      exact lv_lstore_n hx hb hdg rfl hl hn (am_st2_lv base g lv _ (.long x)) (fun ls' h' => kk ls' h')
    · cases hs
  · cases hs
theorem am_s_astore {n : Nat} (hx : p.tables.exec = Jvm.exec) (hb : c.code = cc) (hs : am_P nL (.astore n) (pc, lv, st) = some f') (hdg : decode cc pc = .ok (.astore n, 2)) (hl : lv_has ls nL (am_lv base g lv)) (kk : am_Go p l e R s m args below meth c H locs cells slots Q nL base g f') : W p l e R s m args below meth c H locs cells slots Q (F0 m pc ls (am_sk base g st)) := by
  simp only [am_P, am_sta] at hs
  split at hs
  · next x st2 =>
    split at hs
    · next hn =>
      cases hs
      exact lv_astore hx hb hdg hl hn (am_st1_lv base g lv _ (.ref x)) (fun ls' h' => kk ls' h')
    · cases hs
  · next st2 =>
    split at hs
    · next hn =>
      cases hs
      exact lv_astoreN hx hb hdg hl hn (am_st1_lv base g lv _ .null) (fun ls' h' => kk ls' h')
    · cases hs
  · cases hs
theorem am_s_astore_n {n : Fin 4} (hx : p.tables.exec = Jvm.exec) (hb : c.code = cc) (hs : am_P nL (.astore_n n) (pc, lv, st) = some f') (hdg : decode cc pc = .ok (.astore_n n, 1)) (hl : lv_has ls nL (am_lv base g lv)) (kk : am_Go p l e R s m args below meth c H locs cells slots Q nL base g f') : W p l e R s m args below meth c H locs cells slots Q (F0 m pc ls (am_sk base g st)) := by
  simp only [am_P, am_sta] at hs
  split at hs
  · next x st2 =>
    split at hs
    · next hn =>
      cases hs
      exact lv_astore_n hx hb hdg rfl hl hn (am_st1_lv base g lv _ (.ref x)) (fun ls' h' => kk ls' h')
    · cases hs
  · next st2 =>
    split at hs
    · next hn =>
      cases hs
      exact lv_astore_nN hx hb hdg rfl hl hn (am_st1_lv base g lv _ .null) (fun ls' h' => kk ls' h')
    · cases hs
  · cases hs
theorem am_s_iinc {n : Nat} {z : Int} (hx : p.tables.exec = Jvm.exec) (hb : c.code = cc) (hs : am_P nL (.iinc n z) (pc, lv, st) = some f') (hdg : decode cc pc = .ok (.iinc n z, 3)) (hl : lv_has ls nL (am_lv base g lv)) (kk : am_Go p l e R s m args below meth c H locs cells slots Q nL base g f') : W p l e R s m args below meth c H locs cells slots Q (F0 m pc ls (am_sk base g st)) := by
  simp only [am_P, am_inc] at hs
  split at hs
  · next x e2 =>
    split at hs
    · next hn =>
      cases hs
      have hm : ((n, am_cv base g (.int x)) : Nat × Value) ∈ am_lv base g lv := List.mem_map.mpr ⟨(n, .int x), am_ld_mem e2, rfl⟩
      obtain ⟨k, hk⟩ := List.getElem?_of_mem hm
      exact lv_iinc (x := x) hx hb hdg hl hk rfl hn (am_st1_lv base g lv _ (.int (x + Int32.ofInt z))) (fun ls' h' => kk ls' h')
    · cases hs
  · cases hs
theorem am_s_goto {o : Int} (hx : p.tables.exec = Jvm.exec) (hb : c.code = cc) (hs : am_P nL (.goto o) (pc, lv, st) = some f') (hdg : decode cc pc = .ok (.goto o, 3)) (hl : lv_has ls nL (am_lv base g lv)) (kk : am_Go p l e R s m args below meth c H locs cells slots Q nL base g f') : W p l e R s m args below meth c H locs cells slots Q (F0 m pc ls (am_sk base g st)) := by
  simp only [am_P] at hs
  split at hs
  · next t e2 =>
    cases hs
    exact lv_goto hx hb hdg (am_br_spec e2) (kk ls hl)
  · cases hs
theorem am_s_ifnull {o : Int} (hx : p.tables.exec = Jvm.exec) (hb : c.code = cc) (hs : am_P nL (.ifnull o) (pc, lv, st) = some f') (hdg : decode cc pc = .ok (.ifnull o, 3)) (hl : lv_has ls nL (am_lv base g lv)) (kk : am_Go p l e R s m args below meth c H locs cells slots Q nL base g f') : W p l e R s m args below meth c H locs cells slots Q (F0 m pc ls (am_sk base g st)) := by
  simp only [am_P, am_nul, am_jmp] at hs
  split at hs
  · next st2 =>
    split at hs
    · next t e3 =>
      cases hs
      exact lv_ifnullN hx hb hdg (am_br_spec e3) (kk ls hl)
    · cases hs
  · next x st2 =>
    split at hs
    · next t e3 =>
      cases hs
      exact lv_ifnull hx hb hdg (kk ls hl)
    · cases hs
  · cases hs
theorem am_s_ifnonnull {o : Int} (hx : p.tables.exec = Jvm.exec) (hb : c.code = cc) (hs : am_P nL (.ifnonnull o) (pc, lv, st) = some f') (hdg : decode cc pc = .ok (.ifnonnull o, 3)) (hl : lv_has ls nL (am_lv base g lv)) (kk : am_Go p l e R s m args below meth c H locs cells slots Q nL base g f') : W p l e R s m args below meth c H locs cells slots Q (F0 m pc ls (am_sk base g st)) := by
  simp only [am_P, am_nul, am_jmp] at hs
  split at hs
  · next st2 =>
    split at hs
    · next t e3 =>
      cases hs
      exact lv_ifnonnullN hx hb hdg (kk ls hl)
    · cases hs
  · next x st2 =>
    split at hs
    · next t e3 =>
      cases hs
      exact lv_ifnonnull hx hb hdg (am_br_spec e3) (kk ls hl)
    · cases hs
  · cases hs
theorem am_s_dup (hx : p.tables.exec = Jvm.exec) (hb : c.code = cc) (hs : am_P nL (.dup) (pc, lv, st) = some f') (hdg : decode cc pc = .ok (.dup, 1)) (hl : lv_has ls nL (am_lv base g lv)) (kk : am_Go p l e R s m args below meth c H locs cells slots Q nL base g f') : W p l e R s m args below meth c H locs cells slots Q (F0 m pc ls (am_sk base g st)) := by
  simp only [am_P, am_dup] at hs
  split at hs
  · next v st2 =>
    split at hs
    · next hv =>
      cases hs
      exact lv_dup hx hb hdg (by rw [am_cv_cat]; exact hv) (kk ls hl)
    · cases hs
  · cases hs
theorem am_s_dup_x1 (hx : p.tables.exec = Jvm.exec) (hb : c.code = cc) (hs : am_P nL (.dup_x1) (pc, lv, st) = some f') (hdg : decode cc pc = .ok (.dup_x1, 1)) (hl : lv_has ls nL (am_lv base g lv)) (kk : am_Go p l e R s m args below meth c H locs cells slots Q nL base g f') : W p l e R s m args below meth c H locs cells slots Q (F0 m pc ls (am_sk base g st)) := by
  simp only [am_P, am_dupx1] at hs
  split at hs
  · next v u st2 =>
    split at hs
    · next hv =>
      cases hs
      exact lv_dup_x1 hx hb hdg (by rw [am_cv_cat]; exact hv.1) (by rw [am_cv_cat]; exact hv.2) (kk ls hl)
    · cases hs
  · cases hs
theorem am_s_dup_x2 (hx : p.tables.exec = Jvm.exec) (hb : c.code = cc) (hs : am_P nL (.dup_x2) (pc, lv, st) = some f') (hdg : decode cc pc = .ok (.dup_x2, 1)) (hl : lv_has ls nL (am_lv base g lv)) (kk : am_Go p l e R s m args below meth c H locs cells slots Q nL base g f') : W p l e R s m args below meth c H locs cells slots Q (F0 m pc ls (am_sk base g st)) := by
  simp only [am_P, am_dupx2] at hs
  split at hs
  · next v u t st2 =>
    split at hs
    · next hv =>
      cases hs
      exact lv_dup_x2 hx hb hdg (by rw [am_cv_cat]; exact hv.1) (by rw [am_cv_cat]; exact hv.2.1) (by rw [am_cv_cat]; exact hv.2.2) (kk ls hl)
    · cases hs
  · cases hs
theorem am_s_dup2 (hx : p.tables.exec = Jvm.exec) (hb : c.code = cc) (hs : am_P nL (.dup2) (pc, lv, st) = some f') (hdg : decode cc pc = .ok (.dup2, 1)) (hl : lv_has ls nL (am_lv base g lv)) (kk : am_Go p l e R s m args below meth c H locs cells slots Q nL base g f') : W p l e R s m args below meth c H locs cells slots Q (F0 m pc ls (am_sk base g st)) := by
  simp only [am_P, am_dup2] at hs
  split at hs
  · next v st2 =>
    split at hs
    · next hv =>
      cases hs
      exact lv_dup2_2 hx hb hdg (by rw [am_cv_cat]; exact hv) (kk ls hl)
    · split at hs
      · next u st3 =>
        split at hs
        · next hv =>
          cases hs
          exact lv_dup2_11 hx hb hdg (by rw [am_cv_cat]; exact hv.1) (by rw [am_cv_cat]; exact hv.2) (kk ls hl)
        · cases hs
      · cases hs
  · cases hs
theorem am_s_dup2_x1 (hx : p.tables.exec = Jvm.exec) (hb : c.code = cc) (hs : am_P nL (.dup2_x1) (pc, lv, st) = some f') (hdg : decode cc pc = .ok (.dup2_x1, 1)) (hl : lv_has ls nL (am_lv base g lv)) (kk : am_Go p l e R s m args below meth c H locs cells slots Q nL base g f') : W p l e R s m args below meth c H locs cells slots Q (F0 m pc ls (am_sk base g st)) := by
  simp only [am_P, am_dup2x1] at hs
  split at hs
  · next v u st2 =>
    split at hs
    · next hv =>
      cases hs
      exact lv_dup2_x1_2 hx hb hdg (by rw [am_cv_cat]; exact hv.1) (by rw [am_cv_cat]; exact hv.2) (kk ls hl)
    · cases hs
  · cases hs
theorem am_s_pop (hx : p.tables.exec = Jvm.exec) (hb : c.code = cc) (hs : am_P nL (.pop) (pc, lv, st) = some f') (hdg : decode cc pc = .ok (.pop, 1)) (hl : lv_has ls nL (am_lv base g lv)) (kk : am_Go p l e R s m args below meth c H locs cells slots Q nL base g f') : W p l e R s m args below meth c H locs cells slots Q (F0 m pc ls (am_sk base g st)) := by
  simp only [am_P, am_pop] at hs
  split at hs
  · next v st2 =>
    split at hs
    · next hv =>
      cases hs
      exact lv_pop hx hb hdg (by rw [am_cv_cat]; exact hv) (kk ls hl)
    · cases hs
  · cases hs
theorem am_s_pop2 (hx : p.tables.exec = Jvm.exec) (hb : c.code = cc) (hs : am_P nL (.pop2) (pc, lv, st) = some f') (hdg : decode cc pc = .ok (.pop2, 1)) (hl : lv_has ls nL (am_lv base g lv)) (kk : am_Go p l e R s m args below meth c H locs cells slots Q nL base g f') : W p l e R s m args below meth c H locs cells slots Q (F0 m pc ls (am_sk base g st)) := by
  simp only [am_P, am_pop2] at hs
  split at hs
  · next v st2 =>
    split at hs
    · next hv =>
      cases hs
      exact lv_pop2_2 hx hb hdg (by rw [am_cv_cat]; exact hv) (kk ls hl)
    · cases hs
  · cases hs
theorem am_s_tableswitch {d lo hi : Int} {os : Array Int} {len : Nat} (hx : p.tables.exec = Jvm.exec) (hb : c.code = cc) (hs : am_P nL (.tableswitch d lo hi os) (pc, lv, st) = some f') (hdg : decode cc pc = .ok (.tableswitch d lo hi os, len)) (hl : lv_has ls nL (am_lv base g lv)) (kk : am_Go p l e R s m args below meth c H locs cells slots Q nL base g f') : W p l e R s m args below meth c H locs cells slots Q (F0 m pc ls (am_sk base g st)) := by
  simp only [am_P, am_tsw] at hs
  split at hs
  · next x st2 =>
    split at hs
    · next ho =>
      split at hs
      · next t e3 =>
        cases hs
        exact lv_tableOut hx hb hdg ho (am_br_spec e3) (kk ls hl)
      · cases hs
    · next ho =>
      split at hs
      · next off e4 =>
        split at hs
        · next t e3 =>
          cases hs
          exact lv_tableIn hx hb hdg (fun q => ho (Or.inl q)) (fun q => ho (Or.inr q)) e4 (am_br_spec e3) (kk ls hl)
        · cases hs
      · cases hs
  · cases hs
theorem am_s_lookupswitch {d : Int} {ps : Array (Int × Int)} {len : Nat} (hx : p.tables.exec = Jvm.exec) (hb : c.code = cc) (hs : am_P nL (.lookupswitch d ps) (pc, lv, st) = some f') (hdg : decode cc pc = .ok (.lookupswitch d ps, len)) (hl : lv_has ls nL (am_lv base g lv)) (kk : am_Go p l e R s m args below meth c H locs cells slots Q nL base g f') : W p l e R s m args below meth c H locs cells slots Q (F0 m pc ls (am_sk base g st)) := by
  simp only [am_P, am_lsw] at hs
  split at hs
  · next x st2 =>
    split at hs
    · next ho =>
      split at hs
      · next t e3 =>
        cases hs
        exact lv_lookup hx hb hdg ho rfl (am_br_spec e3) (kk ls hl)
      · cases hs
    · cases hs
  · cases hs
theorem am_s_ifCond_eq {o : Int} (hx : p.tables.exec = Jvm.exec) (hb : c.code = cc) (hs : am_P nL (.ifCond .eq o) (pc, lv, st) = some f') (hdg : decode cc pc = .ok (.ifCond .eq o, 3)) (hl : lv_has ls nL (am_lv base g lv)) (kk : am_Go p l e R s m args below meth c H locs cells slots Q nL base g f') : W p l e R s m args below meth c H locs cells slots Q (F0 m pc ls (am_sk base g st)) := by
  simp only [am_P, am_if, am_jmp] at hs
  split at hs
  · next x st2 =>
    split at hs
    · next t e3 =>
      cases hs
      exact lv_if_eq hx hb hdg (am_br_spec e3) (fun h => by simpa [h] using kk ls hl) (fun h => by simpa [h] using kk ls hl)
    · cases hs
  · cases hs
theorem am_s_ifCond_ne {o : Int} (hx : p.tables.exec = Jvm.exec) (hb : c.code = cc) (hs : am_P nL (.ifCond .ne o) (pc, lv, st) = some f') (hdg : decode cc pc = .ok (.ifCond .ne o, 3)) (hl : lv_has ls nL (am_lv base g lv)) (kk : am_Go p l e R s m args below meth c H locs cells slots Q nL base g f') : W p l e R s m args below meth c H locs cells slots Q (F0 m pc ls (am_sk base g st)) := by
  simp only [am_P, am_if, am_jmp] at hs
  split at hs
  · next x st2 =>
    split at hs
    · next t e3 =>
      cases hs
      exact lv_if_ne hx hb hdg (am_br_spec e3) (fun h => by simpa [h] using kk ls hl) (fun h => by simpa [h] using kk ls hl)
    · cases hs
  · cases hs
theorem am_s_ifCond_lt {o : Int} (hx : p.tables.exec = Jvm.exec) (hb : c.code = cc) (hs : am_P nL (.ifCond .lt o) (pc, lv, st) = some f') (hdg : decode cc pc = .ok (.ifCond .lt o, 3)) (hl : lv_has ls nL (am_lv base g lv)) (kk : am_Go p l e R s m args below meth c H locs cells slots Q nL base g f') : W p l e R s m args below meth c H locs cells slots Q (F0 m pc ls (am_sk base g st)) := by
  simp only [am_P, am_if, am_jmp] at hs
  split at hs
  · next x st2 =>
    split at hs
    · next t e3 =>
      cases hs
      exact lv_if_lt hx hb hdg (am_br_spec e3) (fun h => by simpa [h] using kk ls hl) (fun h => by simpa [h] using kk ls hl)
    · cases hs
  · cases hs
theorem am_s_ifCond_ge {o : Int} (hx : p.tables.exec = Jvm.exec) (hb : c.code = cc) (hs : am_P nL (.ifCond .ge o) (pc, lv, st) = some f') (hdg : decode cc pc = .ok (.ifCond .ge o, 3)) (hl : lv_has ls nL (am_lv base g lv)) (kk : am_Go p l e R s m args below meth c H locs cells slots Q nL base g f') : W p l e R s m args below meth c H locs cells slots Q (F0 m pc ls (am_sk base g st)) := by
  simp only [am_P, am_if, am_jmp] at hs
  split at hs
  · next x st2 =>
    split at hs
    · next t e3 =>
      cases hs
      exact lv_if_ge hx hb hdg (am_br_spec e3) (fun h => by simpa [h] using kk ls hl) (fun h => by simpa [h] using kk ls hl)
    · cases hs
  · cases hs
theorem am_s_ifCond_gt {o : Int} (hx : p.tables.exec = Jvm.exec) (hb : c.code = cc) (hs : am_P nL (.ifCond .gt o) (pc, lv, st) = some f') (hdg : decode cc pc = .ok (.ifCond .gt o, 3)) (hl : lv_has ls nL (am_lv base g lv)) (kk : am_Go p l e R s m args below meth c H locs cells slots Q nL base g f') : W p l e R s m args below meth c H locs cells slots Q (F0 m pc ls (am_sk base g st)) := by
  simp only [am_P, am_if, am_jmp] at hs
  split at hs
  · next x st2 =>
    split at hs
    · next t e3 =>
      cases hs
      exact lv_if_gt hx hb hdg (am_br_spec e3) (fun h => by simpa [h] using kk ls hl) (fun h => by simpa [h] using kk ls hl)
    · cases hs
  · cases hs
theorem am_s_ifCond_le {o : Int} (hx : p.tables.exec = Jvm.exec) (hb : c.code = cc) (hs : am_P nL (.ifCond .le o) (pc, lv, st) = some f') (hdg : decode cc pc = .ok (.ifCond .le o, 3)) (hl : lv_has ls nL (am_lv base g lv)) (kk : am_Go p l e R s m args below meth c H locs cells slots Q nL base g f') : W p l e R s m args below meth c H locs cells slots Q (F0 m pc ls (am_sk base g st)) := by
  simp only [am_P, am_if, am_jmp] at hs
  split at hs
  · next x st2 =>
    split at hs
    · next t e3 =>
      cases hs
      exact lv_if_le hx hb hdg (am_br_spec e3) (fun h => by simpa [h] using kk ls hl) (fun h => by simpa [h] using kk ls hl)
    · cases hs
  · cases hs
theorem am_s_if_icmp_eq {o : Int} (hx : p.tables.exec = Jvm.exec) (hb : c.code = cc) (hs : am_P nL (.if_icmp .eq o) (pc, lv, st) = some f') (hdg : decode cc pc = .ok (.if_icmp .eq o, 3)) (hl : lv_has ls nL (am_lv base g lv)) (kk : am_Go p l e R s m args below meth c H locs cells slots Q nL base g f') : W p l e R s m args below meth c H locs cells slots Q (F0 m pc ls (am_sk base g st)) := by
  simp only [am_P, am_ic, am_jmp] at hs
  split at hs
  · next y x st2 =>
    split at hs
    · next t e3 =>
      cases hs
      exact lv_icmp_eq hx hb hdg (am_br_spec e3) (fun h => by simpa [h] using kk ls hl) (fun h => by simpa [h] using kk ls hl)
    · cases hs
  · cases hs
theorem am_s_if_icmp_ne {o : Int} (hx : p.tables.exec = Jvm.exec) (hb : c.code = cc) (hs : am_P nL (.if_icmp .ne o) (pc, lv, st) = some f') (hdg : decode cc pc = .ok (.if_icmp .ne o, 3)) (hl : lv_has ls nL (am_lv base g lv)) (kk : am_Go p l e R s m args below meth c H locs cells slots Q nL base g f') : W p l e R s m args below meth c H locs cells slots Q (F0 m pc ls (am_sk base g st)) := by
  simp only [am_P, am_ic, am_jmp] at hs
  split at hs
  · next y x st2 =>
    split at hs
    · next t e3 =>
      cases hs
      exact lv_icmp_ne hx hb hdg (am_br_spec e3) (fun h => by simpa [h] using kk ls hl) (fun h => by simpa [h] using kk ls hl)
    · cases hs
  · cases hs
theorem am_s_if_icmp_lt {o : Int} (hx : p.tables.exec = Jvm.exec) (hb : c.code = cc) (hs : am_P nL (.if_icmp .lt o) (pc, lv, st) = some f') (hdg : decode cc pc = .ok (.if_icmp .lt o, 3)) (hl : lv_has ls nL (am_lv base g lv)) (kk : am_Go p l e R s m args below meth c H locs cells slots Q nL base g f') : W p l e R s m args below meth c H locs cells slots Q (F0 m pc ls (am_sk base g st)) := by
  simp only [am_P, am_ic, am_jmp] at hs
  split at hs
  · next y x st2 =>
    split at hs
    · next t e3 =>
      cases hs
      exact lv_icmp_lt hx hb hdg (am_br_spec e3) (fun h => by simpa [h] using kk ls hl) (fun h => by simpa [h] using kk ls hl)
    · cases hs
  · cases hs
theorem am_s_if_icmp_ge {o : Int} (hx : p.tables.exec = Jvm.exec) (hb : c.code = cc) (hs : am_P nL (.if_icmp .ge o) (pc, lv, st) = some f') (hdg : decode cc pc = .ok (.if_icmp .ge o, 3)) (hl : lv_has ls nL (am_lv base g lv)) (kk : am_Go p l e R s m args below meth c H locs cells slots Q nL base g f') : W p l e R s m args below meth c H locs cells slots Q (F0 m pc ls (am_sk base g st)) := by
  simp only [am_P, am_ic, am_jmp] at hs
  split at hs
  · next y x st2 =>
    split at hs
    · next t e3 =>
      cases hs
      exact lv_icmp_ge hx hb hdg (am_br_spec e3) (fun h => by simpa [h] using kk ls hl) (fun h => by simpa [h] using kk ls hl)
    · cases hs
  · cases hs
theorem am_s_if_icmp_gt {o : Int} (hx : p.tables.exec = Jvm.exec) (hb : c.code = cc) (hs : am_P nL (.if_icmp .gt o) (pc, lv, st) = some f') (hdg : decode cc pc = .ok (.if_icmp .gt o, 3)) (hl : lv_has ls nL (am_lv base g lv)) (kk : am_Go p l e R s m args below meth c H locs cells slots Q nL base g f') : W p l e R s m args below meth c H locs cells slots Q (F0 m pc ls (am_sk base g st)) := by
  simp only [am_P, am_ic, am_jmp] at hs
  split at hs
  · next y x st2 =>
    split at hs
    · next t e3 =>
      cases hs
      exact lv_icmp_gt hx hb hdg (am_br_spec e3) (fun h => by simpa [h] using kk ls hl) (fun h => by simpa [h] using kk ls hl)
    · cases hs
  · cases hs
theorem am_s_if_icmp_le {o : Int} (hx : p.tables.exec = Jvm.exec) (hb : c.code = cc) (hs : am_P nL (.if_icmp .le o) (pc, lv, st) = some f') (hdg : decode cc pc = .ok (.if_icmp .le o, 3)) (hl : lv_has ls nL (am_lv base g lv)) (kk : am_Go p l e R s m args below meth c H locs cells slots Q nL base g f') : W p l e R s m args below meth c H locs cells slots Q (F0 m pc ls (am_sk base g st)) := by
  simp only [am_P, am_ic, am_jmp] at hs
  split at hs
  · next y x st2 =>
    split at hs
    · next t e3 =>
      cases hs
      exact lv_icmp_le hx hb hdg (am_br_spec e3) (fun h => by simpa [h] using kk ls hl) (fun h => by simpa [h] using kk ls hl)
    · cases hs
  · cases hs
theorem am_P_ok {i : Instr} {len : Nat} (hx : p.tables.exec = Jvm.exec) (hb : c.code = cc) (hs : am_P nL i (pc, lv, st) = some f') (hdg : decode cc pc = .ok (i, len)) (hlen : am_len i len = true) (hl : lv_has ls nL (am_lv base g lv)) (kk : am_Go p l e R s m args below meth c H locs cells slots Q nL base g f') : W p l e R s m args below meth c H locs cells slots Q (F0 m pc ls (am_sk base g st)) := by
  cases i
  case iadd => exact am_s_iadd hx hb hs ((beq_iff_eq.mp hlen : len = 1) ▸ hdg) hl kk
  case isub => exact am_s_isub hx hb hs ((beq_iff_eq.mp hlen : len = 1) ▸ hdg) hl kk
  case imul => exact am_s_imul hx hb hs ((beq_iff_eq.mp hlen : len = 1) ▸ hdg) hl kk
  case iand => exact am_s_iand hx hb hs ((beq_iff_eq.mp hlen : len = 1) ▸ hdg) hl kk
  case ior => exact am_s_ior hx hb hs ((beq_iff_eq.mp hlen : len = 1) ▸ hdg) hl kk
  case ixor => exact am_s_ixor hx hb hs ((beq_iff_eq.mp hlen : len = 1) ▸ hdg) hl kk
  case idiv => exact am_s_idiv hx hb hs ((beq_iff_eq.mp hlen : len = 1) ▸ hdg) hl kk
  case irem => exact am_s_irem hx hb hs ((beq_iff_eq.mp hlen : len = 1) ▸ hdg) hl kk
  case ishl => exact am_s_ishl hx hb hs ((beq_iff_eq.mp hlen : len = 1) ▸ hdg) hl kk
  case ishr => exact am_s_ishr hx hb hs ((beq_iff_eq.mp hlen : len = 1) ▸ hdg) hl kk
  case iushr => exact am_s_iushr hx hb hs ((beq_iff_eq.mp hlen : len = 1) ▸ hdg) hl kk
  case ineg => exact am_s_ineg hx hb hs ((beq_iff_eq.mp hlen : len = 1) ▸ hdg) hl kk
  case i2l => exact am_s_i2l hx hb hs ((beq_iff_eq.mp hlen : len = 1) ▸ hdg) hl kk
  case i2b => exact am_s_i2b hx hb hs ((beq_iff_eq.mp hlen : len = 1) ▸ hdg) hl kk
  case i2c => exact am_s_i2c hx hb hs ((beq_iff_eq.mp hlen : len = 1) ▸ hdg) hl kk
  case i2s => exact am_s_i2s hx hb hs ((beq_iff_eq.mp hlen : len = 1) ▸ hdg) hl kk
  case ladd => exact am_s_ladd hx hb hs ((beq_iff_eq.mp hlen : len = 1) ▸ hdg) hl kk
  case lsub => exact am_s_lsub hx hb hs ((beq_iff_eq.mp hlen : len = 1) ▸ hdg) hl kk
  case lmul => exact am_s_lmul hx hb hs ((beq_iff_eq.mp hlen : len = 1) ▸ hdg) hl kk
  case land => exact am_s_land hx hb hs ((beq_iff_eq.mp hlen : len = 1) ▸ hdg) hl kk
  case lor => exact am_s_lor hx hb hs ((beq_iff_eq.mp hlen : len = 1) ▸ hdg) hl kk
  case lxor => exact am_s_lxor hx hb hs ((beq_iff_eq.mp hlen : len = 1) ▸ hdg) hl kk
  case ldiv => exact am_s_ldiv hx hb hs ((beq_iff_eq.mp hlen : len = 1) ▸ hdg) hl kk
  case lrem => exact am_s_lrem hx hb hs ((beq_iff_eq.mp hlen : len = 1) ▸ hdg) hl kk
  case lcmp => exact am_s_lcmp hx hb hs ((beq_iff_eq.mp hlen : len = 1) ▸ hdg) hl kk
  case lneg => exact am_s_lneg hx hb hs ((beq_iff_eq.mp hlen : len = 1) ▸ hdg) hl kk
  case l2i => exact am_s_l2i hx hb hs ((beq_iff_eq.mp hlen : len = 1) ▸ hdg) hl kk
  case lshl => exact am_s_lshl hx hb hs ((beq_iff_eq.mp hlen : len = 1) ▸ hdg) hl kk
  case lshr => exact am_s_lshr hx hb hs ((beq_iff_eq.mp hlen : len = 1) ▸ hdg) hl kk
  case lushr => exact am_s_lushr hx hb hs ((beq_iff_eq.mp hlen : len = 1) ▸ hdg) hl kk
  case aconst_null => exact am_s_aconst_null hx hb hs ((beq_iff_eq.mp hlen : len = 1) ▸ hdg) hl kk
  case iconst => exact am_s_iconst hx hb hs ((beq_iff_eq.mp hlen : len = 1) ▸ hdg) hl kk
  case lconst => exact am_s_lconst hx hb hs ((beq_iff_eq.mp hlen : len = 1) ▸ hdg) hl kk
  case bipush => exact am_s_bipush hx hb hs ((beq_iff_eq.mp hlen : len = 2) ▸ hdg) hl kk
  case sipush => exact am_s_sipush hx hb hs ((beq_iff_eq.mp hlen : len = 3) ▸ hdg) hl kk
  case iload => exact am_s_iload hx hb hs ((beq_iff_eq.mp hlen : len = 2) ▸ hdg) hl kk
  case iload_n => exact am_s_iload_n hx hb hs ((beq_iff_eq.mp hlen : len = 1) ▸ hdg) hl kk
  case lload => exact am_s_lload hx hb hs ((beq_iff_eq.mp hlen : len = 2) ▸ hdg) hl kk
  case lload_n => exact am_s_lload_n hx hb hs ((beq_iff_eq.mp hlen : len = 1) ▸ hdg) hl kk
  case aload => exact am_s_aload hx hb hs ((beq_iff_eq.mp hlen : len = 2) ▸ hdg) hl kk
  case aload_n => exact am_s_aload_n hx hb hs ((beq_iff_eq.mp hlen : len = 1) ▸ hdg) hl kk
  case istore => exact am_s_istore hx hb hs ((beq_iff_eq.mp hlen : len = 2) ▸ hdg) hl kk
  case istore_n => exact am_s_istore_n hx hb hs ((beq_iff_eq.mp hlen : len = 1) ▸ hdg) hl kk
  case lstore => exact am_s_lstore hx hb hs ((beq_iff_eq.mp hlen : len = 2) ▸ hdg) hl kk
  case lstore_n => exact am_s_lstore_n hx hb hs ((beq_iff_eq.mp hlen : len = 1) ▸ hdg) hl kk
  case astore => exact am_s_astore hx hb hs ((beq_iff_eq.mp hlen : len = 2) ▸ hdg) hl kk
  case astore_n => exact am_s_astore_n hx hb hs ((beq_iff_eq.mp hlen : len = 1) ▸ hdg) hl kk
  case iinc => exact am_s_iinc hx hb hs ((beq_iff_eq.mp hlen : len = 3) ▸ hdg) hl kk
  case goto => exact am_s_goto hx hb hs ((beq_iff_eq.mp hlen : len = 3) ▸ hdg) hl kk
  case ifnull => exact am_s_ifnull hx hb hs ((beq_iff_eq.mp hlen : len = 3) ▸ hdg) hl kk
  case ifnonnull => exact am_s_ifnonnull hx hb hs ((beq_iff_eq.mp hlen : len = 3) ▸ hdg) hl kk
  case dup => exact am_s_dup hx hb hs ((beq_iff_eq.mp hlen : len = 1) ▸ hdg) hl kk
  case dup_x1 => exact am_s_dup_x1 hx hb hs ((beq_iff_eq.mp hlen : len = 1) ▸ hdg) hl kk
  case dup_x2 => exact am_s_dup_x2 hx hb hs ((beq_iff_eq.mp hlen : len = 1) ▸ hdg) hl kk
  case dup2 => exact am_s_dup2 hx hb hs ((beq_iff_eq.mp hlen : len = 1) ▸ hdg) hl kk
  case dup2_x1 => exact am_s_dup2_x1 hx hb hs ((beq_iff_eq.mp hlen : len = 1) ▸ hdg) hl kk
  case pop => exact am_s_pop hx hb hs ((beq_iff_eq.mp hlen : len = 1) ▸ hdg) hl kk
  case pop2 => exact am_s_pop2 hx hb hs ((beq_iff_eq.mp hlen : len = 1) ▸ hdg) hl kk
  case tableswitch => exact am_s_tableswitch hx hb hs hdg hl kk
  case lookupswitch => exact am_s_lookupswitch hx hb hs hdg hl kk
  case ifCond cd o =>
    have hlen : len = 3 := beq_iff_eq.mp hlen
    subst hlen
    cases cd
    · exact am_s_ifCond_eq hx hb hs hdg hl kk
    · exact am_s_ifCond_ne hx hb hs hdg hl kk
    · exact am_s_ifCond_lt hx hb hs hdg hl kk
    · exact am_s_ifCond_ge hx hb hs hdg hl kk
    · exact am_s_ifCond_gt hx hb hs hdg hl kk
    · exact am_s_ifCond_le hx hb hs hdg hl kk
  case if_icmp cd o =>
    have hlen : len = 3 := beq_iff_eq.mp hlen
    subst hlen
    cases cd
    · exact am_s_if_icmp_eq hx hb hs hdg hl kk
    · exact am_s_if_icmp_ne hx hb hs hdg hl kk
    · exact am_s_if_icmp_lt hx hb hs hdg hl kk
    · exact am_s_if_icmp_ge hx hb hs hdg hl kk
    · exact am_s_if_icmp_gt hx hb hs hdg hl kk
    · exact am_s_if_icmp_le hx hb hs hdg hl kk
  all_goals (exact absurd hs (by simp [am_P]))
end AMF
