/-! THE ABSTRACT MACHINE: methods, and one step of a method (no call, no end). -/
/-- a method's calls: place in the pool -> kind (0 static, 1 special, 2 virtual on an own object, 3 virtual on a constant, 4 arraycopy), the callee's number, how many operands, nest host, the receiver's class -/
abbrev am_CT : Type := Nat → Option (Nat × Nat × Nat × Option String × Nat)
/-- a method: name, code, locals, answer, instructions by pc, getfields, putfields, news, arrays of references, getfields on constants, constants, getstatics, calls, places of 'throw new' (pc -> class), handlers (from, to, place, entry in the pool), their classes' numbers by entry -/
abbrev am_M : Type := MethodName × ByteArray × Nat × Option FieldType × (Nat → Option (Instr × Nat)) × am_GT × am_PT × am_NT × am_QT × am_HT × am_LT × am_ST × am_CT × (Nat → Option Nat) × List (Nat × Nat × Nat × Nat) × (Nat → Option Nat)
def am_y (M : am_M) : MethodName := M.1
def am_b (M : am_M) : ByteArray := M.2.1
def am_n (M : am_M) : Nat := M.2.2.1
def am_r (M : am_M) : Option FieldType := M.2.2.2.1
def am_mI (M : am_M) : Nat → Option (Instr × Nat) := M.2.2.2.2.1
def am_mG (M : am_M) : am_GT := M.2.2.2.2.2.1
def am_mP (M : am_M) : am_PT := M.2.2.2.2.2.2.1
def am_mN (M : am_M) : am_NT := M.2.2.2.2.2.2.2.1
def am_mQ (M : am_M) : am_QT := M.2.2.2.2.2.2.2.2.1
def am_mH (M : am_M) : am_HT := M.2.2.2.2.2.2.2.2.2.1
def am_mL (M : am_M) : am_LT := M.2.2.2.2.2.2.2.2.2.2.1
def am_mS (M : am_M) : am_ST := M.2.2.2.2.2.2.2.2.2.2.2.1
def am_mC (M : am_M) : am_CT := M.2.2.2.2.2.2.2.2.2.2.2.2.1
def am_mX (M : am_M) : Nat → Option Nat := M.2.2.2.2.2.2.2.2.2.2.2.2.2.1
def am_mT (M : am_M) : List (Nat × Nat × Nat × Nat) := M.2.2.2.2.2.2.2.2.2.2.2.2.2.2.1
def am_mK (M : am_M) : Nat → Option Nat := M.2.2.2.2.2.2.2.2.2.2.2.2.2.2.2
def am_one (a : Option am_F) (ah : am_H) : Option (am_F × am_H) := match a with
  | some f => some (f, ah)
  | none => none
def am_or (a b : Option am_F) (ah : am_H) : Option (am_F × am_H) := match a with
  | some f => some (f, ah)
  | none => am_one b ah
def am_step (cl : List vw_C) (fty : Nat → Nat → FieldType) (tyl : List FieldType) (kA : am_KA) (kF : am_KF) (M : am_M) (i : Instr) (f : am_F) (ah : am_H) : Option (am_F × am_H) := match i with
  | .iaload => am_or (am_iald f ah) (am_kiald kA f) ah
  | .laload => am_or (am_lald f ah) (am_klald kA f) ah
  | .baload => am_or (am_bald f ah) (am_kbald kA f) ah
  | .aaload => am_one (am_aald tyl f ah) ah
  | .arraylength => am_or (am_alen tyl f ah) (am_kalen kA f) ah
  | .iastore => am_iast f ah
  | .lastore => am_last f ah
  | .bastore => am_bast f ah
  | .aastore => am_aast cl tyl f ah
  | .getfield ix => am_or (am_getf (am_mG M) ix f ah) (am_kgetf (am_mH M) kF ix f) ah
  | .putfield ix => am_putf (am_mP M) fty ix f ah
  | .getstatic ix => am_one (am_gets (am_mS M) ix f) ah
  | .ldc ix => am_one (am_ldc (am_mL M) 2 ix f) ah
  | .ldc_w ix => am_one (am_ldc (am_mL M) 3 ix f) ah
  | .ldc2_w ix => am_one (am_ldc2 (am_mL M) ix f) ah
  | .new ix => am_new (am_mN M) ix f ah
  | .newarray t => am_newa tyl t f ah
  | .anewarray ix => am_newq tyl (am_mQ M) ix f ah
  | j => am_one (am_P (am_n M) j f) ah
def am_len2 (i : Instr) (len : Nat) : Bool := match i with
  | .iaload | .laload | .baload | .aaload | .arraylength | .iastore | .lastore | .bastore | .aastore => len == 1
  | .getfield _ | .putfield _ | .getstatic _ | .ldc_w _ | .ldc2_w _ | .new _ | .anewarray _ => len == 3
  | .ldc _ | .newarray _ => len == 2
  | .ireturn | .lreturn | .areturn | .return_ | .athrow => len == 1
  | .invokevirtual _ | .invokespecial _ | .invokestatic _ => len == 3
  | j => am_len j len
/-- the rest of what holds of the whole: classes, types of arrays -/
def am_Glo (cl : List vw_C) (Ts : List Cond) (fty : Nat → Nat → FieldType) (tyl : List FieldType) : Prop := am_ClOk cl Ts fty ∧ FieldType.int ∈ tyl ∧ FieldType.long ∈ tyl ∧ FieldType.boolean ∈ tyl ∧ FieldType.byte ∈ tyl ∧ (∀ ty ∈ tyl, (∀ C, ty ≠ .object C) → Cond.arrayClass ty ∈ Ts)
/-- a method's tables are right -/
def am_MOk (cl : List vw_C) (Ts Tw : List Cond) (fty : Nat → Nat → FieldType) (kr : List (String × Nat × String × Nat)) (kz : List (String × String × String × Value)) (fn : Nat → String × String × String) (M : am_M) : Prop :=
  (∀ pc i len, am_mI M pc = some (i, len) → decode (am_b M) pc = .ok (i, len) ∧ am_len2 i len = true) ∧ am_GtOk cl Ts Tw (am_y M).cls (am_mG M) ∧ am_PtOk cl Ts Tw (am_y M).cls (am_y M).name (am_mP M) ∧ am_NtOk cl Ts fty (am_y M).cls (am_mN M) ∧ am_QtOk Ts Tw (am_y M).cls (am_mQ M) ∧ am_HtOk Ts fn (am_y M).cls (am_mH M) ∧ am_LtOk Ts kr (am_y M).cls (am_mL M) ∧ am_StOk Ts Tw kz (am_y M).cls (am_mS M)
/-- what holds in a method's body all along -/
def am_In (Ts Tw : List Cond) (D : va_G) (cl : List vw_C) (dA : FieldType → ClassId) (tyl : List FieldType) (base : Nat) (g : Nat → Nat) (kr : List (String × Nat × String × Nat)) (kz : List (String × String × String × Value)) (kA : am_KA) (fn : Nat → String × String × String) (kF : am_KF) (ko : Nat → Option String) (M : am_M) (p : Program) (s : State) (m : MethodId) (args : Array Value) (meth : Method) (c : Code) : Prop :=
  p.tables.exec = Jvm.exec ∧ c.code = am_b M ∧ c.maxLocals = am_n M ∧ s.vm.findClass (am_y M).cls = some m.cls ∧ meth.name = (am_y M).name ∧ meth.sig.returnType = am_r M ∧ meth.locks = false ∧ (∀ w ∈ Ts, w.before args s = true) ∧ am_Kn D cl dA tyl base s ∧ am_KC base g kr kz kA fn kF ko s s.heap ∧ (∀ w ∈ Tw, va_Nw w s) ∧ s.methodNamed? (am_y M) = some m
theorem am_slots_set {ah : am_H} {a : Nat} {x0 x : am_C} (h : ah[a]? = some x0) (hx : am_sz x = am_sz x0) : am_slots (ah.set a x) = am_slots ah := by
  have hmap : (ah.set a x).map am_sz = ah.map am_sz := by
    apply List.ext_getElem?
    intro j
    rw [List.getElem?_map, List.getElem?_map, List.getElem?_set]
    by_cases hj : a = j
    · subst hj
      obtain ⟨hl, he⟩ := List.getElem?_eq_some_iff.mp h
      simp [hl, hx, he]
    · simp [hj]
  unfold am_slots
  rw [hmap]
theorem am_at_eq {ah : am_H} {a : Nat} {x : am_C} (h : am_at ah a = some x) : ah[a]? = some x := (am_at_get (dA := fun _ => 0) (base := 0) (g := fun _ => 0) h).1
theorem am_iast_sm {f f' : am_F} {ah ah' : am_H} (hs : am_iast f ah = some (f', ah')) : ah'.length = ah.length ∧ am_slots ah' = am_slots ah := by
  simp only [am_iast] at hs
  repeat' split at hs
  all_goals first | (cases hs; done) | (cases hs; exact ⟨List.length_set .., (by apply am_slots_set (by apply am_at_eq; assumption); rfl)⟩)
theorem am_last_sm {f f' : am_F} {ah ah' : am_H} (hs : am_last f ah = some (f', ah')) : ah'.length = ah.length ∧ am_slots ah' = am_slots ah := by
  simp only [am_last] at hs
  repeat' split at hs
  all_goals first | (cases hs; done) | (cases hs; exact ⟨List.length_set .., (by apply am_slots_set (by apply am_at_eq; assumption); rfl)⟩)
theorem am_bast_sm {f f' : am_F} {ah ah' : am_H} (hs : am_bast f ah = some (f', ah')) : ah'.length = ah.length ∧ am_slots ah' = am_slots ah := by
  simp only [am_bast] at hs
  repeat' split at hs
  all_goals first | (cases hs; done) | (cases hs; exact ⟨List.length_set .., (by apply am_slots_set (by apply am_at_eq; assumption); rfl)⟩)
theorem am_aast_sm {cl : List vw_C} {tyl : List FieldType} {f f' : am_F} {ah ah' : am_H} (hs : am_aast cl tyl f ah = some (f', ah')) : ah'.length = ah.length ∧ am_slots ah' = am_slots ah := by
  simp only [am_aast] at hs
  split at hs
  · split at hs
    · next C n h e3 =>
      repeat' split at hs
      all_goals first | (cases hs; done) | (cases hs; exact ⟨List.length_set .., am_slots_set (am_at_eq e3) rfl⟩)
    · cases hs
  · cases hs
theorem am_copy_sm {f f' : am_F} {ah ah' : am_H} (hs : am_copy f ah = some (f', ah')) : ah'.length = ah.length ∧ am_slots ah' = am_slots ah := by
  simp only [am_copy] at hs
  split at hs
  · split at hs
    · split at hs
      · next n1 h1 e1 =>
        repeat' split at hs
        all_goals first | (cases hs; done) | (cases hs; exact ⟨List.length_set .., am_slots_set (am_at_eq e1) rfl⟩)
      · cases hs
    · cases hs
  · cases hs
theorem am_putf_sm {PT : am_PT} {fty : Nat → Nat → FieldType} {ix : Nat} {f f' : am_F} {ah ah' : am_H} (hs : am_putf PT fty ix f ah = some (f', ah')) : ah'.length = ah.length ∧ am_slots ah' = am_slots ah := by
  simp only [am_putf] at hs
  split at hs
  · split at hs
    · split at hs
      · next cj fs e3 =>
        repeat' split at hs
        all_goals first | (cases hs; done) | (cases hs; exact ⟨List.length_set .., am_slots_set (am_at_eq e3) (by simp [am_sz])⟩)
      · cases hs
    · cases hs
  · cases hs
theorem am_new_sm {NT : am_NT} {ix : Nat} {f f' : am_F} {ah ah' : am_H} (hs : am_new NT ix f ah = some (f', ah')) : ah'.length = ah.length + 1 ∧ am_slots ah ≤ am_slots ah' := by
  simp only [am_new] at hs
  repeat' split at hs
  all_goals first | (cases hs; done) | (cases hs; exact ⟨by simp, by simp [am_slots]⟩)
theorem am_newa_sm {tyl : List FieldType} {at_ : ArrayType} {f f' : am_F} {ah ah' : am_H} (hs : am_newa tyl at_ f ah = some (f', ah')) : ah'.length = ah.length + 1 ∧ am_slots ah ≤ am_slots ah' := by
  simp only [am_newa] at hs
  repeat' split at hs
  all_goals first | (cases hs; done) | (cases hs; exact ⟨by simp, by simp [am_slots]⟩)
theorem am_newq_sm {tyl : List FieldType} {QT : am_QT} {ix : Nat} {f f' : am_F} {ah ah' : am_H} (hs : am_newq tyl QT ix f ah = some (f', ah')) : ah'.length = ah.length + 1 ∧ am_slots ah ≤ am_slots ah' := by
  simp only [am_newq] at hs
  repeat' split at hs
  all_goals first | (cases hs; done) | (cases hs; exact ⟨by simp, by simp [am_slots]⟩)
