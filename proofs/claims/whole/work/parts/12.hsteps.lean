/-! THE ABSTRACT MACHINE, heap steps: they are steps of the machine. -/
def am_Kn (D : va_G) (cl : List vw_C) (dA : FieldType → ClassId) (tyl : List FieldType) (base : Nat) (s : State) : Prop := va_K D cl (tyl.map (fun ty => (dA ty, ty))) s ∧ base ≤ s.heap.size
theorem am_ty {dA : FieldType → ClassId} {tyl : List FieldType} {ty : FieldType} (h : ty ∈ tyl) : ∃ t0 : Nat, (tyl.map (fun ty => (dA ty, ty)))[t0]? = some (dA ty, ty) := by
  obtain ⟨i, hi⟩ := List.getElem?_of_mem h
  exact ⟨i, by rw [List.getElem?_map, hi]; rfl⟩
def am_iald (f : am_F) (ah : am_H) : Option am_F := match f.2.2 with
  | .int i :: .ref a :: st => (match am_at ah a with
    | some (.inl (.int, n, .inl h)) => if i < 0 ∨ n ≤ i.toNatClampNeg then none else some (f.1 + 1, f.2.1, .int (h i.toNatClampNeg) :: st)
    | _ => none)
  | _ => none
def am_lald (f : am_F) (ah : am_H) : Option am_F := match f.2.2 with
  | .int i :: .ref a :: st => (match am_at ah a with
    | some (.inl (.long, n, .inr (.inl h))) => if i < 0 ∨ n ≤ i.toNatClampNeg then none else some (f.1 + 1, f.2.1, .long (h i.toNatClampNeg) :: st)
    | _ => none)
  | _ => none
def am_bald (f : am_F) (ah : am_H) : Option am_F := match f.2.2 with
  | .int i :: .ref a :: st => (match am_at ah a with
    | some (.inl (.boolean, n, .inl h)) => if i < 0 ∨ n ≤ i.toNatClampNeg then none else some (f.1 + 1, f.2.1, .int (h i.toNatClampNeg) :: st)
    | some (.inl (.byte, n, .inl h)) => if i < 0 ∨ n ≤ i.toNatClampNeg then none else some (f.1 + 1, f.2.1, .int (h i.toNatClampNeg) :: st)
    | _ => none)
  | _ => none
def am_aald (tyl : List FieldType) (f : am_F) (ah : am_H) : Option am_F := match f.2.2 with
  | .int i :: .ref a :: st => (match am_at ah a with
    | some (.inl (.object C, n, .inr (.inr (.inr (.inr h))))) => if i < 0 ∨ n ≤ i.toNatClampNeg then none else if FieldType.object C ∈ tyl then some (f.1 + 1, f.2.1, va_rf (h i.toNatClampNeg) :: st) else none
    | _ => none)
  | _ => none
def am_alen (tyl : List FieldType) (f : am_F) (ah : am_H) : Option am_F := match f.2.2 with
  | .ref a :: st => (match am_at ah a with
    | some (.inl (ty, x)) => if ty ∈ tyl then some (f.1 + 1, f.2.1, .int (Int32.ofNat x.1) :: st) else none
    | _ => none)
  | _ => none
def am_iast (f : am_F) (ah : am_H) : Option (am_F × am_H) := match f.2.2 with
  | .int x :: .int i :: .ref a :: st => (match am_at ah a with
    | some (.inl (.int, n, .inl h)) => if i < 0 ∨ n ≤ i.toNatClampNeg then none else some ((f.1 + 1, f.2.1, st), ah.set a (.inl (.int, n, .inl (upd h i.toNatClampNeg x))))
    | _ => none)
  | _ => none
def am_last (f : am_F) (ah : am_H) : Option (am_F × am_H) := match f.2.2 with
  | .long x :: .int i :: .ref a :: st => (match am_at ah a with
    | some (.inl (.long, n, .inr (.inl h))) => if i < 0 ∨ n ≤ i.toNatClampNeg then none else some ((f.1 + 1, f.2.1, st), ah.set a (.inl (.long, n, .inr (.inl (vp_updL h i.toNatClampNeg x)))))
    | _ => none)
  | _ => none
def am_bast (f : am_F) (ah : am_H) : Option (am_F × am_H) := match f.2.2 with
  | .int x :: .int i :: .ref a :: st => (match am_at ah a with
    | some (.inl (.boolean, n, .inl h)) => if i < 0 ∨ n ≤ i.toNatClampNeg then none else some ((f.1 + 1, f.2.1, st), ah.set a (.inl (.boolean, n, .inl (upd h i.toNatClampNeg (vp_nar .boolean x)))))
    | some (.inl (.byte, n, .inl h)) => if i < 0 ∨ n ≤ i.toNatClampNeg then none else some ((f.1 + 1, f.2.1, st), ah.set a (.inl (.byte, n, .inl (upd h i.toNatClampNeg (vp_nar .byte x)))))
    | _ => none)
  | _ => none
section AMH
variable {p : Program} {l : Launch} {e : Env} {R : Room} {s : State} {m : MethodId} {args : Array Value} {below : List Frame} {meth : Method} {c : Code} {H : Heap} {locs : List Loc} {cells slots : Nat} {Q : State → Prop}
variable {cc : ByteArray} {pc nL base : Nat} {g : Nat → Nat} {ls : Array Slot} {lv : List (Nat × Value)} {st : List Value} {f' : am_F} {D : va_G} {cl : List vw_C} {dA : FieldType → ClassId} {tyl : List FieldType} {ah ah' : am_H}
/-- what is to be shown of the next frame and heap -/
def am_GoH (p : Program) (l : Launch) (e : Env) (R : Room) (s : State) (m : MethodId) (args : Array Value) (below : List Frame) (meth : Method) (c : Code) (cells slots : Nat) (Q : State → Prop) (nL base : Nat) (g : Nat → Nat) (D : va_G) (cl : List vw_C) (dA : FieldType → ClassId) (f : am_F) (ah : am_H) : Prop :=
  ∀ (ls : Array Slot) (H : Heap) (locs : List Loc), lv_has ls nL (am_lv base g f.2.1) → am_At D cl dA base g s.heap ah H locs → W p l e R s m args below meth c H locs cells slots Q (F0 m f.1 ls (am_sk base g f.2.2))
theorem am_h_iaload (hx : p.tables.exec = Jvm.exec) (hb : c.code = cc) (hK : am_Kn D cl dA tyl base s) (hty : FieldType.int ∈ tyl) (hA : am_At D cl dA base g s.heap ah H locs) (hs : am_iald (pc, lv, st) ah = some f') (hdg : decode cc pc = .ok (.iaload, 1)) (hl : lv_has ls nL (am_lv base g lv)) (kk : am_Go p l e R s m args below meth c H locs cells slots Q nL base g f') : W p l e R s m args below meth c H locs cells slots Q (F0 m pc ls (am_sk base g st)) := by
  simp only [am_iald] at hs
  split at hs
  · next i a st2 =>
    split at hs
    · next n h e3 =>
      split at hs
      · cases hs
      · next hin =>
        cases hs
        obtain ⟨-, -, h3⟩ := am_at_get (dA := dA) (base := base) (g := g) e3
        obtain ⟨t0, ht0⟩ := am_ty (dA := dA) hty
        exact va_iald hx hb hK.1 hA.1 a t0 h3 ht0 hin hdg (kk ls hl)
    · cases hs
  · cases hs
theorem am_h_laload (hx : p.tables.exec = Jvm.exec) (hb : c.code = cc) (hK : am_Kn D cl dA tyl base s) (hty : FieldType.long ∈ tyl) (hA : am_At D cl dA base g s.heap ah H locs) (hs : am_lald (pc, lv, st) ah = some f') (hdg : decode cc pc = .ok (.laload, 1)) (hl : lv_has ls nL (am_lv base g lv)) (kk : am_Go p l e R s m args below meth c H locs cells slots Q nL base g f') : W p l e R s m args below meth c H locs cells slots Q (F0 m pc ls (am_sk base g st)) := by
  simp only [am_lald] at hs
  split at hs
  · next i a st2 =>
    split at hs
    · next n h e3 =>
      split at hs
      · cases hs
      · next hin =>
        cases hs
        obtain ⟨-, -, h3⟩ := am_at_get (dA := dA) (base := base) (g := g) e3
        obtain ⟨t0, ht0⟩ := am_ty (dA := dA) hty
        exact va_lald hx hb hK.1 hA.1 a t0 h3 ht0 hin hdg (kk ls hl)
    · cases hs
  · cases hs
theorem am_h_baload (hx : p.tables.exec = Jvm.exec) (hb : c.code = cc) (hK : am_Kn D cl dA tyl base s) (hty : FieldType.boolean ∈ tyl) (hty2 : FieldType.byte ∈ tyl) (hA : am_At D cl dA base g s.heap ah H locs) (hs : am_bald (pc, lv, st) ah = some f') (hdg : decode cc pc = .ok (.baload, 1)) (hl : lv_has ls nL (am_lv base g lv)) (kk : am_Go p l e R s m args below meth c H locs cells slots Q nL base g f') : W p l e R s m args below meth c H locs cells slots Q (F0 m pc ls (am_sk base g st)) := by
  simp only [am_bald] at hs
  split at hs
  · next i a st2 =>
    split at hs
    · next n h e3 =>
      split at hs
      · cases hs
      · next hin =>
        cases hs
        obtain ⟨-, -, h3⟩ := am_at_get (dA := dA) (base := base) (g := g) e3
        obtain ⟨t0, ht0⟩ := am_ty (dA := dA) hty
        exact va_zald hx hb hK.1 hA.1 a t0 h3 ht0 hin hdg (kk ls hl)
    · next n h e3 =>
      split at hs
      · cases hs
      · next hin =>
        cases hs
        obtain ⟨-, -, h3⟩ := am_at_get (dA := dA) (base := base) (g := g) e3
        obtain ⟨t0, ht0⟩ := am_ty (dA := dA) hty2
        exact va_bald hx hb hK.1 hA.1 a t0 h3 ht0 hin hdg (kk ls hl)
    · cases hs
  · cases hs
theorem am_rf_cv (base : Nat) (g : Nat → Nat) (r : Option Nat) : va_rf (r.map (am_cr base g)) = am_cv base g (va_rf r) := by cases r <;> rfl
theorem am_h_aaload (hx : p.tables.exec = Jvm.exec) (hb : c.code = cc) (hK : am_Kn D cl dA tyl base s) (hA : am_At D cl dA base g s.heap ah H locs) (hs : am_aald tyl (pc, lv, st) ah = some f') (hdg : decode cc pc = .ok (.aaload, 1)) (hl : lv_has ls nL (am_lv base g lv)) (kk : am_Go p l e R s m args below meth c H locs cells slots Q nL base g f') : W p l e R s m args below meth c H locs cells slots Q (F0 m pc ls (am_sk base g st)) := by
  simp only [am_aald] at hs
  split at hs
  · next i a st2 =>
    split at hs
    · next C n h e3 =>
      split at hs
      · cases hs
      · next hin =>
        split at hs
        · next hty =>
          cases hs
          obtain ⟨-, -, h3⟩ := am_at_get (dA := dA) (base := base) (g := g) e3
          obtain ⟨t0, ht0⟩ := am_ty (dA := dA) hty
          refine va_aldq hx hb hK.1 hA.1 a t0 h3 ht0 hin hdg ?_
          have k1 := kk ls hl
          rw [show am_sk base g (va_rf (h i.toNatClampNeg) :: st2) = va_rf ((h i.toNatClampNeg).map (am_cr base g)) :: am_sk base g st2 by rw [am_rf_cv]; rfl] at k1
          exact k1
        · cases hs
    · cases hs
  · cases hs
theorem am_h_alen (hx : p.tables.exec = Jvm.exec) (hb : c.code = cc) (hK : am_Kn D cl dA tyl base s) (hA : am_At D cl dA base g s.heap ah H locs) (hs : am_alen tyl (pc, lv, st) ah = some f') (hdg : decode cc pc = .ok (.arraylength, 1)) (hl : lv_has ls nL (am_lv base g lv)) (kk : am_Go p l e R s m args below meth c H locs cells slots Q nL base g f') : W p l e R s m args below meth c H locs cells slots Q (F0 m pc ls (am_sk base g st)) := by
  simp only [am_alen] at hs
  split at hs
  · next a st2 =>
    split at hs
    · next ty x e3 =>
      split at hs
      · next hty =>
        cases hs
        obtain ⟨-, -, h3⟩ := am_at_get (dA := dA) (base := base) (g := g) e3
        obtain ⟨t0, ht0⟩ := am_ty (dA := dA) hty
        exact va_alen hx hb hK.1 hA.1 a t0 h3 ht0 rfl hdg (kk ls hl)
      · cases hs
    · cases hs
  · cases hs
theorem am_h_iastore (hx : p.tables.exec = Jvm.exec) (hb : c.code = cc) (hK : am_Kn D cl dA tyl base s) (hty : FieldType.int ∈ tyl) (hA : am_At D cl dA base g s.heap ah H locs) (hs : am_iast (pc, lv, st) ah = some (f', ah')) (hdg : decode cc pc = .ok (.iastore, 1)) (hl : lv_has ls nL (am_lv base g lv)) (kk : am_GoH p l e R s m args below meth c cells slots Q nL base g D cl dA f' ah') : W p l e R s m args below meth c H locs cells slots Q (F0 m pc ls (am_sk base g st)) := by
  simp only [am_iast] at hs
  split at hs
  · next x i a st2 =>
    split at hs
    · next n h e3 =>
      split at hs
      · cases hs
      · next hin =>
        cases hs
        obtain ⟨-, -, h3⟩ := am_at_get (dA := dA) (base := base) (g := g) e3
        obtain ⟨t0, ht0⟩ := am_ty (dA := dA) hty
        refine W.iast hx hb (hA.1 a _ h3) ((hK.1.2 t0 _ ht0).1 n (fun j => .int (h j))) (fun q => by cases q) (by show ¬ (i < 0 ∨ (arrV _ _ _).slots.size ≤ _); rw [arrV_size]; exact hin) rfl rfl hdg fun H1 e1 z oq => ?_
        refine kk ls H1 _ hl (hA.set e3 ?_ z oq)
        show H1[am_cr base g a]? = some (vp_cell (dA .int) (n, .inl (upd h i.toNatClampNeg x)))
        rw [e1]
        show some ((vp_cell (dA .int) (n, .inl h)).setSlot _ _) = _
        rw [vp_cell_i, vp_cell_i, arrV_store]
        congr 2
        funext q
        by_cases hq : q = i.toNatClampNeg
        · subst hq
          simp [updV, upd]
        · simp [updV, upd, hq]
    · cases hs
  · cases hs
theorem am_h_lastore (hx : p.tables.exec = Jvm.exec) (hb : c.code = cc) (hK : am_Kn D cl dA tyl base s) (hty : FieldType.long ∈ tyl) (hA : am_At D cl dA base g s.heap ah H locs) (hs : am_last (pc, lv, st) ah = some (f', ah')) (hdg : decode cc pc = .ok (.lastore, 1)) (hl : lv_has ls nL (am_lv base g lv)) (kk : am_GoH p l e R s m args below meth c cells slots Q nL base g D cl dA f' ah') : W p l e R s m args below meth c H locs cells slots Q (F0 m pc ls (am_sk base g st)) := by
  simp only [am_last] at hs
  split at hs
  · next x i a st2 =>
    split at hs
    · next n h e3 =>
      split at hs
      · cases hs
      · next hin =>
        cases hs
        obtain ⟨-, -, h3⟩ := am_at_get (dA := dA) (base := base) (g := g) e3
        obtain ⟨t0, ht0⟩ := am_ty (dA := dA) hty
        refine W.last hx hb (hA.1 a _ h3) ((hK.1.2 t0 _ ht0).1 n (fun j => .long (h j))) (fun q => by cases q) (by show ¬ (i < 0 ∨ (arrV _ _ _).slots.size ≤ _); rw [arrV_size]; exact hin) rfl rfl hdg fun H1 e1 z oq => ?_
        refine kk ls H1 _ hl (hA.set e3 ?_ z oq)
        show H1[am_cr base g a]? = some (vp_cell (dA .long) (n, .inr (.inl (vp_updL h i.toNatClampNeg x))))
        rw [e1]
        show some ((vp_cell (dA .long) (n, .inr (.inl h))).setSlot _ _) = _
        rw [vp_cell_l, vp_cell_l, arrV_store]
        congr 2
        funext q
        by_cases hq : q = i.toNatClampNeg
        · subst hq
          simp [updV, vp_updL]
        · simp [updV, vp_updL, hq]
    · cases hs
  · cases hs
theorem am_h_bastore (hx : p.tables.exec = Jvm.exec) (hb : c.code = cc) (hK : am_Kn D cl dA tyl base s) (hty : FieldType.boolean ∈ tyl) (hty2 : FieldType.byte ∈ tyl) (hA : am_At D cl dA base g s.heap ah H locs) (hs : am_bast (pc, lv, st) ah = some (f', ah')) (hdg : decode cc pc = .ok (.bastore, 1)) (hl : lv_has ls nL (am_lv base g lv)) (kk : am_GoH p l e R s m args below meth c cells slots Q nL base g D cl dA f' ah') : W p l e R s m args below meth c H locs cells slots Q (F0 m pc ls (am_sk base g st)) := by
  simp only [am_bast] at hs
  split at hs
  · next x i a st2 =>
    split at hs
    · next n h e3 =>
      split at hs
      · cases hs
      · next hin =>
        cases hs
        obtain ⟨-, -, h3⟩ := am_at_get (dA := dA) (base := base) (g := g) e3
        obtain ⟨t0, ht0⟩ := am_ty (dA := dA) hty
        refine W.zast hx hb (hA.1 a _ h3) ((hK.1.2 t0 _ ht0).1 n (fun j => .int (h j))) (fun q => by cases q) (by show ¬ (i < 0 ∨ (arrV _ _ _).slots.size ≤ _); rw [arrV_size]; exact hin) rfl rfl hdg fun H1 e1 z oq => ?_
        refine kk ls H1 _ hl (hA.set e3 ?_ z oq)
        show H1[am_cr base g a]? = some (vp_cell (dA .boolean) (n, .inl (upd h i.toNatClampNeg (vp_nar .boolean x))))
        rw [e1]
        show some ((vp_cell (dA .boolean) (n, .inl h)).setSlot _ _) = _
        rw [vp_cell_i, vp_cell_i, arrV_store]
        congr 2
        funext q
        by_cases hq : q = i.toNatClampNeg
        · subst hq
          simp [updV, upd, vp_nar]
          try rfl
        · simp [updV, upd, hq]
    · next n h e3 =>
      split at hs
      · cases hs
      · next hin =>
        cases hs
        obtain ⟨-, -, h3⟩ := am_at_get (dA := dA) (base := base) (g := g) e3
        obtain ⟨t0, ht0⟩ := am_ty (dA := dA) hty2
        refine W.bast hx hb (hA.1 a _ h3) ((hK.1.2 t0 _ ht0).1 n (fun j => .int (h j))) (fun q => by cases q) (by show ¬ (i < 0 ∨ (arrV _ _ _).slots.size ≤ _); rw [arrV_size]; exact hin) rfl rfl hdg fun H1 e1 z oq => ?_
        refine kk ls H1 _ hl (hA.set e3 ?_ z oq)
        show H1[am_cr base g a]? = some (vp_cell (dA .byte) (n, .inl (upd h i.toNatClampNeg (vp_nar .byte x))))
        rw [e1]
        show some ((vp_cell (dA .byte) (n, .inl h)).setSlot _ _) = _
        rw [vp_cell_i, vp_cell_i, arrV_store]
        congr 2
        funext q
        by_cases hq : q = i.toNatClampNeg
        · subst hq
          simp [updV, upd, vp_nar]
          try rfl
        · simp [updV, upd, hq]
    · cases hs
  · cases hs
end AMH
