/-! THE ABSTRACT MACHINE: things that were there before (constant arrays, String constants, statics, the script): references from am_big on. -/
/-- constant arrays by number -/
abbrev am_KA : Type := Nat → Option (FieldType × vp_A)
/-- fields of constant objects: (object's number, field's number) -> value -/
abbrev am_KF : Type := Nat → Nat → Option Value
def am_va (x : vp_A) (i : Nat) : Value := match x.2 with
  | .inl f => .int (f i)
  | .inr (.inl f) => .long (f i)
  | _ => .null
/-- a static's place: what 'laysStatic' says, at a heap -/
def am_LS (C n d : String) (A : Nat → Prop) (U : State) (H : Heap) : Prop := ∃ (c : ClassId) (k : Class) (i : Nat) (f : Field) (a : Nat) (cell : Cell), U.vm.findClass C = some c ∧ U.fieldFound? C n d = some (c, k, i, f) ∧ f.isStatic = true ∧ k.statics = some a ∧ H[a]? = some cell ∧ cell.vm.isStatics = true ∧ cell.cls = c ∧ f.slot < cell.slots.size ∧ k.staticTypes[f.slot]? = some f.type ∧ ¬ A a
theorem am_LS.moved {C n d : String} {A : Nat → Prop} {u U : State} {H : Heap} (hvm : u.vm.Alike U.vm) (h : am_LS C n d A u H) : am_LS C n d A U H := by
  obtain ⟨c, k, i, f, a, cell, hc, hi, hst, ha, hcell, hs, hcls, hlt, hty, hA⟩ := h
  obtain ⟨k', hi', hek⟩ := State.fieldFound?_setVm hvm hi
  exact ⟨c, k', i, f, a, cell, by rw [hvm.findClass]; exact hc, hi', hst, by rw [hek]; exact ha, hcell, hs, hcls, hlt, by rw [hek]; exact hty, hA⟩
theorem am_LS.kept {C n d : String} {A : Nat → Prop} {U : State} {H H1 : Heap} (h : am_LS C n d A U H) (hq : ∀ a : Nat, a < H.size → ¬ A a → H1[a]? = H[a]?) : am_LS C n d A U H1 := by
  obtain ⟨c, k, i, f, a, cell, hc, hi, hst, ha, hcell, hs, hcls, hlt, hty, hA⟩ := h
  exact ⟨c, k, i, f, a, cell, hc, hi, hst, ha, by rw [hq a (Array.getElem?_eq_some_iff.mp hcell).1 hA]; exact hcell, hs, hcls, hlt, hty, hA⟩
theorem am_LS.of {args : Array Value} {s : State} {C n d : String} {A : Nat → Prop} (hl : (Cond.laysStatic C n d).before args s = true) (hA : ∀ a : Nat, a < s.heap.size → ¬ A a) : am_LS C n d A s s.heap := by
  obtain ⟨c, k, i, f, a, cell, hc, hi, hst, ha, hcell, hs, hcls, hlt, hty⟩ := Cond.laysStatic_spec hl
  exact ⟨c, k, i, f, a, cell, hc, hi, hst, ha, hcell, hs, hcls, hlt, hty, hA a (Array.getElem?_eq_some_iff.mp hcell).1⟩
theorem am_LS.use {args : Array Value} {U : State} {C n d : String} {A : Nat → Prop} (h : am_LS C n d A U U.heap) : (Cond.laysStatic C n d).before args U = true := by
  obtain ⟨c, k, i, f, a, cell, hc, hi, hst, ha, hcell, hs, hcls, hlt, hty, -⟩ := h
  exact Cond.laysStatic_of (s := U) hc hi hst ha hcell hs hcls hlt hty
/-- what is known of them: kr: String constants (class, entry, text, number); kz: statics (class, name, descriptor, value); fn: names of fields by number; ko: the objects' classes -/
def am_KC (base : Nat) (g : Nat → Nat) (kr : List (String × Nat × String × Nat)) (kz : List (String × String × String × Value)) (kA : am_KA) (fn : Nat → String × String × String) (kF : am_KF) (ko : Nat → Option String) (s : State) (H : Heap) : Prop :=
  (∀ q ∈ kr, vk_R q.1 q.2.1 q.2.2.1 (g q.2.2.2) s) ∧ (∀ q ∈ kz, va_Z q.1 q.2.1 q.2.2.1 (am_cv base g q.2.2.2) (fun a => base ≤ a) s H ∧ am_LS q.1 q.2.1 q.2.2.1 (fun a => base ≤ a) s H) ∧
  (∀ j ty a, kA j = some (ty, a) → (∀ C, ty ≠ .object C) ∧ va_T ty (g j) a.1 (am_va a) (fun a => base ≤ a) s H) ∧
  (∀ j k v, kF j k = some v → va_OF (fn k).1 (fn k).2.1 (fn k).2.2 (am_cv base g v) (g j) (fun a => base ≤ a) s H) ∧
  (∀ j C, ko j = some C → va_O C (g j) (fun a => base ≤ a) s H)
theorem am_KC.moved {base : Nat} {g : Nat → Nat} {kr : List (String × Nat × String × Nat)} {kz : List (String × String × String × Value)} {kA : am_KA} {fn : Nat → String × String × String} {kF : am_KF} {ko : Nat → Option String} {s U : State} {H H1 : Heap} (h : am_KC base g kr kz kA fn kF ko s H) (hW : s.WarmedH U.vm) (hq : ∀ a : Nat, a < H.size → ¬ base ≤ a → H1[a]? = H[a]?) : am_KC base g kr kz kA fn kF ko U H1 := by
  obtain ⟨h1, h2, h3, h4, h5⟩ := h
  exact ⟨fun q hm => (h1 q hm).warm hW, fun q hm => ⟨va_Z.moved hW.alike ((h2 q hm).1.kept hq), am_LS.moved hW.alike ((h2 q hm).2.kept hq)⟩, fun j ty a hj => ⟨(h3 j ty a hj).1, va_T.moved hW.alike ((h3 j ty a hj).2.kept hq)⟩, fun j k v hj => va_OF.moved hW.alike ((h4 j k v hj).kept hq), fun j C hj => va_O.moved hW.alike ((h5 j C hj).kept hq)⟩
theorem am_cr_big {base : Nat} {g : Nat → Nat} {a : Nat} (h : ¬ a < am_big) : am_cr base g a = g (a - am_big) := by simp [am_cr, h]
def am_kiald (kA : am_KA) (f : am_F) : Option am_F := match f.2.2 with
  | .int i :: .ref a :: st => if a < am_big then none else (match kA (a - am_big) with
    | some (.int, n, .inl h) => if i < 0 ∨ n ≤ i.toNatClampNeg then none else some (f.1 + 1, f.2.1, .int (h i.toNatClampNeg) :: st)
    | _ => none)
  | _ => none
def am_klald (kA : am_KA) (f : am_F) : Option am_F := match f.2.2 with
  | .int i :: .ref a :: st => if a < am_big then none else (match kA (a - am_big) with
    | some (.long, n, .inr (.inl h)) => if i < 0 ∨ n ≤ i.toNatClampNeg then none else some (f.1 + 1, f.2.1, .long (h i.toNatClampNeg) :: st)
    | _ => none)
  | _ => none
def am_kbald (kA : am_KA) (f : am_F) : Option am_F := match f.2.2 with
  | .int i :: .ref a :: st => if a < am_big then none else (match kA (a - am_big) with
    | some (.byte, n, .inl h) => if i < 0 ∨ n ≤ i.toNatClampNeg then none else some (f.1 + 1, f.2.1, .int (h i.toNatClampNeg) :: st)
    | _ => none)
  | _ => none
def am_kalen (kA : am_KA) (f : am_F) : Option am_F := match f.2.2 with
  | .ref a :: st => if a < am_big then none else (match kA (a - am_big) with
    | some (_, x) => some (f.1 + 1, f.2.1, .int (Int32.ofNat x.1) :: st)
    | none => none)
  | _ => none
/-- a method's getfields on constant objects: place in the pool -> field's number -/
abbrev am_HT : Type := Nat → Option Nat
def am_HtOk (Ts : List Cond) (fn : Nat → String × String × String) (own : String) (HT : am_HT) : Prop := ∀ ix k, HT ix = some k → Cond.fieldLink own ix (fn k).1 (fn k).2.1 (fn k).2.2 ∈ Ts
def am_kgetf (HT : am_HT) (kF : am_KF) (ix : Nat) (f : am_F) : Option am_F := match HT ix with
  | some k => (match f.2.2 with
    | .ref a :: st => if a < am_big then none else (match kF (a - am_big) k with
      | some v => some (f.1 + 3, f.2.1, v :: st)
      | none => none)
    | _ => none)
  | none => none
/-- a method's constants: ldc, ldc_w, ldc2_w, and its getstatics -/
abbrev am_LT : Type := Nat → Option Value
def am_LtOk (Ts : List Cond) (kr : List (String × Nat × String × Nat)) (own : String) (LT : am_LT) : Prop := ∀ ix v, LT ix = some v → (match v with
  | .int x => Cond.constant own ix x ∈ Ts
  | .long x => Cond.constantLong own ix x ∈ Ts
  | .ref k => am_big ≤ k ∧ ∃ tx, (own, ix, tx, k - am_big) ∈ kr
  | _ => False)
abbrev am_ST : Type := Nat → Option Value
def am_StOk (Ts Tw : List Cond) (kz : List (String × String × String × Value)) (own : String) (ST : am_ST) : Prop := ∀ ix v, ST ix = some v → ∃ C n d, (C, n, d, v) ∈ kz ∧ (Cond.fieldLink own ix C n d ∈ Ts ∨ ∃ host, Cond.fieldLinkNest own ix C n d host ∈ Tw)
def am_ldc (LT : am_LT) (len ix : Nat) (f : am_F) : Option am_F := match LT ix with
  | some (.int x) => some (f.1 + len, f.2.1, .int x :: f.2.2)
  | some (.ref x) => if len = 2 then some (f.1 + len, f.2.1, .ref x :: f.2.2) else none
  | _ => none
def am_ldc2 (LT : am_LT) (ix : Nat) (f : am_F) : Option am_F := match LT ix with
  | some (.long x) => some (f.1 + 3, f.2.1, .long x :: f.2.2)
  | _ => none
def am_gets (ST : am_ST) (ix : Nat) (f : am_F) : Option am_F := match ST ix with
  | some v => some (f.1 + 3, f.2.1, v :: f.2.2)
  | none => none
section AMK
variable {p : Program} {l : Launch} {e : Env} {R : Room} {s : State} {m : MethodId} {args : Array Value} {below : List Frame} {meth : Method} {c : Code} {H : Heap} {locs : List Loc} {cells slots : Nat} {Q : State → Prop}
variable {cc : ByteArray} {pc nL base : Nat} {g : Nat → Nat} {ls : Array Slot} {lv : List (Nat × Value)} {st : List Value} {f' : am_F} {Ts Tw : List Cond} {own : String}
variable {kr : List (String × Nat × String × Nat)} {kz : List (String × String × String × Value)} {kA : am_KA} {fn : Nat → String × String × String} {kF : am_KF} {ko : Nat → Option String}
theorem am_k_iaload (hx : p.tables.exec = Jvm.exec) (hb : c.code = cc) (hC : am_KC base g kr kz kA fn kF ko s s.heap) (hS : va_S (fun q => base ≤ q) s.heap H locs) (hs : am_kiald kA (pc, lv, st) = some f') (hdg : decode cc pc = .ok (.iaload, 1)) (hl : lv_has ls nL (am_lv base g lv)) (kk : am_Go p l e R s m args below meth c H locs cells slots Q nL base g f') : W p l e R s m args below meth c H locs cells slots Q (F0 m pc ls (am_sk base g st)) := by
  simp only [am_kiald] at hs
  split at hs
  · next i a st2 =>
    split at hs
    · cases hs
    · next hbig =>
      split at hs
      · next n h e3 =>
        split at hs
        · cases hs
        · next hin =>
          cases hs
          have hT := (hC.2.2.1 _ _ _ e3).2
          have k1 : W p l e R s m args below meth c H locs cells slots Q (F0 m (pc + 1) ls (.int (h i.toNatClampNeg) :: am_sk base g st2)) := kk ls hl
          show W p l e R s m args below meth c H locs cells slots Q (F0 m pc ls (.int i :: .ref (am_cr base g a) :: am_sk base g st2))
          rw [am_cr_big hbig]
          exact va_ti hx hb hT hS hin rfl hdg k1
      · cases hs
  · cases hs
theorem am_k_laload (hx : p.tables.exec = Jvm.exec) (hb : c.code = cc) (hC : am_KC base g kr kz kA fn kF ko s s.heap) (hS : va_S (fun q => base ≤ q) s.heap H locs) (hs : am_klald kA (pc, lv, st) = some f') (hdg : decode cc pc = .ok (.laload, 1)) (hl : lv_has ls nL (am_lv base g lv)) (kk : am_Go p l e R s m args below meth c H locs cells slots Q nL base g f') : W p l e R s m args below meth c H locs cells slots Q (F0 m pc ls (am_sk base g st)) := by
  simp only [am_klald] at hs
  split at hs
  · next i a st2 =>
    split at hs
    · cases hs
    · next hbig =>
      split at hs
      · next n h e3 =>
        split at hs
        · cases hs
        · next hin =>
          cases hs
          have hT := (hC.2.2.1 _ _ _ e3).2
          have k1 : W p l e R s m args below meth c H locs cells slots Q (F0 m (pc + 1) ls (.long (h i.toNatClampNeg) :: am_sk base g st2)) := kk ls hl
          show W p l e R s m args below meth c H locs cells slots Q (F0 m pc ls (.int i :: .ref (am_cr base g a) :: am_sk base g st2))
          rw [am_cr_big hbig]
          exact va_tl hx hb hT hS hin rfl hdg k1
      · cases hs
  · cases hs
theorem am_k_baload (hx : p.tables.exec = Jvm.exec) (hb : c.code = cc) (hC : am_KC base g kr kz kA fn kF ko s s.heap) (hS : va_S (fun q => base ≤ q) s.heap H locs) (hs : am_kbald kA (pc, lv, st) = some f') (hdg : decode cc pc = .ok (.baload, 1)) (hl : lv_has ls nL (am_lv base g lv)) (kk : am_Go p l e R s m args below meth c H locs cells slots Q nL base g f') : W p l e R s m args below meth c H locs cells slots Q (F0 m pc ls (am_sk base g st)) := by
  simp only [am_kbald] at hs
  split at hs
  · next i a st2 =>
    split at hs
    · cases hs
    · next hbig =>
      split at hs
      · next n h e3 =>
        split at hs
        · cases hs
        · next hin =>
          cases hs
          have hT := (hC.2.2.1 _ _ _ e3).2
          have k1 : W p l e R s m args below meth c H locs cells slots Q (F0 m (pc + 1) ls (.int (h i.toNatClampNeg) :: am_sk base g st2)) := kk ls hl
          show W p l e R s m args below meth c H locs cells slots Q (F0 m pc ls (.int i :: .ref (am_cr base g a) :: am_sk base g st2))
          rw [am_cr_big hbig]
          exact va_tb hx hb hT hS hin rfl hdg k1
      · cases hs
  · cases hs
theorem am_k_alen (hx : p.tables.exec = Jvm.exec) (hb : c.code = cc) (hC : am_KC base g kr kz kA fn kF ko s s.heap) (hS : va_S (fun q => base ≤ q) s.heap H locs) (hs : am_kalen kA (pc, lv, st) = some f') (hdg : decode cc pc = .ok (.arraylength, 1)) (hl : lv_has ls nL (am_lv base g lv)) (kk : am_Go p l e R s m args below meth c H locs cells slots Q nL base g f') : W p l e R s m args below meth c H locs cells slots Q (F0 m pc ls (am_sk base g st)) := by
  simp only [am_kalen] at hs
  split at hs
  · next a st2 =>
    split at hs
    · cases hs
    · next hbig =>
      split at hs
      · next ty x e3 =>
        cases hs
        have hT := (hC.2.2.1 _ _ _ e3).2
        have k1 : W p l e R s m args below meth c H locs cells slots Q (F0 m (pc + 1) ls (.int (Int32.ofNat x.1) :: am_sk base g st2)) := kk ls hl
        show W p l e R s m args below meth c H locs cells slots Q (F0 m pc ls (.ref (am_cr base g a) :: am_sk base g st2))
        rw [am_cr_big hbig]
        exact va_tlen hx hb hT hS rfl hdg k1
      · cases hs
  · cases hs
theorem am_k_getfield {HT : am_HT} {ix : Nat} (hx : p.tables.exec = Jvm.exec) (hb : c.code = cc) (hts : ∀ w ∈ Ts, w.before args s = true) (hown : s.vm.findClass own = some m.cls) (hH : am_HtOk Ts fn own HT) (hC : am_KC base g kr kz kA fn kF ko s s.heap) (hS : va_S (fun q => base ≤ q) s.heap H locs) (hs : am_kgetf HT kF ix (pc, lv, st) = some f') (hdg : decode cc pc = .ok (.getfield ix, 3)) (hl : lv_has ls nL (am_lv base g lv)) (kk : am_Go p l e R s m args below meth c H locs cells slots Q nL base g f') : W p l e R s m args below meth c H locs cells slots Q (F0 m pc ls (am_sk base g st)) := by
  simp only [am_kgetf] at hs
  split at hs
  · next k e1 =>
    split at hs
    · next a st2 =>
      split at hs
      · cases hs
      · next hbig =>
        split at hs
        · next v e3 =>
          cases hs
          have hF := hC.2.2.2.1 _ _ _ e3
          have k1 : W p l e R s m args below meth c H locs cells slots Q (F0 m (pc + 3) ls (am_cv base g v :: am_sk base g st2)) := kk ls hl
          show W p l e R s m args below meth c H locs cells slots Q (F0 m pc ls (.ref (am_cr base g a) :: am_sk base g st2))
          rw [am_cr_big hbig]
          exact vk_getf hx hb hF hS hown (hts _ (hH _ _ e1)) (fun _ h9 => h9) hdg k1
        · cases hs
    · cases hs
  · cases hs
theorem am_k_ldc {LT : am_LT} {ix : Nat} (hx : p.tables.exec = Jvm.exec) (hb : c.code = cc) (hts : ∀ w ∈ Ts, w.before args s = true) (hown : s.vm.findClass own = some m.cls) (hL : am_LtOk Ts kr own LT) (hC : am_KC base g kr kz kA fn kF ko s s.heap) (hs : am_ldc LT 2 ix (pc, lv, st) = some f') (hdg : decode cc pc = .ok (.ldc ix, 2)) (hl : lv_has ls nL (am_lv base g lv)) (kk : am_Go p l e R s m args below meth c H locs cells slots Q nL base g f') : W p l e R s m args below meth c H locs cells slots Q (F0 m pc ls (am_sk base g st)) := by
  simp only [am_ldc] at hs
  split at hs
  · next x e1 =>
    cases hs
    exact lv_ldc hx hb hown (hts _ (hL _ _ e1)) hdg (kk ls hl)
  · next x e1 =>
    rw [if_pos trivial] at hs
    cases hs
    obtain ⟨hbig, tx, hm⟩ := hL _ _ e1
    have k1 : W p l e R s m args below meth c H locs cells slots Q (F0 m (pc + 2) ls (.ref (am_cr base g x) :: am_sk base g st)) := kk ls hl
    rw [am_cr_big (Nat.not_lt.mpr hbig)] at k1
    exact va_ldcS hx hb hown (hC.1 _ hm) hdg k1
  · cases hs
theorem am_k_ldcw {LT : am_LT} {ix : Nat} (hx : p.tables.exec = Jvm.exec) (hb : c.code = cc) (hts : ∀ w ∈ Ts, w.before args s = true) (hown : s.vm.findClass own = some m.cls) (hL : am_LtOk Ts kr own LT) (hs : am_ldc LT 3 ix (pc, lv, st) = some f') (hdg : decode cc pc = .ok (.ldc_w ix, 3)) (hl : lv_has ls nL (am_lv base g lv)) (kk : am_Go p l e R s m args below meth c H locs cells slots Q nL base g f') : W p l e R s m args below meth c H locs cells slots Q (F0 m pc ls (am_sk base g st)) := by
  simp only [am_ldc] at hs
  split at hs
  · next x e1 =>
    cases hs
    exact lv_ldcw hx hb hown (hts _ (hL _ _ e1)) hdg (kk ls hl)
  · next x e1 =>
    rw [if_neg (by decide)] at hs
    cases hs
  · cases hs
theorem am_k_ldc2 {LT : am_LT} {ix : Nat} (hx : p.tables.exec = Jvm.exec) (hb : c.code = cc) (hts : ∀ w ∈ Ts, w.before args s = true) (hown : s.vm.findClass own = some m.cls) (hL : am_LtOk Ts kr own LT) (hs : am_ldc2 LT ix (pc, lv, st) = some f') (hdg : decode cc pc = .ok (.ldc2_w ix, 3)) (hl : lv_has ls nL (am_lv base g lv)) (kk : am_Go p l e R s m args below meth c H locs cells slots Q nL base g f') : W p l e R s m args below meth c H locs cells slots Q (F0 m pc ls (am_sk base g st)) := by
  simp only [am_ldc2] at hs
  split at hs
  · next x e1 =>
    cases hs
    exact lv_ldc2 hx hb hown (hts _ (hL _ _ e1)) hdg (kk ls hl)
  · cases hs
theorem am_k_gets {ST : am_ST} {ix : Nat} (hx : p.tables.exec = Jvm.exec) (hb : c.code = cc) (hts : ∀ w ∈ Ts, w.before args s = true) (hTw : ∀ w ∈ Tw, va_Nw w s) (hown : s.vm.findClass own = some m.cls) (hL : am_StOk Ts Tw kz own ST) (hC : am_KC base g kr kz kA fn kF ko s s.heap) (hS : va_S (fun q => base ≤ q) s.heap H locs) (hs : am_gets ST ix (pc, lv, st) = some f') (hdg : decode cc pc = .ok (.getstatic ix, 3)) (hl : lv_has ls nL (am_lv base g lv)) (kk : am_Go p l e R s m args below meth c H locs cells slots Q nL base g f') : W p l e R s m args below meth c H locs cells slots Q (F0 m pc ls (am_sk base g st)) := by
  simp only [am_gets] at hs
  split at hs
  · next v e1 =>
    cases hs
    obtain ⟨C, n, d, hm, hlk⟩ := hL _ _ e1
    rcases hlk with hlk | ⟨host, hlk⟩
    · exact va_gets hx hb (hC.2.1 _ hm).1 hS hown (hts _ hlk) (fun _ h9 => h9) hdg (kk ls hl)
    · exact va_getsN hx hb (hC.2.1 _ hm).1 hS hown (hTw _ hlk) (fun _ h9 => h9) hdg (kk ls hl)
  · cases hs
end AMK
