/-! THE ABSTRACT MACHINE: new objects, new arrays. -/
/-- how many slots a cell has -/
def am_sz (x : am_C) : Nat := match x with
  | .inl (_, a) => a.1
  | .inr (_, fs) => fs.length
def am_slots (ah : am_H) : Nat := (ah.map am_sz).sum
theorem am_cv_dflt (base : Nat) (g : Nat → Nat) (ty : FieldType) : am_cv base g (defaultValue ty) = defaultValue ty := by cases ty <;> rfl
/-- a method's news: place in the pool -> class, default fields -/
abbrev am_NT : Type := Nat → Option (Nat × List Value)
def am_NtOk (cl : List vw_C) (Ts : List Cond) (fty : Nat → Nat → FieldType) (own : String) (NT : am_NT) : Prop := ∀ (ix ci : Nat) (fs : List Value), NT ix = some (ci, fs) → ∃ (C : String) (T : u_T) (N : Nat), cl[ci]? = some (C, T, N) ∧ Cond.classLink own ix C ∈ Ts ∧ Cond.instantiable C N ∈ Ts ∧ Cond.initialized C ∈ Ts ∧ fs = (List.range N).map (fun j => defaultValue (fty ci j))
def am_new (NT : am_NT) (ix : Nat) (f : am_F) (ah : am_H) : Option (am_F × am_H) := match NT ix with
  | some (ci, fs) => if ah.length < am_big then some ((f.1 + 3, f.2.1, .ref ah.length :: f.2.2), ah ++ [.inr (ci, fs)]) else none
  | none => none
def am_dflt (ty : FieldType) (n : Nat) : Option vp_A := match ty with
  | .int => some (n, .inl (fun _ => 0))
  | .boolean => some (n, .inl (fun _ => 0))
  | .byte => some (n, .inl (fun _ => 0))
  | .long => some (n, .inr (.inl (fun _ => 0)))
  | _ => none
theorem am_dflt_ok {ty : FieldType} {n : Nat} {a : vp_A} (h : am_dflt ty n = some a) (base : Nat) (g : Nat → Nat) (cA : ClassId) : vp_cell cA (am_ca base g a) = arrV cA n (fun _ => defaultValue ty) ∧ a.1 = n ∧ (∀ C, ty ≠ .object C) := by
  unfold am_dflt at h
  split at h
  · cases h; exact ⟨rfl, rfl, fun C q => by cases q⟩
  · cases h; exact ⟨rfl, rfl, fun C q => by cases q⟩
  · cases h; exact ⟨rfl, rfl, fun C q => by cases q⟩
  · cases h; exact ⟨rfl, rfl, fun C q => by cases q⟩
  · cases h
def am_newa (tyl : List FieldType) (at_ : ArrayType) (f : am_F) (ah : am_H) : Option (am_F × am_H) := match f.2.2 with
  | .int n :: st => if n < 0 then none else if n.toNatClampNeg * componentBytes (newarray.typeOf at_) ≤ 536870912 then (match am_dflt (newarray.typeOf at_) n.toNatClampNeg with
    | some a => if newarray.typeOf at_ ∈ tyl then (if ah.length < am_big then some ((f.1 + 2, f.2.1, .ref ah.length :: st), ah ++ [.inl (newarray.typeOf at_, a)]) else none) else none
    | none => none) else none
  | _ => none
/-- a method's arrays of references: place in the pool -> component -/
abbrev am_QT : Type := Nat → Option String
def am_QtOk (Ts Tw : List Cond) (own : String) (QT : am_QT) : Prop := ∀ (ix : Nat) (C : String), QT ix = some C → Cond.classLink own ix C ∈ Ts ∧ Cond.arrayOver (.object C) ∈ Tw
def am_newq (tyl : List FieldType) (QT : am_QT) (ix : Nat) (f : am_F) (ah : am_H) : Option (am_F × am_H) := match QT ix with
  | some C => (match f.2.2 with
    | .int n :: st => if n < 0 then none else if n.toNatClampNeg * 4 ≤ 536870912 then (if FieldType.object C ∈ tyl then (if ah.length < am_big then some ((f.1 + 3, f.2.1, .ref ah.length :: st), ah ++ [.inl (.object C, n.toNatClampNeg, .inr (.inr (.inr (.inr (fun _ => none)))))]) else none) else none) else none
    | _ => none)
  | none => none
section AMW
variable {p : Program} {l : Launch} {e : Env} {R : Room} {s : State} {m : MethodId} {args : Array Value} {below : List Frame} {meth : Method} {c : Code} {H : Heap} {locs : List Loc} {cells slots : Nat} {Q : State → Prop}
variable {cc : ByteArray} {pc nL base : Nat} {g : Nat → Nat} {ls : Array Slot} {lv : List (Nat × Value)} {st : List Value} {f' : am_F} {D : va_G} {cl : List vw_C} {dA : FieldType → ClassId} {tyl : List FieldType} {ah ah' : am_H} {Ts Tw : List Cond} {fty : Nat → Nat → FieldType} {own : String}
theorem am_newref (hz : H.size = base + ah.length) (hb : ah.length < am_big) : Value.ref H.size = am_cv base g (.ref ah.length) := by
  show Value.ref H.size = Value.ref (am_cr base g ah.length)
  rw [hz]
  simp [am_cr, hb]
theorem am_h_new {NT : am_NT} {ix : Nat} (hx : p.tables.exec = Jvm.exec) (hb : c.code = cc) (hts : ∀ w ∈ Ts, w.before args s = true) (hown : s.vm.findClass own = some m.cls) (hC : am_ClOk cl Ts fty) (hN : am_NtOk cl Ts fty own NT) (hK : am_Kn D cl dA tyl base s) (hA : am_At D cl dA base g s.heap ah H locs) (hs : am_new NT ix (pc, lv, st) ah = some (f', ah')) (hcells : cells + 1 ≤ R.cells) (hslots : slots + (am_slots ah' - am_slots ah) ≤ R.slots) (hdg : decode cc pc = .ok (.new ix, 3)) (hl : lv_has ls nL (am_lv base g lv)) (kk : am_GoH p l e R s m args below meth c (cells + 1) (slots + (am_slots ah' - am_slots ah)) Q nL base g D cl dA f' ah') : W p l e R s m args below meth c H locs cells slots Q (F0 m pc ls (am_sk base g st)) := by
  simp only [am_new] at hs
  split at hs
  · next ci fs e1 =>
    split at hs
    · next hbig =>
      cases hs
      obtain ⟨C, T, N, hc, h1, h2, h3, h4⟩ := hN _ _ _ e1
      obtain ⟨hty, hnm, hin⟩ := hC _ _ _ _ hc
      have hsl : am_slots (ah ++ [.inr (ci, fs)]) - am_slots ah = N := by
        simp [am_slots, am_sz, h4]
      rw [hsl] at hslots kk
      have hKn := hK.1.1 ci _ hc
      refine W.newcK hx hb hown (hts _ h1) (hts _ h2) (hts _ h3) rfl hdg hcells hslots hKn.2.1 rfl fun H1 kC hkC e2 z1 o1 => ?_
      have k1 := kk ls H1 locs hl (hA.push (x := .inr (ci, fs)) ⟨_, hc, (u_born (fty ci) hts hin hKn hkC e2 hty).to (fun j hj => by
        show defaultValue (fty ci j) = vp_V (fs.map (am_cv base g)) j
        simp [vp_V, h4, hj, am_cv_dflt])⟩ z1 o1)
      have k2 : am_sk base g (.ref ah.length :: st) = .ref H.size :: am_sk base g st := by rw [am_newref (g := g) hA.2.1 hbig]; rfl
      rw [show am_sk base g (((pc, lv, st) : am_F).1 + 3, ((pc, lv, st) : am_F).2.1, Value.ref ah.length :: ((pc, lv, st) : am_F).2.2).2.2 = .ref H.size :: am_sk base g st from k2] at k1
      exact k1
    · cases hs
  · cases hs
theorem am_h_newa {at_ : ArrayType} (hx : p.tables.exec = Jvm.exec) (hb : c.code = cc) (hts : ∀ w ∈ Ts, w.before args s = true) (hTy : ∀ ty ∈ tyl, (∀ C, ty ≠ .object C) → Cond.arrayClass ty ∈ Ts) (hK : am_Kn D cl dA tyl base s) (hA : am_At D cl dA base g s.heap ah H locs) (hs : am_newa tyl at_ (pc, lv, st) ah = some (f', ah')) (hcells : cells + 1 ≤ R.cells) (hslots : slots + (am_slots ah' - am_slots ah) ≤ R.slots) (hdg : decode cc pc = .ok (.newarray at_, 2)) (hl : lv_has ls nL (am_lv base g lv)) (kk : am_GoH p l e R s m args below meth c (cells + 1) (slots + (am_slots ah' - am_slots ah)) Q nL base g D cl dA f' ah') : W p l e R s m args below meth c H locs cells slots Q (F0 m pc ls (am_sk base g st)) := by
  simp only [am_newa] at hs
  split at hs
  · next n st2 =>
    split at hs
    · cases hs
    · next hn =>
      split at hs
      · next hby =>
        split at hs
        · next a ea =>
          split at hs
          · next hty =>
            split at hs
            · next hbig =>
              cases hs
              obtain ⟨-, ha1, hno⟩ := am_dflt_ok ea base g (dA (newarray.typeOf at_))
              have hsl : am_slots (ah ++ [.inl (newarray.typeOf at_, a)]) - am_slots ah = n.toNatClampNeg := by
                simp [am_slots, am_sz, ha1]
              rw [hsl] at hslots kk
              obtain ⟨t0, ht0⟩ := am_ty (dA := dA) hty
              refine va_newaK hx hb (hts _ (hTy _ hty hno)) rfl hdg rfl hn rfl hby hcells hslots rfl fun H1 cA e3 z1 o1 hAr hNm => ?_
              have hRA : s.vm.findClass ("[" ++ (newarray.typeOf at_).toString) = some (dA (newarray.typeOf at_)) := by
                have h := (hK.1.2 t0 _ ht0).2
                revert h
                cases at_ <;> exact fun h => h
              have hcA : cA = dA (newarray.typeOf at_) := Option.some.inj (hNm.symm.trans hRA)
              subst hcA
              have k1 := kk ls H1 locs hl (hA.push (x := .inl (newarray.typeOf at_, a)) (by
                show H1[H.size]? = some (vp_cell _ (am_ca base g a))
                rw [(am_dflt_ok ea base g _).1]
                exact e3) z1 o1)
              have k2 : am_sk base g (.ref ah.length :: st2) = .ref H.size :: am_sk base g st2 := by rw [am_newref (g := g) hA.2.1 hbig]; rfl
              rw [show am_sk base g (((pc, lv, Value.int n :: st2) : am_F).1 + 2, ((pc, lv, Value.int n :: st2) : am_F).2.1, Value.ref ah.length :: st2).2.2 = .ref H.size :: am_sk base g st2 from k2] at k1
              exact k1
            · cases hs
          · cases hs
        · cases hs
      · cases hs
  · cases hs
theorem am_h_newq {QT : am_QT} {ix : Nat} (hx : p.tables.exec = Jvm.exec) (hb : c.code = cc) (hts : ∀ w ∈ Ts, w.before args s = true) (hTw : ∀ w ∈ Tw, va_Nw w s) (hown : s.vm.findClass own = some m.cls) (hQ : am_QtOk Ts Tw own QT) (hK : am_Kn D cl dA tyl base s) (hA : am_At D cl dA base g s.heap ah H locs) (hs : am_newq tyl QT ix (pc, lv, st) ah = some (f', ah')) (hcells : cells + 1 ≤ R.cells) (hslots : slots + (am_slots ah' - am_slots ah) ≤ R.slots) (hdg : decode cc pc = .ok (.anewarray ix, 3)) (hl : lv_has ls nL (am_lv base g lv)) (kk : am_GoH p l e R s m args below meth c (cells + 1) (slots + (am_slots ah' - am_slots ah)) Q nL base g D cl dA f' ah') : W p l e R s m args below meth c H locs cells slots Q (F0 m pc ls (am_sk base g st)) := by
  simp only [am_newq] at hs
  split at hs
  · next C e1 =>
    split at hs
    · next n st2 =>
      split at hs
      · cases hs
      · next hn =>
        split at hs
        · next hby =>
          split at hs
          · next hty =>
            split at hs
            · next hbig =>
              cases hs
              have hsl : am_slots (ah ++ [.inl (.object C, n.toNatClampNeg, .inr (.inr (.inr (.inr (fun _ => none)))))]) - am_slots ah = n.toNatClampNeg := by
                simp [am_slots, am_sz]
              rw [hsl] at hslots kk
              obtain ⟨h1, h2⟩ := hQ _ _ e1
              obtain ⟨t0, ht0⟩ := am_ty (dA := dA) hty
              refine W.anew hx hb hown (hts _ h1) (am_nk_use (w := .arrayOver (.object C)) rfl (hTw _ h2)) rfl hdg rfl hn hby hcells hslots fun cA kA comp f1 f2 f3 f4 => ?_
              obtain ⟨kA', comp', g1, g2, g3, g4⟩ := (hK.1.2 t0 _ ht0).2
              have hcA : cA = dA (.object C) := Option.some.inj (f1.symm.trans g4)
              subst hcA
              generalize hH1 : H.push ({ cls := dA (.object C), slots := Array.replicate n.toNatClampNeg .null, vm := .none } : Cell) = H1
              have z1 : H1.size = H.size + 1 := by rw [← hH1, Array.size_push]
              have e3 : H1[H.size]? = some (arrV (dA (.object C)) n.toNatClampNeg (fun _ => .null)) := by rw [← hH1, Array.getElem?_push_size, ← arrV_new]
              have o1 : ∀ q : Nat, q < H.size → H1[q]? = H[q]? := fun q hq => by rw [← hH1, Array.getElem?_push, if_neg (Nat.ne_of_lt hq)]
              have k1 := kk ls H1 locs hl (hA.push (x := .inl (.object C, n.toNatClampNeg, .inr (.inr (.inr (.inr (fun _ => none)))))) (by
                show H1[H.size]? = some (vp_cell _ (n.toNatClampNeg, .inr (.inr (.inr (.inr (fun _ => none))))))
                rw [vp_cell_q]
                exact e3) z1 o1)
              have k2 : am_sk base g (.ref ah.length :: st2) = .ref H.size :: am_sk base g st2 := by rw [am_newref (g := g) hA.2.1 hbig]; rfl
              rw [show am_sk base g (((pc, lv, Value.int n :: st2) : am_F).1 + 3, ((pc, lv, Value.int n :: st2) : am_F).2.1, Value.ref ah.length :: st2).2.2 = .ref H.size :: am_sk base g st2 from k2] at k1
              exact k1
            · cases hs
          · cases hs
        · cases hs
    · cases hs
  · cases hs
end AMW
