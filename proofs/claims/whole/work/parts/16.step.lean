/-! THE ABSTRACT MACHINE: stores of references, arraycopy of longs, and one step of any kind. -/
def am_aast (cl : List vw_C) (tyl : List FieldType) (f : am_F) (ah : am_H) : Option (am_F × am_H) := match f.2.2 with
  | .ref v :: .int i :: .ref a :: st => (match am_at ah a with
    | some (.inl (.object C, n, .inr (.inr (.inr (.inr h))))) => if i < 0 ∨ n ≤ i.toNatClampNeg then none else (match am_at ah v with
      | some (.inr (ci, _)) => (match cl[ci]? with
        | some r => if r.1 = C then (if FieldType.object C ∈ tyl then some ((f.1 + 1, f.2.1, st), ah.set a (.inl (.object C, n, .inr (.inr (.inr (.inr (va_up h i.toNatClampNeg (some v)))))))) else none) else none
        | none => none)
      | _ => none)
    | _ => none)
  | _ => none
def am_copy (f : am_F) (ah : am_H) : Option (am_F × am_H) := match f.2.2 with
  | .int n :: .int dp :: .ref a1 :: .int sp :: .ref a0 :: st => (match am_at ah a0 with
    | some (.inl (.long, n0, .inr (.inl h0))) => (match am_at ah a1 with
      | some (.inl (.long, n1, .inr (.inl h1))) => if sp < 0 ∨ dp < 0 ∨ n < 0 ∨ n0 < sp.toNatClampNeg + n.toNatClampNeg ∨ n1 < dp.toNatClampNeg + n.toNatClampNeg then none else if (st.map fun v => v.category).sum ≤ 8 then some ((f.1 + 3, f.2.1, st), ah.set a1 (.inl (.long, n1, .inr (.inl (va_cpy h0 h1 sp.toNatClampNeg dp.toNatClampNeg n.toNatClampNeg))))) else none
      | _ => none)
    | _ => none)
  | _ => none
theorem am_sk_cat (base : Nat) (g : Nat → Nat) (st : List Value) : ((am_sk base g st).map fun v => v.category) = st.map fun v => v.category := by
  simp only [am_sk, List.map_map, Function.comp_def, am_cv_cat]
theorem am_up_map (base : Nat) (g : Nat → Nat) (h : Nat → Option Nat) (i v : Nat) : (fun j => (va_up h i (some v) j).map (am_cr base g)) = va_up (fun j => (h j).map (am_cr base g)) i (some (am_cr base g v)) := by
  funext j
  by_cases hj : j = i <;> simp [va_up, hj]
section AMS
variable {p : Program} {l : Launch} {e : Env} {R : Room} {s : State} {m : MethodId} {args : Array Value} {below : List Frame} {meth : Method} {c : Code} {H : Heap} {locs : List Loc} {cells slots : Nat} {Q : State → Prop}
variable {cc : ByteArray} {pc nL base : Nat} {g : Nat → Nat} {ls : Array Slot} {lv : List (Nat × Value)} {st : List Value} {f' : am_F} {D : va_G} {cl : List vw_C} {dA : FieldType → ClassId} {tyl : List FieldType} {ah ah' : am_H} {Ts : List Cond} {fty : Nat → Nat → FieldType} {own : String}
theorem am_h_aastore (hx : p.tables.exec = Jvm.exec) (hb : c.code = cc) (hK : am_Kn D cl dA tyl base s) (hA : am_At D cl dA base g s.heap ah H locs) (hs : am_aast cl tyl (pc, lv, st) ah = some (f', ah')) (hdg : decode cc pc = .ok (.aastore, 1)) (hl : lv_has ls nL (am_lv base g lv)) (kk : am_GoH p l e R s m args below meth c cells slots Q nL base g D cl dA f' ah') : W p l e R s m args below meth c H locs cells slots Q (F0 m pc ls (am_sk base g st)) := by
  simp only [am_aast] at hs
  split at hs
  · next v i a st2 =>
    split at hs
    · next C n h e3 =>
      split at hs
      · cases hs
      · next hin =>
        split at hs
        · next ci vs e4 =>
          split at hs
          · next r hc =>
            split at hs
            · next hr =>
              split at hs
              · next hty =>
                cases hs
                subst hr
                obtain ⟨-, -, h3⟩ := am_at_get (dA := dA) (base := base) (g := g) e3
                obtain ⟨-, -, h4⟩ := am_at_get (dA := dA) (base := base) (g := g) e4
                obtain ⟨t0, ht0⟩ := am_ty (dA := dA) hty
                have hlt : i.toNatClampNeg < n := Nat.not_le.mp fun q => hin (Or.inr q)
                have h0 : ¬ i < 0 := fun q => hin (Or.inl q)
                obtain ⟨r', hr', cellV, g1, g2, g3, -⟩ := hA.1 v _ h4
                have hcls := (hK.1.1 ci r hc).2
                obtain ⟨kA, comp, k1, k2, k3, -⟩ := (hK.1.2 t0 _ ht0).2
                have hcomp : comp = D.1 ci := Option.some.inj (k3.symm.trans hcls.1)
                subst hcomp
                obtain ⟨kC, hkC, -⟩ := hcls.2
                refine W.aast hx hb (hA.1 a _ h3) (fun q h => by cases h) (fun h => by cases h) k1 k2 rfl hkC ⟨h0, by show _ < (arrV _ _ _).slots.size; rw [arrV_size]; exact hlt⟩ g1 (fun q h => by rw [g3] at h; cases h) (by rw [g2]; exact hkC) (by rw [g2]; exact va_assign hcls) rfl rfl hdg fun H1 e1 z oq => ?_
                refine kk ls H1 _ hl (hA.set e3 ?_ z oq)
                show H1[am_cr base g a]? = some (vp_cell (dA (.object r.1)) (n, .inr (.inr (.inr (.inr (fun j => (va_up h i.toNatClampNeg (some v) j).map (am_cr base g)))))))
                rw [e1, am_up_map]
                show some ((vp_cell (dA (.object r.1)) (n, .inr (.inr (.inr (.inr (fun j => (h j).map (am_cr base g))))))).setSlot _ _) = _
                rw [vp_cell_q, vp_cell_q, arrV_store]
                congr 2
                funext q
                by_cases hq : q = i.toNatClampNeg
                · subst hq
                  simp [updV, va_up, va_rf]
                · simp [updV, va_up, hq]
              · cases hs
            · cases hs
          · cases hs
        · cases hs
    · cases hs
  · cases hs
theorem am_nn (z : Int32) (hz : ¬ z < 0) : z.toInt = (z.toNatClampNeg : Int) := by
  have hz0 : (0 : Int) ≤ z.toInt := by
    have := Int32.not_lt.mp hz
    simpa using Int32.le_iff_toInt_le.mp this
  show z.toInt = ((z.toInt.toNat : Nat) : Int)
  omega
theorem am_h_copy {ix : Nat} (hx : p.tables.exec = Jvm.exec) (hb : c.code = cc) (hml : c.maxLocals = nL) (hown : s.vm.findClass own = some m.cls) (hlink : (Cond.methodLink own ix arraycopyName).before args s = true) (hnat : (Cond.native arraycopyName).before args s = true) (hstat : (Cond.static arraycopyName).before args s = true) (hini : (Cond.initialized "java/lang/System").before args s = true) (hK : am_Kn D cl dA tyl base s) (hty : FieldType.long ∈ tyl) (hA : am_At D cl dA base g s.heap ah H locs) (hs : am_copy (pc, lv, st) ah = some (f', ah')) (hframes : 1 ≤ R.frames) (hlocals : 8 + (nativeFrameWords "java/lang/System" "arraycopy" 5 + 11) ≤ R.locals) (hdg : decode cc pc = .ok (.invokestatic ix, 3)) (hl : lv_has ls nL (am_lv base g lv)) (kk : am_GoH p l e R s m args below meth c cells slots Q nL base g D cl dA f' ah') : W p l e R s m args below meth c H locs cells slots Q (F0 m pc ls (am_sk base g st)) := by
  simp only [am_copy] at hs
  split at hs
  · next n dp a1 sp a0 st2 =>
    split at hs
    · next n0 f0 e0 =>
      split at hs
      · next n1 f1 e1 =>
        split at hs
        · cases hs
        · next hin =>
          split at hs
          · next hcat =>
            cases hs
            obtain ⟨-, -, h0⟩ := am_at_get (dA := dA) (base := base) (g := g) e0
            obtain ⟨-, -, h1⟩ := am_at_get (dA := dA) (base := base) (g := g) e1
            obtain ⟨t0, ht0⟩ := am_ty (dA := dA) hty
            have i1 : ¬ sp < 0 := fun q => hin (Or.inl q)
            have i2 : ¬ dp < 0 := fun q => hin (Or.inr (Or.inl q))
            have i3 : ¬ n < 0 := fun q => hin (Or.inr (Or.inr (Or.inl q)))
            have i4 : sp.toNatClampNeg + n.toNatClampNeg ≤ n0 := Nat.not_lt.mp fun q => hin (Or.inr (Or.inr (Or.inr (Or.inl q))))
            have i5 : dp.toNatClampNeg + n.toNatClampNeg ≤ n1 := Nat.not_lt.mp fun q => hin (Or.inr (Or.inr (Or.inr (Or.inr q))))
            intro T hT X
            have hc0 : H[am_cr base g a0]? = some (vp_cell (dA .long) (n0, .inr (.inl f0))) := hA.1 a0 _ h0
            have hc1 : H[am_cr base g a1]? = some (vp_cell (dA .long) (n1, .inr (.inl f1))) := hA.1 a1 _ h1
            obtain ⟨-, k0, hk0, cm0, hkk0⟩ := (hK.1.2 t0 _ ht0).1 n0 (fun j => .long (f0 j))
            obtain ⟨-, k1, hk1, cm1, hkk1⟩ := (hK.1.2 t0 _ ht0).1 n1 (fun j => .long (f1 j))
            have hcat2 : ((am_sk base g st2).map fun v => v.category).sum ≤ 8 := by rw [am_sk_cat]; exact hcat
            obtain ⟨vm', X', step⟩ := X.arraycopy hx hown hlink hnat hstat hini (src := am_cr base g a0) (dst := am_cr base g a1) (cs := vp_cell (dA .long) (n0, .inr (.inl f0))) (cd := vp_cell (dA .long) (n1, .inr (.inl f1))) (srcPos := sp) (destPos := dp) (n := n) (by rw [hT]; exact hc0) (by rw [hT]; exact hc1)
              (fun _ h => by cases h) (fun _ h => by cases h) (fun h => by cases h) (fun h => by cases h) hk0 hk1 hkk0 hkk1 (by simp [refKind]) i1 i2 i3
              (by rw [am_nn sp i1, am_nn n i3]; show ¬ _ > ((arrV (dA .long) n0 (fun j => .long (f0 j))).slots.size : Int); rw [arrV_size]; omega)
              (by rw [am_nn dp i2, am_nn n i3]; show ¬ _ > ((arrV (dA .long) n1 (fun j => .long (f1 j))).slots.size : Int); rw [arrV_size]; omega)
              (fun vm₁ _ i hi => by
                have e : (vp_cell (dA .long) (n0, .inr (.inl f0))).slots.getD (sp.toNatClampNeg + i) .null = .long (f0 (sp.toNatClampNeg + i)) := by
                  show (arrV (dA .long) n0 (fun j => .long (f0 j))).slots.getD _ _ = _
                  rw [Array.getD_eq_getD_getElem?, arrV_read _ _ (by omega)]
                  rfl
                refine ⟨?_, ?_⟩
                · rw [e]
                  rfl
                · rw [e]
                  exact trivial)
              (g := F0 m pc ls (am_sk base g (.int n :: .int dp :: .ref a1 :: .int sp :: .ref a0 :: st2))) rfl (by rw [hml]; exact hl.1) (rest := am_sk base g st2) rfl (by rw [hb]; exact hdg) hframes (by show 2 * 0 + _ + _ ≤ _; omega)
            have e1' : copied (vp_cell (dA .long) (n0, .inr (.inl f0))) (vp_cell (dA .long) (n1, .inr (.inl f1))) sp dp n = vp_cell (dA .long) (n1, .inr (.inl (va_cpy f0 f1 sp.toNatClampNeg dp.toNatClampNeg n.toNatClampNeg))) := va_copied (fun z => .long z) (dA .long) (dA .long) f0 f1 i4
            rw [e1'] at X' step
            have hl1 : am_cr base g a1 < H.size := (Array.getElem?_eq_some_iff.mp hc1).1
            have hheap : ((T.setVm vm').setCell (am_cr base g a1) (vp_cell (dA .long) (n1, .inr (.inl (va_cpy f0 f1 sp.toNatClampNeg dp.toNatClampNeg n.toNatClampNeg))))).heap = H.setIfInBounds (am_cr base g a1) (vp_cell (dA .long) (n1, .inr (.inl (va_cpy f0 f1 sp.toNatClampNeg dp.toNatClampNeg n.toNatClampNeg)))) := by rw [← hT]; rfl
            have oq : ∀ q : Nat, q ≠ am_cr base g a1 → (H.setIfInBounds (am_cr base g a1) (vp_cell (dA .long) (n1, .inr (.inl (va_cpy f0 f1 sp.toNatClampNeg dp.toNatClampNeg n.toNatClampNeg)))))[q]? = H[q]? := fun q hq => by simp [Array.getElem?_setIfInBounds, Ne.symm hq]
            have hA1 := (hA.set (j := 0) (x := .inl (.long, n1, .inr (.inl (va_cpy f0 f1 sp.toNatClampNeg dp.toNatClampNeg n.toNatClampNeg)))) e1 (show (H.setIfInBounds (am_cr base g a1) _)[am_cr base g a1]? = some _ by simp [Array.getElem?_setIfInBounds, hl1]; rfl) (by simp) oq)
            obtain ⟨-, hcr1, -⟩ := am_at_get (dA := dA) (base := base) (g := g) e1
            obtain ⟨t, a2, b2⟩ := kk ls _ _ hl ⟨hA1.1, hA1.2.1, hA1.2.2.1, hA1.2.2.2.1, fun q hq => by
              rcases List.mem_append.mp hq with h | h
              · exact hA.2.2.2.2 q h
              · obtain ⟨z, -, hz⟩ := List.mem_map.mp h
                rw [← hz]
                show base ≤ am_cr base g a1
                rw [hcr1]
                omega⟩ _ hheap X'
            exact ⟨t, step t a2, b2⟩
          · cases hs
      · cases hs
    · cases hs
  · cases hs
end AMS
