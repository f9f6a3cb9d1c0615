/-! THE ABSTRACT MACHINE: fields, new objects and arrays. -/
/-- words that hold on but not by their own form alone -/
def am_nk (w : Cond) : Bool := match w with
  | .methodLinkNest .. => true
  | .fieldLinkNest .. => true
  | .arrayOver (.object _) => true
  | .castable .. => true
  | .not (.castable _ _) => true
  | _ => false
theorem am_nc_moved {C T : String} {s U : State} (hW : s.WarmedH U.vm) (h : va_Nw (.not (.castable C T)) s) : va_Nw (.not (.castable C T)) U := by
  obtain ⟨c, t, h1, h2, h3⟩ := (va_Nc.of h).moved hW.alike
  simp [va_Nw, Cond.before, Cond.holds, Cond.value, h1, h2, h3]
theorem am_nk_moved {w : Cond} (hk : am_nk w = true) {s U : State} (hW : s.WarmedH U.vm) (h : va_Nw w s) : va_Nw w U := by
  unfold am_nk at hk
  split at hk
  · exact h.warmM hW
  · exact h.warmF hW
  · exact va_AO.moved hW.alike h
  · exact h.warmC hW
  · exact am_nc_moved hW h
  · cases hk
theorem am_nk_use {w : Cond} (hk : am_nk w = true) {A : Array Value} {U : State} (h : va_Nw w U) : w.before A U = true := by
  unfold am_nk at hk
  split at hk
  · exact h.use rfl
  · exact h.use rfl
  · exact va_AO.use h
  · exact h.use rfl
  · obtain ⟨c, t, h1, h2, h3⟩ := va_Nc.of h
    simp [Cond.before, Cond.holds, Cond.value, h1, h2, h3]
  · cases hk
def am_fit (ty : FieldType) (v : Value) : Bool := match ty, v with
  | .int, .int _ => true
  | .long, .long _ => true
  | .boolean, .int x => x == 0 || x == 1
  | .object _, .ref _ => true
  | .object _, .null => true
  | .array _, .ref _ => true
  | .array _, .null => true
  | _, _ => false
theorem am_fit_ok (base : Nat) (g : Nat → Nat) {ty : FieldType} {v : Value} (h : am_fit ty v = true) : narrow ty (am_cv base g v) = am_cv base g v ∧ fits ty (am_cv base g v) = true := by
  unfold am_fit at h
  split at h
  · exact ⟨rfl, rfl⟩
  · exact ⟨rfl, rfl⟩
  · next x =>
    have h' : x = 0 ∨ x = 1 := by simpa using h
    rcases h' with rfl | rfl
    · exact ⟨(by decide : narrow .boolean (.int 0) = .int 0), (by decide : fits .boolean (.int 0) = true)⟩
    · exact ⟨(by decide : narrow .boolean (.int 1) = .int 1), (by decide : fits .boolean (.int 1) = true)⟩
  · exact ⟨rfl, rfl⟩
  · exact ⟨rfl, rfl⟩
  · exact ⟨rfl, rfl⟩
  · exact ⟨rfl, rfl⟩
  · cases h
/-- the classes' fields: types, names apart, laid as the tables say -/
def am_ClOk (cl : List vw_C) (Ts : List Cond) (fty : Nat → Nat → FieldType) : Prop := ∀ (ci : Nat) (C : String) (T : u_T) (N : Nat), cl[ci]? = some (C, T, N) → (∀ k, k < N → parseFieldDescriptor (T k).2.2.1 = some (fty ci k)) ∧ (∀ a, a < N → ∀ b, b < N → a ≠ b → (T a).2.1 ≠ (T b).2.1) ∧ (∀ w ∈ u_ws C T N, w ∈ Ts)
/-- a method's getfields: place in the pool -> class, slot, nest host -/
abbrev am_GT : Type := Nat → Option (Nat × Nat × Option String)
def am_GtOk (cl : List vw_C) (Ts Tw : List Cond) (own : String) (GT : am_GT) : Prop := ∀ (ix ci k : Nat) (h : Option String), GT ix = some (ci, k, h) → ∃ (C : String) (T : u_T) (N : Nat), cl[ci]? = some (C, T, N) ∧ k < N ∧ (match h with
  | none => Cond.fieldLink own ix (T k).1 (T k).2.1 (T k).2.2.1 ∈ Ts
  | some host => Cond.fieldLinkNest own ix (T k).1 (T k).2.1 (T k).2.2.1 host ∈ Tw)
/-- its putfields: the same, and whether the field is final -/
abbrev am_PT : Type := Nat → Option (Nat × Nat × Option String × Bool)
def am_PtOk (cl : List vw_C) (Ts Tw : List Cond) (own mname : String) (PT : am_PT) : Prop := ∀ (ix ci k : Nat) (h : Option String) (fin : Bool), PT ix = some (ci, k, h, fin) → ∃ (C : String) (T : u_T) (N : Nat), cl[ci]? = some (C, T, N) ∧ k < N ∧ (match h with
  | none => Cond.fieldLink own ix (T k).1 (T k).2.1 (T k).2.2.1 ∈ Ts ∧ (match fin with
    | false => (T k).2.2.2 = false
    | true => (T k).2.2.2 = true ∧ mname = "<init>" ∧ (T k).1 = own)
  | some host => Cond.fieldLinkNest own ix (T k).1 (T k).2.1 (T k).2.2.1 host ∈ Tw ∧ (T k).2.2.2 = false)
def am_getf (GT : am_GT) (ix : Nat) (f : am_F) (ah : am_H) : Option am_F := match GT ix with
  | some (ci, k, _) => (match f.2.2 with
    | .ref a :: st => (match am_at ah a with
      | some (.inr (cj, fs)) => if cj = ci then (match fs[k]? with
        | some v => some (f.1 + 3, f.2.1, v :: st)
        | none => none) else none
      | _ => none)
    | _ => none)
  | none => none
def am_putf (PT : am_PT) (fty : Nat → Nat → FieldType) (ix : Nat) (f : am_F) (ah : am_H) : Option (am_F × am_H) := match PT ix with
  | some (ci, k, _, _) => (match f.2.2 with
    | v :: .ref a :: st => (match am_at ah a with
      | some (.inr (cj, fs)) => if cj = ci then (if k < fs.length then (if am_fit (fty ci k) v = true then some ((f.1 + 3, f.2.1, st), ah.set a (.inr (cj, fs.set k v))) else none) else none) else none
      | _ => none)
    | _ => none)
  | none => none
section AMN
variable {p : Program} {l : Launch} {e : Env} {R : Room} {s : State} {m : MethodId} {args : Array Value} {below : List Frame} {meth : Method} {c : Code} {H : Heap} {locs : List Loc} {cells slots : Nat} {Q : State → Prop}
variable {cc : ByteArray} {pc nL base : Nat} {g : Nat → Nat} {ls : Array Slot} {lv : List (Nat × Value)} {st : List Value} {f' : am_F} {D : va_G} {cl : List vw_C} {dA : FieldType → ClassId} {tyl : List FieldType} {ah ah' : am_H} {Ts Tw : List Cond} {fty : Nat → Nat → FieldType} {own : String}
theorem am_h_getfield {GT : am_GT} {ix : Nat} (hx : p.tables.exec = Jvm.exec) (hb : c.code = cc) (hts : ∀ w ∈ Ts, w.before args s = true) (hTw : ∀ w ∈ Tw, va_Nw w s) (hown : s.vm.findClass own = some m.cls) (hC : am_ClOk cl Ts fty) (hG : am_GtOk cl Ts Tw own GT) (hK : am_Kn D cl dA tyl base s) (hA : am_At D cl dA base g s.heap ah H locs) (hs : am_getf GT ix (pc, lv, st) ah = some f') (hdg : decode cc pc = .ok (.getfield ix, 3)) (hl : lv_has ls nL (am_lv base g lv)) (kk : am_Go p l e R s m args below meth c H locs cells slots Q nL base g f') : W p l e R s m args below meth c H locs cells slots Q (F0 m pc ls (am_sk base g st)) := by
  simp only [am_getf] at hs
  split at hs
  · next ci k hh e1 =>
    split at hs
    · next a st2 =>
      split at hs
      · next cj fs e3 =>
        split at hs
        · next ec =>
          subst ec
          split at hs
          · next v ev =>
            cases hs
            obtain ⟨-, -, h3⟩ := am_at_get (dA := dA) (base := base) (g := g) e3
            obtain ⟨C, T, N, hc, hk, hlk⟩ := hG _ _ _ _ e1
            have hv : (fs.map (am_cv base g))[k]? = some (am_cv base g v) := by rw [List.getElem?_map, ev]; rfl
            cases hh with
            | none => exact va_get hx hb hts (hC _ _ _ _ hc).2.2 hown hK.1 hA.1 a h3 hc k hk (hts _ hlk) (fun _ h9 => h9) hv hdg (kk ls hl)
            | some host => exact va_getN hx hb hts (hC _ _ _ _ hc).2.2 hown hK.1 hA.1 a h3 hc k hk ((hTw _ hlk).use rfl) (fun _ h9 => h9) hv hdg (kk ls hl)
          · cases hs
        · cases hs
      · cases hs
    · cases hs
  · cases hs
theorem am_h_putfield {PT : am_PT} {ix : Nat} (hx : p.tables.exec = Jvm.exec) (hb : c.code = cc) (hts : ∀ w ∈ Ts, w.before args s = true) (hTw : ∀ w ∈ Tw, va_Nw w s) (hown : s.vm.findClass own = some m.cls) (hC : am_ClOk cl Ts fty) (hG : am_PtOk cl Ts Tw own meth.name PT) (hK : am_Kn D cl dA tyl base s) (hA : am_At D cl dA base g s.heap ah H locs) (hs : am_putf PT fty ix (pc, lv, st) ah = some (f', ah')) (hdg : decode cc pc = .ok (.putfield ix, 3)) (hl : lv_has ls nL (am_lv base g lv)) (kk : am_GoH p l e R s m args below meth c cells slots Q nL base g D cl dA f' ah') : W p l e R s m args below meth c H locs cells slots Q (F0 m pc ls (am_sk base g st)) := by
  simp only [am_putf] at hs
  split at hs
  · next ci k hh fin e1 =>
    split at hs
    · next v a st2 =>
      split at hs
      · next cj fs e3 =>
        split at hs
        · next ec =>
          subst ec
          split at hs
          · next hlen =>
            split at hs
            · next hfit0 =>
              cases hs
              obtain ⟨-, -, h3⟩ := am_at_get (dA := dA) (base := base) (g := g) e3
              obtain ⟨C, T, N, hc, hk, hlk⟩ := hG _ _ _ _ _ e1
              obtain ⟨hty, hnm, hin⟩ := hC _ _ _ _ hc
              obtain ⟨hn, hfit⟩ := am_fit_ok base g hfit0
              have hd := hty k hk
              have hap := va_apart (own := own) hts hin (fty cj) hty hnm hK.1 hc
              obtain ⟨r, h1, cell, q1, q2, q3, q4⟩ := hA.1 a _ h3
              have hr : r = (C, T, N) := Option.some.inj (h1.symm.trans hc)
              subst hr
              obtain ⟨hS, hfc, kC, hkC, hkind⟩ := hK.1.1 cj _ hc
              obtain ⟨cf, kf, fi, f, hi, hsl⟩ := hS k hk
              have hst := (u_facts hfc hkC (u_lays hts hin hk) hi).1
              have hlay := hts _ (hin _ (u_in_lay hk))
              unfold u_lay at hlay
              have fin1 : ∀ (H' : Heap), H'[am_cr base g a]? = some (cell.setSlot f.slot (am_cv base g v)) → H'.size = H.size → (∀ q, q ≠ am_cr base g a → H'[q]? = H[q]?) → am_At D cl dA base g s.heap (ah.set a (.inr (cj, fs.set k v))) H' (locs ++ [⟨am_cr base g a, f.slot⟩]) := by
                intro H' e5 e6 e7
                refine hA.set e3 ?_ e6 e7
                rw [hsl] at e5
                refine ⟨_, hc, t_OB.to (V := updV (vp_V (fs.map (am_cv base g))) k (am_cv base g v)) ⟨_, e5, q2, q3, t_set q4 hap hk _⟩ (fun j hj => ?_)⟩
                show updV (vp_V (fs.map (am_cv base g))) k (am_cv base g v) j = vp_V ((fs.set k v).map (am_cv base g)) j
                rw [List.map_set]
                exact vp_updV_set (by rw [List.length_map]; exact hlen) _ j
              cases hh with
              | none =>
                obtain ⟨hlk, hfin⟩ := hlk
                cases fin with
                | false =>
                  have hfin : (T k).2.2.2 = false := hfin
                  rw [if_neg (by rw [hfin]; decide)] at hlay
                  have h6 := u_store hfc hkC hkind hlay hi hd hn hfit
                  exact W.putK hx hb (f := f) ⟨hown, hts _ hlk, ⟨_, _, _, hi⟩, hst⟩ (by rw [q2]; exact h6) q1 q3 (by rw [hsl]; exact k2_hasslot (q4 k hk)) rfl rfl hdg fun H' e5 e6 e7 => kk ls H' _ hl (fin1 H' e5 e6 e7)
                | true =>
                  obtain ⟨hfin, hin2, hdecl⟩ := hfin
                  rw [if_pos hfin] at hlay
                  have hcf : m.cls = cf := by
                    obtain ⟨_, _, c', _, _, _, -, -, hf', -, -, -, hown2, -⟩ := Cond.laysFinal_spec hlay
                    have e1 : c' = cf := by have := hi.symm.trans hf'; simp at this; exact this.1.symm
                    rw [hdecl] at hown2
                    rw [← e1]; exact Option.some.inj (hown.symm.trans hown2)
                  have h6 := u_fits hfc hkC hkind (Or.inr hlay) hi hd hn hfit
                  exact W.putFinK hx hb hown (hts _ hlk) hi hst hcf hin2 (by rw [q2]; exact h6) q1 q3 (by rw [hsl]; exact k2_hasslot (q4 k hk)) rfl rfl hdg fun H' e5 e6 e7 => kk ls H' _ hl (fin1 H' e5 e6 e7)
              | some host =>
                obtain ⟨hlk, hfin⟩ := hlk
                have hfin : (T k).2.2.2 = false := hfin
                rw [if_neg (by rw [hfin]; decide)] at hlay
                have h6 := u_store hfc hkC hkind hlay hi hd hn hfit
                exact va_WputK hx hb (f := f) hown ((hTw _ hlk).use rfl) hi hst (by rw [q2]; exact h6) q1 q3 (by rw [hsl]; exact k2_hasslot (q4 k hk)) rfl rfl hdg fun H' e5 e6 e7 => kk ls H' _ hl (fin1 H' e5 e6 e7)
            · cases hs
          · cases hs
        · cases hs
      · cases hs
    · cases hs
  · cases hs
end AMN
