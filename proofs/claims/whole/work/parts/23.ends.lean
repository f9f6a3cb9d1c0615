/-! THE ABSTRACT MACHINE IS SOUND. -/
/-- what a throw must do -/
def am_ThrowOk (l : Launch) (Ts Tw : List Cond) (D : va_G) (cl : List vw_C) (dA : FieldType → ClassId) (tyl : List FieldType) (base : Nat) (g : Nat → Nat) (kr : List (String × Nat × String × Nat)) (kz : List (String × String × String × Value)) (kA : am_KA) (fn : Nat → String × String × String) (kF : am_KF) (ko : Nat → Option String) (MT : Nat → Option am_M) : Prop := ∀ (p : Program) (e : Env) (R : Room) (s : State) (m : MethodId) (args : Array Value) (below : List Frame) (meth : Method) (c : Code) (H : Heap) (locs : List Loc) (cells slots : Nat) (ls : Array Slot) (lv : List (Nat × Value)) (st : List Value) (pc mi ci : Nat) (M : am_M) (ah : am_H),
  MT mi = some M → am_In Ts Tw D cl dA tyl base g kr kz kA fn kF ko M p s m args meth c → am_mX M pc = some ci → am_At D cl dA base g s.heap ah H locs → lv_has ls (am_n M) (am_lv base g lv) → ah.length < am_big → (st.map fun v => v.category).sum ≤ 8 → 8 ≤ R.frames → 512 ≤ R.locals → cells + 1 ≤ R.cells → slots + 6 ≤ R.slots →
  W p l e R s m args below meth c H locs cells slots (am_TQ D cl dA base g below s ah.length (ah ++ [.inr (ci, am_six)]) (cells + 1) (slots + 6)) (F0 m pc ls (am_sk base g st))
/-- what a catch must do -/
def am_CatchOk (l : Launch) (Ts Tw : List Cond) (D : va_G) (cl : List vw_C) (dA : FieldType → ClassId) (tyl : List FieldType) (base : Nat) (g : Nat → Nat) (kr : List (String × Nat × String × Nat)) (kz : List (String × String × String × Value)) (kA : am_KA) (fn : Nat → String × String × String) (kF : am_KF) (ko : Nat → Option String) (MT : Nat → Option am_M) : Prop := ∀ (p : Program) (e : Env) (R : Room) (s : State) (m : MethodId) (args : Array Value) (below : List Frame) (meth : Method) (c : Code) (H : Heap) (locs : List Loc) (cells slots : Nat) (Q : State → Prop) (ls : Array Slot) (lv : List (Nat × Value)) (st : List Value) (pc mi mi' ix k na rc len d x ci hp : Nat) (h : Option String) (i : Instr) (fs : List Value) (M M' : am_M) (ah ah1 : am_H),
  MT mi = some M → MT mi' = some M' → am_In Ts Tw D cl dA tyl base g kr kz kA fn kF ko M p s m args meth c → am_At D cl dA base g s.heap ah H locs → lv_has ls (am_n M) (am_lv base g lv) → am_mI M pc = some (i, len) → am_cal M i = some (ix, k, mi', na, h, rc) → ¬ 4 ≤ k → am_cok ko M' k na rc st ah = true → am_MetT l Ts Tw D cl dA tyl base g kr kz kA fn kF ko M' d (st.take na).reverse ah x ah1 → am_at ah1 x = some (.inr (ci, fs)) → am_hnd (am_mK M) (am_mT M) pc ci = some hp →
  d + 1 ≤ R.frames → 64 * (d + 1) ≤ R.locals → cells + (ah1.length - ah.length) ≤ R.cells → slots + (am_slots ah1 - am_slots ah) ≤ R.slots → ah.length ≤ ah1.length →
  (∀ (ls : Array Slot) (H1 : Heap) (locs1 : List Loc), lv_has ls (am_n M) (am_lv base g lv) → am_At D cl dA base g s.heap ah1 H1 locs1 → W p l e R s m args below meth c H1 locs1 (cells + (ah1.length - ah.length)) (slots + (am_slots ah1 - am_slots ah)) Q (F0 m hp ls (am_sk base g [.ref x]))) →
  W p l e R s m args below meth c H locs cells slots Q (F0 m pc ls (am_sk base g st))
/-- what is to be shown at a method's end: c0, s0: cells and slots at its start -/
def am_End (l : Launch) (D : va_G) (cl : List vw_C) (dA : FieldType → ClassId) (base : Nat) (g : Nat → Nat) (M : am_M) (p : Program) (e : Env) (R : Room) (s : State) (m : MethodId) (args : Array Value) (below : List Frame) (meth : Method) (c : Code) (Q : State → Prop) (c0 s0 : Nat) (r : am_A) (ah' : am_H) : Prop := match r with
  | .inl v => ∀ (pc : Nat) (i : Instr) (ls : Array Slot) (H : Heap) (locs : List Loc) (st : List Value), decode (am_b M) pc = .ok (i, 1) → am_ret (am_r M) i st = some v → am_At D cl dA base g s.heap ah' H locs → W p l e R s m args below meth c H locs (ah'.length - c0) (am_slots ah' - s0) Q (F0 m pc ls (am_sk base g st))
  | .inr x => ∀ (pc ci : Nat) (ls : Array Slot) (lv : List (Nat × Value)) (H : Heap) (locs : List Loc) (st : List Value) (ah2 : am_H), am_mX M pc = some ci → ah' = ah2 ++ [.inr (ci, am_six)] → x = ah2.length → ah2.length < am_big → (st.map fun v => v.category).sum ≤ 8 → 8 ≤ R.frames → 512 ≤ R.locals → c0 ≤ ah2.length → s0 ≤ am_slots ah2 → am_At D cl dA base g s.heap ah2 H locs → lv_has ls (am_n M) (am_lv base g lv) → W p l e R s m args below meth c H locs (ah2.length - c0) (am_slots ah2 - s0) Q (F0 m pc ls (am_sk base g st))
theorem am_ret_len {ret : Option FieldType} {i : Instr} {st : List Value} {v : Option Value} {len : Nat} (h : am_ret ret i st = some v) (hl : am_len2 i len = true) : len = 1 := by
  cases i
  case ireturn => exact beq_iff_eq.mp hl
  case lreturn => exact beq_iff_eq.mp hl
  case areturn => exact beq_iff_eq.mp hl
  case return_ => exact beq_iff_eq.mp hl
  all_goals (simp [am_ret] at h)
/-- a contract's end, out of the rows of the kit -/
theorem am_endR {l : Launch} {D : va_G} {cl : List vw_C} {dA : FieldType → ClassId} {base : Nat} {g : Nat → Nat} {M : am_M} {p : Program} {e : Env} {R : Room} {s : State} {m : MethodId} {args : Array Value} {below : List Frame} {meth : Method} {c : Code} {c0 s0 : Nat} {v : Option Value} {ah' : am_H} (hx : p.tables.exec = Jvm.exec) (hb : c.code = am_b M) (hr : meth.sig.returnType = am_r M) (hlocks : meth.locks = false) (hbs : base ≤ s.heap.size) :
    am_End l D cl dA base g M p e R s m args below meth c (MQ below (fun _ st oc t => oc = .returned (v.map (am_cv base g)) ∧ am_Po D cl dA base g ah' st t) args s (ah'.length - c0) (am_slots ah' - s0) (fun q => base ≤ q)) c0 s0 (.inl v) ah' := by
  intro pc i ls H locs st hdg hret hA
  have hq : ∀ t : State, t.heap = H → am_Po D cl dA base g ah' s t := fun t ht => ⟨by rw [ht]; exact hA.1, by rw [ht]; exact hA.2.1, fun q h1 => by rw [ht]; exact hA.2.2.2.1 q (by omega) (by omega)⟩
  have hf := hA.2.2.2.2
  cases i
  case ireturn =>
    simp only [am_ret] at hret
    split at hret
    · next ty ety =>
      split at hret
      · next x =>
        split at hret
        · next hfit =>
          cases hret
          exact W.zret (v := x) (ty := ty) hx hb (hr.trans ety) (am_rfit_ok hfit) (fun t ht hW => ⟨rfl, hq t ht⟩) hf hdg hlocks
        · cases hret
      · cases hret
    · cases hret
  case lreturn =>
    simp only [am_ret] at hret
    split at hret
    · next ety =>
      split at hret
      · next x =>
        cases hret
        exact W.lret (v := x) hx hb (hr.trans ety) (fun t ht hW => ⟨rfl, hq t ht⟩) hf hdg hlocks
      · cases hret
    · cases hret
  case areturn =>
    simp only [am_ret] at hret
    split at hret
    · next C ety =>
      split at hret
      · next x =>
        cases hret
        exact W.aret (v := .ref (am_cr base g x)) hx hb (hr.trans ety) (Or.inl ⟨_, rfl⟩) (Or.inr ⟨_, rfl⟩) (fun t ht hW => ⟨rfl, hq t ht⟩) hf hdg hlocks
      · cases hret
    · next C ety =>
      split at hret
      · next x =>
        cases hret
        exact W.aret (v := .ref (am_cr base g x)) hx hb (hr.trans ety) (Or.inr ⟨_, rfl⟩) (Or.inr ⟨_, rfl⟩) (fun t ht hW => ⟨rfl, hq t ht⟩) hf hdg hlocks
      · cases hret
    · cases hret
  case return_ =>
    simp only [am_ret] at hret
    split at hret
    · next ety =>
      split at hret
      · cases hret
        exact W.vret hx hb (hr.trans ety) (fun t ht hW => ⟨rfl, hq t ht⟩) hf hdg hlocks
      · cases hret
    · cases hret
  all_goals (simp [am_ret] at hret)
theorem am_cal_spec {M : am_M} {i : Instr} {ix k mi na rc : Nat} {h : Option String} (hc : am_cal M i = some (ix, k, mi, na, h, rc)) : am_mC M ix = some (k, mi, na, h, rc) ∧ ((i = .invokestatic ix ∧ (k = 0 ∨ k = 4 ∨ k = 6 ∨ k = 7)) ∨ (i = .invokespecial ix ∧ (k = 1 ∨ k = 5)) ∨ (i = .invokevirtual ix ∧ (k = 2 ∨ k = 3))) := by
  cases i
  case invokestatic jx =>
    simp only [am_cal] at hc
    split at hc
    · next e1 =>
      split at hc
      · next hk => cases hc; exact ⟨e1, Or.inl ⟨rfl, hk⟩⟩
      · cases hc
    · cases hc
  case invokespecial jx =>
    simp only [am_cal] at hc
    split at hc
    · next e1 =>
      split at hc
      · next hk => cases hc; exact ⟨e1, Or.inr (Or.inl ⟨rfl, hk⟩)⟩
      · cases hc
    · cases hc
  case invokevirtual jx =>
    simp only [am_cal] at hc
    split at hc
    · next e1 =>
      split at hc
      · next hk => cases hc; exact ⟨e1, Or.inr (Or.inr ⟨rfl, hk⟩)⟩
      · cases hc
    · cases hc
  all_goals (simp [am_cal] at hc)
