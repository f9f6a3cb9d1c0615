/-! THE ABSTRACT MACHINE: runs. n: fuel; d: how many more frames may nest. The answer: a value (or none), or the number of the object that was thrown. -/
abbrev am_A : Type := Option Value ⊕ Nat
def am_rfit (ty : FieldType) (x : Int32) : Bool := match ty with
  | .int => true
  | .boolean => x == 0 || x == 1
  | .byte => x == 0 || x == 1
  | .char => decide (¬ x < 0) && decide (x ≤ 65535)
  | _ => false
theorem am_rfit_ok {ty : FieldType} {x : Int32} (h : am_rfit ty x = true) : narrow ty (.int x) = .int x := by
  unfold am_rfit at h
  split at h
  · rfl
  · have h' : x = 0 ∨ x = 1 := by simpa using h
    rcases h' with rfl | rfl <;> decide
  · have h' : x = 0 ∨ x = 1 := by simpa using h
    rcases h' with rfl | rfl <;> decide
  · have h' : ¬ x < 0 ∧ x ≤ 65535 := by simpa using h
    obtain ⟨j, hj, rfl⟩ := nI_of2 (n := 65535) (M := 65535) (by decide) h'.1 h'.2
    exact (pk_charN (by omega)).1
  · cases h
def am_ret (ret : Option FieldType) (i : Instr) (st : List Value) : Option (Option Value) := match i with
  | .ireturn => (match ret with
    | some ty => (match st with
      | [.int x] => if am_rfit ty x = true then some (some (.int x)) else none
      | _ => none)
    | none => none)
  | .lreturn => (match ret with
    | some .long => (match st with
      | [.long x] => some (some (.long x))
      | _ => none)
    | _ => none)
  | .areturn => (match ret with
    | some (.object _) => (match st with
      | [.ref x] => some (some (.ref x))
      | _ => none)
    | some (.array _) => (match st with
      | [.ref x] => some (some (.ref x))
      | _ => none)
    | _ => none)
  | .return_ => (match ret with
    | none => (match st with
      | [] => some none
      | _ => none)
    | some _ => none)
  | _ => none
/-- a call: its entry in the pool, kind, callee, operands, nest host, the receiver's class -/
def am_cal (M : am_M) (i : Instr) : Option (Nat × Nat × Nat × Nat × Option String × Nat) := match i with
  | .invokestatic ix => (match am_mC M ix with
    | some (k, mi, n, h, rc) => if k = 0 ∨ k = 4 ∨ k = 6 ∨ k = 7 then some (ix, k, mi, n, h, rc) else none
    | none => none)
  | .invokespecial ix => (match am_mC M ix with
    | some (k, mi, n, h, rc) => if k = 1 ∨ k = 5 then some (ix, k, mi, n, h, rc) else none
    | none => none)
  | .invokevirtual ix => (match am_mC M ix with
    | some (k, mi, n, h, rc) => if k = 2 ∨ k = 3 then some (ix, k, mi, n, h, rc) else none
    | none => none)
  | _ => none
/-- the receiver is as the call wants it -/
def am_rcv (ko : Nat → Option String) (C : String) (k rc : Nat) (As : List Value) (ah : am_H) : Bool := match k with
  | 0 => true
  | 1 => (match As with
    | .ref _ :: _ => true
    | _ => false)
  | 2 => (match As with
    | .ref b :: _ => (match am_at ah b with
      | some (.inr (ci, _)) => ci == rc
      | _ => false)
    | _ => false)
  | 3 => (match As with
    | .ref b :: _ => (match ko (b - am_big) with
      | some C' => decide (¬ b < am_big) && C' == C
      | none => false)
    | _ => false)
  | _ => false
def am_cok (ko : Nat → Option String) (M : am_M) (k na rc : Nat) (st : List Value) (ah : am_H) : Bool :=
  decide (na ≤ st.length) && (decide (((st.drop na).map fun v => v.category).sum ≤ 8) && (decide ((lg_sl (st.take na).reverse).length ≤ am_n M) && am_rcv ko (am_y M).cls k rc (st.take na).reverse ah))
def am_hnd (K : Nat → Option Nat) : List (Nat × Nat × Nat × Nat) → Nat → Nat → Option Nat
  | [], _, _ => none
  | (a, b, h, ix) :: t, pc, ci => if a ≤ pc ∧ pc < b then (if K ix = some ci then some h else am_hnd K t pc ci) else am_hnd K t pc ci
/-- Object's constructor -/
def am_obj (f : am_F) : Option am_F := match f.2.2 with
  | .ref _ :: st => if (st.map fun v => v.category).sum ≤ 8 then some (f.1 + 3, f.2.1, st) else none
  | _ => none
/-- Math.max, Math.min -/
def am_mm (b : Bool) (f : am_F) : Option am_F := match f.2.2 with
  | .int y :: .int x :: st => if (st.map fun v => v.category).sum ≤ 8 then some (f.1 + 3, f.2.1, .int (if b then (if x < y then y else x) else (if y < x then y else x)) :: st) else none
  | _ => none
/-- calls that are one step: arraycopy, Object's constructor, Math.max, Math.min -/
def am_prim (k : Nat) (f : am_F) (ah : am_H) : Option (am_F × am_H) := match k with
  | 4 => am_copy f ah
  | 5 => am_one (am_obj f) ah
  | 6 => am_one (am_mm true f) ah
  | 7 => am_one (am_mm false f) ah
  | _ => none
theorem am_prim_sm {k : Nat} {f f' : am_F} {ah ah' : am_H} (hs : am_prim k f ah = some (f', ah')) : ah'.length = ah.length ∧ am_slots ah' = am_slots ah := by
  unfold am_prim at hs
  split at hs
  · exact am_copy_sm hs
  · rw [(am_one_spec hs).2]; exact ⟨rfl, rfl⟩
  · rw [(am_one_spec hs).2]; exact ⟨rfl, rfl⟩
  · rw [(am_one_spec hs).2]; exact ⟨rfl, rfl⟩
  · cases hs
def am_six : List Value := [.null, .null, .null, .null, .null, .null]
def am_exec (MT : Nat → Option am_M) (cl : List vw_C) (fty : Nat → Nat → FieldType) (tyl : List FieldType) (kA : am_KA) (kF : am_KF) (ko : Nat → Option String) : Nat → Nat → Nat → am_F → am_H → Option (am_A × am_H)
  | 0, _, _, _, _ => none
  | n + 1, d, mi, f, ah => (match MT mi with
    | none => none
    | some M => (match am_mI M f.1 with
      | none => none
      | some (i, _) => (match am_ret (am_r M) i f.2.2 with
        | some v => some (.inl v, ah)
        | none => (match am_mX M f.1 with
          | some ci => if ah.length < am_big ∧ 8 ≤ d ∧ (f.2.2.map fun v => v.category).sum ≤ 8 then some (.inr ah.length, ah ++ [.inr (ci, am_six)]) else none
          | none => (match am_cal M i with
            | none => (match am_step cl fty tyl kA kF M i f ah with
              | some (f', ah') => am_exec MT cl fty tyl kA kF ko n d mi f' ah'
              | none => none)
            | some (_, k, mi', na, _, rc) => if 4 ≤ k then (match am_prim k f ah with
                | some (f', ah') => if d = 0 then none else am_exec MT cl fty tyl kA kF ko n d mi f' ah'
                | none => none)
              else (match d with
                | 0 => none
                | d' + 1 => (match MT mi' with
                  | none => none
                  | some M' => if am_cok ko M' k na rc f.2.2 ah = true then (match am_exec MT cl fty tyl kA kF ko n d' mi' (0, lv_args 0 (f.2.2.take na).reverse, []) ah with
                      | some (.inl v, ah1) => am_exec MT cl fty tyl kA kF ko n (d' + 1) mi (f.1 + 3, f.2.1, v.toList ++ f.2.2.drop na) ah1
                      | some (.inr x, ah1) => (match am_at ah1 x with
                        | some (.inr (ci, _)) => (match am_hnd (am_mK M) (am_mT M) f.1 ci with
                          | some h => am_exec MT cl fty tyl kA kF ko n (d' + 1) mi (h, f.2.1, [.ref x]) ah1
                          | none => none)
                        | _ => none)
                      | none => none)
                    else none)))))))
theorem am_step_sm {cl : List vw_C} {fty : Nat → Nat → FieldType} {tyl : List FieldType} {kA : am_KA} {kF : am_KF} {M : am_M} {i : Instr} {f f' : am_F} {ah ah' : am_H} (hs : am_step cl fty tyl kA kF M i f ah = some (f', ah')) : ah.length ≤ ah'.length ∧ am_slots ah ≤ am_slots ah' := by
  have eq : ah' = ah → ah.length ≤ ah'.length ∧ am_slots ah ≤ am_slots ah' := fun h => by rw [h]; exact ⟨Nat.le_refl _, Nat.le_refl _⟩
  have same : (ah'.length = ah.length ∧ am_slots ah' = am_slots ah) → ah.length ≤ ah'.length ∧ am_slots ah ≤ am_slots ah' := fun h => by rw [h.1, h.2]; exact ⟨Nat.le_refl _, Nat.le_refl _⟩
  have more : (ah'.length = ah.length + 1 ∧ am_slots ah ≤ am_slots ah') → ah.length ≤ ah'.length ∧ am_slots ah ≤ am_slots ah' := fun h => by rw [h.1]; exact ⟨by omega, h.2⟩
  cases i
  case iaload => exact eq (am_or_spec hs).2
  case laload => exact eq (am_or_spec hs).2
  case baload => exact eq (am_or_spec hs).2
  case arraylength => exact eq (am_or_spec hs).2
  case getfield => exact eq (am_or_spec hs).2
  case iastore => exact same (am_iast_sm hs)
  case lastore => exact same (am_last_sm hs)
  case bastore => exact same (am_bast_sm hs)
  case aastore => exact same (am_aast_sm hs)
  case putfield => exact same (am_putf_sm hs)
  case new => exact more (am_new_sm hs)
  case newarray => exact more (am_newa_sm hs)
  case anewarray => exact more (am_newq_sm hs)
  all_goals (simp only [am_step] at hs; exact eq (am_one_spec hs).2)
theorem am_mono {MT : Nat → Option am_M} {cl : List vw_C} {fty : Nat → Nat → FieldType} {tyl : List FieldType} {kA : am_KA} {kF : am_KF} {ko : Nat → Option String} : ∀ (n d mi : Nat) (f : am_F) (ah : am_H) (r : am_A) (ah' : am_H), am_exec MT cl fty tyl kA kF ko n d mi f ah = some (r, ah') → ah.length ≤ ah'.length ∧ am_slots ah ≤ am_slots ah' := by
  intro n
  induction n with
  | zero => intro d mi f ah r ah' h; cases h
  | succ n ih =>
    intro d mi f ah r ah' h
    simp only [am_exec] at h
    split at h
    · cases h
    · split at h
      · cases h
      · split at h
        · cases h; exact ⟨Nat.le_refl _, Nat.le_refl _⟩
        · split at h
          · split at h
            · cases h; exact ⟨by simp, by simp [am_slots]⟩
            · cases h
          · split at h
            · split at h
              · next f2 ah2 e2 =>
                have h1 := am_step_sm e2
                have h2 := ih _ _ _ _ _ _ h
                omega
              · cases h
            · split at h
              · split at h
                · next f2 ah2 e2 =>
                  split at h
                  · cases h
                  · have h1 := am_prim_sm e2
                    have h2 := ih _ _ _ _ _ _ h
                    omega
                · cases h
              · split at h
                · cases h
                · split at h
                  · cases h
                  · split at h
                    · split at h
                      · next v ah1 e1 =>
                        have h1 := ih _ _ _ _ _ _ e1
                        have h2 := ih _ _ _ _ _ _ h
                        omega
                      · next x ah1 e1 =>
                        have h1 := ih _ _ _ _ _ _ e1
                        split at h
                        · split at h
                          · have h2 := ih _ _ _ _ _ _ h
                            omega
                          · cases h
                        · cases h
                      · cases h
                    · cases h
