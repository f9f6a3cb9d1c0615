/-! TABLES: how they are checked. -/
def ck_in (w : Cond) : Bool := (decide (w ∈ tables_1) || decide (w ∈ k2_sels lw_privs)) && goodWord w
theorem ck_in_ok {w : Cond} (h : ck_in w = true) : w ∈ xTs := by
  simp only [ck_in, Bool.and_eq_true, Bool.or_eq_true, decide_eq_true_eq] at h
  exact List.mem_filter.mpr ⟨by rcases h.1 with h1 | h1; exact List.mem_append_right _ h1; exact List.mem_append_left _ h1, h.2⟩
def ck_nk (w : Cond) : Bool := decide (w ∈ tables_1) && am_nk w
theorem ck_nk_ok {w : Cond} (h : ck_nk w = true) : w ∈ xTw := by
  simp only [ck_nk, Bool.and_eq_true, decide_eq_true_eq] at h
  exact List.mem_filter.mpr h
theorem xTs_good : am_Good xTs := fun w h => good_of_word (List.mem_filter.mp h).2
theorem xTw_nk : ∀ w ∈ xTw, am_nk w = true := fun _ h => (List.mem_filter.mp h).2
def ck_G (own : String) (q : Nat × Nat × Nat × Option String) : Bool := match xcl[q.2.1]? with
  | some (_, T, N) => decide (q.2.2.1 < N) && (match q.2.2.2 with
    | none => ck_in (.fieldLink own q.1 (T q.2.2.1).1 (T q.2.2.1).2.1 (T q.2.2.1).2.2.1)
    | some host => ck_nk (.fieldLinkNest own q.1 (T q.2.2.1).1 (T q.2.2.1).2.1 (T q.2.2.1).2.2.1 host))
  | none => false
theorem ck_G_ok {own : String} {l : List (Nat × Nat × Nat × Option String)} (h : l.all (ck_G own) = true) : am_GtOk xcl xTs xTw own (am_lk l) := by
  intro ix ci k hh hg
  have h1 := List.all_eq_true.mp h _ (am_lk_mem hg)
  unfold ck_G at h1
  split at h1
  · next C T N e1 =>
    simp only [Bool.and_eq_true, decide_eq_true_eq] at h1
    refine ⟨C, T, N, e1, h1.1, ?_⟩
    cases hh with
    | none => exact ck_in_ok h1.2
    | some host => exact ck_nk_ok h1.2
  · cases h1
def ck_P (own mname : String) (q : Nat × Nat × Nat × Option String × Bool) : Bool := match xcl[q.2.1]? with
  | some (_, T, N) => decide (q.2.2.1 < N) && (match q.2.2.2.1 with
    | none => ck_in (.fieldLink own q.1 (T q.2.2.1).1 (T q.2.2.1).2.1 (T q.2.2.1).2.2.1) && (match q.2.2.2.2 with
      | false => (T q.2.2.1).2.2.2 == false
      | true => (T q.2.2.1).2.2.2 == true && (decide (mname = "<init>") && decide ((T q.2.2.1).1 = own)))
    | some host => ck_nk (.fieldLinkNest own q.1 (T q.2.2.1).1 (T q.2.2.1).2.1 (T q.2.2.1).2.2.1 host) && (T q.2.2.1).2.2.2 == false)
  | none => false
theorem ck_P_ok {own mname : String} {l : List (Nat × Nat × Nat × Option String × Bool)} (h : l.all (ck_P own mname) = true) : am_PtOk xcl xTs xTw own mname (am_lk l) := by
  intro ix ci k hh fin hg
  have h1 := List.all_eq_true.mp h _ (am_lk_mem hg)
  unfold ck_P at h1
  split at h1
  · next C T N e1 =>
    simp only [Bool.and_eq_true, decide_eq_true_eq] at h1
    refine ⟨C, T, N, e1, h1.1, ?_⟩
    cases hh with
    | none =>
      have h2 := h1.2
      simp only [Bool.and_eq_true] at h2
      refine ⟨ck_in_ok h2.1, ?_⟩
      cases fin with
      | false => exact beq_iff_eq.mp h2.2
      | true =>
        have h3 := h2.2
        simp only [Bool.and_eq_true, decide_eq_true_eq, beq_iff_eq] at h3
        exact h3
    | some host =>
      have h2 := h1.2
      simp only [Bool.and_eq_true, beq_iff_eq] at h2
      exact ⟨ck_nk_ok h2.1, h2.2⟩
  · cases h1
def ck_N (own : String) (q : Nat × Nat × List Value) : Bool := match xcl[q.2.1]? with
  | some (C, _, N) => ck_in (.classLink own q.1 C) && (ck_in (.instantiable C N) && (ck_in (.initialized C) && decide (q.2.2 = (List.range N).map (fun j => defaultValue (xfty q.2.1 j)))))
  | none => false
theorem ck_N_ok {own : String} {l : List (Nat × Nat × List Value)} (h : l.all (ck_N own) = true) : am_NtOk xcl xTs xfty own (am_lk l) := by
  intro ix ci fs hg
  have h1 := List.all_eq_true.mp h _ (am_lk_mem hg)
  unfold ck_N at h1
  split at h1
  · next C T N e1 =>
    simp only [Bool.and_eq_true, decide_eq_true_eq] at h1
    exact ⟨C, T, N, e1, ck_in_ok h1.1, ck_in_ok h1.2.1, ck_in_ok h1.2.2.1, h1.2.2.2⟩
  · cases h1
def ck_Q (own : String) (q : Nat × String) : Bool := ck_in (.classLink own q.1 q.2) && ck_nk (.arrayOver (.object q.2))
theorem ck_Q_ok {own : String} {l : List (Nat × String)} (h : l.all (ck_Q own) = true) : am_QtOk xTs xTw own (am_lk l) := by
  intro ix C hg
  have h1 := List.all_eq_true.mp h _ (am_lk_mem hg)
  simp only [ck_Q, Bool.and_eq_true] at h1
  exact ⟨ck_in_ok h1.1, ck_nk_ok h1.2⟩
def ck_H (own : String) (q : Nat × Nat) : Bool := ck_in (.fieldLink own q.1 (xfn q.2).1 (xfn q.2).2.1 (xfn q.2).2.2)
theorem ck_H_ok {own : String} {l : List (Nat × Nat)} (h : l.all (ck_H own) = true) : am_HtOk xTs xfn own (am_lk l) := by
  intro ix k hg
  exact ck_in_ok (List.all_eq_true.mp h _ (am_lk_mem hg))
def ck_L (own : String) (q : Nat × Value) : Bool := match q.2 with
  | .int x => ck_in (.constant own q.1 x)
  | .long x => ck_in (.constantLong own q.1 x)
  | .ref k => decide (am_big ≤ k) && (xkr.any (fun r => decide (r.1 = own) && (Nat.beq r.2.1 q.1 && Nat.beq r.2.2.2 (k - am_big))))
  | _ => false
theorem ck_L_ok {own : String} {l : List (Nat × Value)} (h : l.all (ck_L own) = true) : am_LtOk xTs xkr own (am_lk l) := by
  intro ix v hg
  have h1 := List.all_eq_true.mp h _ (am_lk_mem hg)
  unfold ck_L at h1
  split at h1
  · next x e1 =>
    have e1 : v = .int x := e1
    subst e1
    exact ck_in_ok h1
  · next x e1 =>
    have e1 : v = .long x := e1
    subst e1
    exact ck_in_ok h1
  · next k e1 =>
    have e1 : v = .ref k := e1
    subst e1
    simp only [Bool.and_eq_true, decide_eq_true_eq, List.any_eq_true] at h1
    obtain ⟨h2, ⟨a, b, t, d⟩, hm, h3, h4, h5⟩ := h1
    have h4 := Nat.eq_of_beq_eq_true h4
    have h5 := Nat.eq_of_beq_eq_true h5
    simp only at h3 h4 h5
    subst h3
    subst h4
    refine ⟨h2, t, ?_⟩
    rw [← h5]
    exact hm
  · cases h1
def ck_D (b : ByteArray) (q : Nat × Instr × Nat) : Bool := decide (decode b q.1 = .ok q.2) && am_len2 q.2.1 q.2.2
theorem ck_D_ok {b : ByteArray} {t : List (List (Nat × Instr × Nat))} (h : t.flatten.all (ck_D b) = true) : ∀ pc i len, am_lk2 t pc = some (i, len) → decode b pc = .ok (i, len) ∧ am_len2 i len = true := by
  intro pc i len hg
  have h1 := List.all_eq_true.mp h _ (am_lk2_mem hg)
  simp only [ck_D, Bool.and_eq_true, decide_eq_true_eq] at h1
  exact h1
