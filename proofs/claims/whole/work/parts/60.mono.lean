/-! THE PURE LAYER: a run with more fuel, more depth, more locals comes to the same end. -/
def zp_kd : List (Nat × Value) → Bool
  | [] => true
  | q :: t => t.all (fun r => !(r.1 == q.1)) && zp_kd t
def zp_le (a b : List (Nat × Value)) : Prop := ∀ i v, am_ld a i = some v → am_ld b i = some v
theorem zp_ld_cons (q : Nat × Value) (t : List (Nat × Value)) (i : Nat) : am_ld (q :: t) i = if q.1 = i then some q.2 else am_ld t i := by
  unfold am_ld
  rw [List.find?_cons]
  by_cases h : q.1 = i
  · simp [h]
  · have hb : (q.1 == i) = false := by simp [h]
    rw [if_neg h, hb]
theorem zp_ld_none {t : List (Nat × Value)} {i : Nat} (h : t.all (fun r => !(r.1 == i)) = true) : am_ld t i = none := by
  induction t with
  | nil => rfl
  | cons q t ih =>
    rw [List.all_cons, Bool.and_eq_true] at h
    rw [zp_ld_cons, if_neg (by simpa using h.1)]
    exact ih h.2
theorem zp_kd_filter {p : Nat × Value → Bool} : ∀ {a : List (Nat × Value)}, zp_kd a = true → zp_kd (a.filter p) = true
  | [], _ => rfl
  | q :: t, h => by
    simp only [zp_kd, Bool.and_eq_true] at h
    rw [List.filter_cons]
    split
    · simp only [zp_kd, Bool.and_eq_true]
      refine ⟨?_, zp_kd_filter h.2⟩
      rw [List.all_eq_true] at h ⊢
      exact fun x hx => h.1 x (List.mem_filter.mp hx).1
    · exact zp_kd_filter h.2
theorem zp_ld_of_filter {p : Nat × Value → Bool} {i : Nat} {v : Value} : ∀ {a : List (Nat × Value)}, zp_kd a = true → am_ld (a.filter p) i = some v → am_ld a i = some v ∧ p (i, v) = true
  | [], _, h => by cases h
  | q :: t, hk, h => by
    simp only [zp_kd, Bool.and_eq_true] at hk
    rw [List.filter_cons] at h
    by_cases hp : p q = true
    · rw [if_pos hp, zp_ld_cons] at h
      rw [zp_ld_cons]
      by_cases hq : q.1 = i
      · rw [if_pos hq] at h ⊢
        cases h
        subst hq
        exact ⟨rfl, hp⟩
      · rw [if_neg hq] at h ⊢
        exact zp_ld_of_filter hk.2 h
    · rw [if_neg hp] at h
      obtain ⟨h1, h2⟩ := zp_ld_of_filter hk.2 h
      rw [zp_ld_cons]
      by_cases hq : q.1 = i
      · subst hq
        rw [zp_ld_none hk.1] at h1
        cases h1
      · rw [if_neg hq]
        exact ⟨h1, h2⟩
theorem zp_filter_ld {p : Nat × Value → Bool} {i : Nat} {v : Value} (hp : p (i, v) = true) : ∀ {b : List (Nat × Value)}, am_ld b i = some v → am_ld (b.filter p) i = some v
  | [], h => by cases h
  | q :: t, h => by
    rw [zp_ld_cons] at h
    rw [List.filter_cons]
    by_cases hq : q.1 = i
    · rw [if_pos hq] at h
      cases h
      subst hq
      rw [if_pos hp, zp_ld_cons, if_pos rfl]
    · rw [if_neg hq] at h
      have ih := zp_filter_ld hp h
      split
      · rw [zp_ld_cons, if_neg hq]
        exact ih
      · exact ih
theorem zp_le_cf {a b : List (Nat × Value)} {i : Nat} {v : Value} {p : Nat × Value → Bool} (hk : zp_kd a = true) (h : zp_le a b) : zp_le ((i, v) :: a.filter p) ((i, v) :: b.filter p) := by
  intro j w hj
  rw [zp_ld_cons] at hj ⊢
  split at hj
  · next e => rw [if_pos e]; exact hj
  · next e =>
    rw [if_neg e]
    obtain ⟨h1, h2⟩ := zp_ld_of_filter hk hj
    exact zp_filter_ld h2 (h _ _ h1)
theorem zp_le_st1 {a b : List (Nat × Value)} {i : Nat} {v : Value} (hk : zp_kd a = true) (h : zp_le a b) : zp_le (am_st1 a i v) (am_st1 b i v) := zp_le_cf hk h
theorem zp_le_st2 {a b : List (Nat × Value)} {i : Nat} {v : Value} (hk : zp_kd a = true) (h : zp_le a b) : zp_le (am_st2 a i v) (am_st2 b i v) := zp_le_cf hk h
theorem zp_kd_st1 {a : List (Nat × Value)} {i : Nat} {v : Value} (hk : zp_kd a = true) : zp_kd (am_st1 a i v) = true := by
  unfold am_st1
  simp only [zp_kd, Bool.and_eq_true]
  refine ⟨?_, zp_kd_filter hk⟩
  rw [List.all_eq_true]
  intro x hx
  have := (List.mem_filter.mp hx).2
  simp only [Bool.and_eq_true] at this
  exact this.1
theorem zp_kd_st2 {a : List (Nat × Value)} {i : Nat} {v : Value} (hk : zp_kd a = true) : zp_kd (am_st2 a i v) = true := by
  unfold am_st2
  simp only [zp_kd, Bool.and_eq_true]
  refine ⟨?_, zp_kd_filter hk⟩
  rw [List.all_eq_true]
  intro x hx
  have := (List.mem_filter.mp hx).2
  simp only [Bool.and_eq_true] at this
  exact this.1
/-- the step goes the same way with more locals -/
def zp_R (o : List (Nat × Value) → Option (am_F × am_H)) (lv : List (Nat × Value)) : Prop := ∀ (f' : am_F) (ah' : am_H) (lv' : List (Nat × Value)), o lv = some (f', ah') → zp_kd lv = true → zp_le lv lv' → ∃ lw, o lv' = some ((f'.1, lw, f'.2.2), ah') ∧ zp_le f'.2.1 lw ∧ zp_kd f'.2.1 = true
def zp_R1 (o : List (Nat × Value) → Option am_F) (lv : List (Nat × Value)) : Prop := ∀ (f' : am_F) (lv' : List (Nat × Value)), o lv = some f' → zp_kd lv = true → zp_le lv lv' → ∃ lw, o lv' = some (f'.1, lw, f'.2.2) ∧ zp_le f'.2.1 lw ∧ zp_kd f'.2.1 = true
/-- locals neither read nor written -/
def zp_N1 (o : List (Nat × Value) → Option am_F) : Prop := ∀ (lv lv' : List (Nat × Value)) (f' : am_F), o lv = some f' → f'.2.1 = lv ∧ o lv' = some (f'.1, lv', f'.2.2)
def zp_N (o : List (Nat × Value) → Option (am_F × am_H)) : Prop := ∀ (lv lv' : List (Nat × Value)) (f' : am_F) (ah' : am_H), o lv = some (f', ah') → f'.2.1 = lv ∧ o lv' = some ((f'.1, lv', f'.2.2), ah')
theorem zp_N1.r {o : List (Nat × Value) → Option am_F} (h : zp_N1 o) (lv : List (Nat × Value)) : zp_R1 o lv := by
  intro f' lv' h1 hk hl
  obtain ⟨e, h2⟩ := h lv lv' f' h1
  exact ⟨lv', h2, e ▸ hl, e ▸ hk⟩
theorem zp_N.r {o : List (Nat × Value) → Option (am_F × am_H)} (h : zp_N o) (lv : List (Nat × Value)) : zp_R o lv := by
  intro f' ah' lv' h1 hk hl
  obtain ⟨e, h2⟩ := h lv lv' f' ah' h1
  exact ⟨lv', h2, e ▸ hl, e ▸ hk⟩
theorem zp_one {o : List (Nat × Value) → Option am_F} {lv : List (Nat × Value)} {ah : am_H} (h : zp_R1 o lv) : zp_R (fun lv => am_one (o lv) ah) lv := by
  intro f' ah' lv' h1 hk hl
  obtain ⟨h2, rfl⟩ := am_one_spec h1
  obtain ⟨lw, h3, h4, h5⟩ := h f' lv' h2 hk hl
  exact ⟨lw, by show am_one (o lv') ah' = _; rw [h3]; rfl, h4, h5⟩
theorem zp_orN {o o2 : List (Nat × Value) → Option am_F} {ah : am_H} (h : zp_N1 o) (h2 : zp_N1 o2) : zp_N (fun lv => am_or (o lv) (o2 lv) ah) := by
  intro lv lv' f' ah' h1
  dsimp only at h1 ⊢
  cases e : o lv with
  | some g =>
    rw [e] at h1
    cases h1
    obtain ⟨a, b⟩ := h lv lv' _ e
    exact ⟨a, by rw [b]; rfl⟩
  | none =>
    have e' : o lv' = none := by
      cases e2 : o lv' with
      | none => rfl
      | some g => have := (h lv' lv _ e2).2; rw [e] at this; cases this
    rw [e] at h1
    rw [e']
    cases e3 : o2 lv with
    | none => rw [e3] at h1; cases h1
    | some g =>
      rw [e3] at h1
      cases h1
      obtain ⟨a, b⟩ := h2 lv lv' _ e3
      exact ⟨a, by rw [b]; rfl⟩
section ZPN
variable {pc : Nat} {st : List Value} {ah : am_H}
theorem zp_ii {op : Int32 → Int32 → Option Value} : zp_N1 (fun lv => am_ii (pc, lv, st) op) := by
  intro lv lv' f' h
  simp only [am_ii] at h ⊢
  repeat' split at h
  all_goals first | (cases h; done) | (cases h; simp_all)
theorem zp_i {op : Int32 → Value} : zp_N1 (fun lv => am_i (pc, lv, st) op) := by
  intro lv lv' f' h
  simp only [am_i] at h ⊢
  repeat' split at h
  all_goals first | (cases h; done) | (cases h; simp_all)
theorem zp_ll {op : Int64 → Int64 → Option Value} : zp_N1 (fun lv => am_ll (pc, lv, st) op) := by
  intro lv lv' f' h
  simp only [am_ll] at h ⊢
  repeat' split at h
  all_goals first | (cases h; done) | (cases h; simp_all)
theorem zp_l {op : Int64 → Value} : zp_N1 (fun lv => am_l (pc, lv, st) op) := by
  intro lv lv' f' h
  simp only [am_l] at h ⊢
  repeat' split at h
  all_goals first | (cases h; done) | (cases h; simp_all)
theorem zp_li {op : Int64 → Int32 → Value} : zp_N1 (fun lv => am_li (pc, lv, st) op) := by
  intro lv lv' f' h
  simp only [am_li] at h ⊢
  repeat' split at h
  all_goals first | (cases h; done) | (cases h; simp_all)
theorem zp_jmp {b : Bool} {off : Int} {st' : List Value} : zp_N1 (fun lv => am_jmp (pc, lv, st) st' b off) := by
  intro lv lv' f' h
  simp only [am_jmp] at h ⊢
  repeat' split at h
  all_goals first | (cases h; done) | (cases h; simp_all)
theorem zp_if {P : Int32 → Bool} {off : Int} : zp_N1 (fun lv => am_if (pc, lv, st) P off) := by
  intro lv lv' f' h
  simp only [am_if] at h ⊢
  split at h
  · exact zp_jmp lv lv' f' h
  · cases h
theorem zp_ic {P : Int32 → Int32 → Bool} {off : Int} : zp_N1 (fun lv => am_ic (pc, lv, st) P off) := by
  intro lv lv' f' h
  simp only [am_ic] at h ⊢
  split at h
  · exact zp_jmp lv lv' f' h
  · cases h
theorem zp_nul {b : Bool} {off : Int} : zp_N1 (fun lv => am_nul (pc, lv, st) b off) := by
  intro lv lv' f' h
  simp only [am_nul] at h ⊢
  split at h
  · exact zp_jmp lv lv' f' h
  · exact zp_jmp lv lv' f' h
  · cases h
theorem zp_dup : zp_N1 (fun lv => am_dup (pc, lv, st)) := by
  intro lv lv' f' h
  simp only [am_dup] at h ⊢
  repeat' split at h
  all_goals first | (cases h; done) | (cases h; simp_all)
theorem zp_dup2 : zp_N1 (fun lv => am_dup2 (pc, lv, st)) := by
  intro lv lv' f' h
  simp only [am_dup2] at h ⊢
  repeat' split at h
  all_goals first | (cases h; done) | (cases h; simp_all)
theorem zp_dupx1 : zp_N1 (fun lv => am_dupx1 (pc, lv, st)) := by
  intro lv lv' f' h
  simp only [am_dupx1] at h ⊢
  repeat' split at h
  all_goals first | (cases h; done) | (cases h; simp_all)
theorem zp_dupx2 : zp_N1 (fun lv => am_dupx2 (pc, lv, st)) := by
  intro lv lv' f' h
  simp only [am_dupx2] at h ⊢
  repeat' split at h
  all_goals first | (cases h; done) | (cases h; simp_all)
theorem zp_dup2x1 : zp_N1 (fun lv => am_dup2x1 (pc, lv, st)) := by
  intro lv lv' f' h
  simp only [am_dup2x1] at h ⊢
  repeat' split at h
  all_goals first | (cases h; done) | (cases h; simp_all)
theorem zp_pop : zp_N1 (fun lv => am_pop (pc, lv, st)) := by
  intro lv lv' f' h
  simp only [am_pop] at h ⊢
  repeat' split at h
  all_goals first | (cases h; done) | (cases h; simp_all)
theorem zp_pop2 : zp_N1 (fun lv => am_pop2 (pc, lv, st)) := by
  intro lv lv' f' h
  simp only [am_pop2] at h ⊢
  repeat' split at h
  all_goals first | (cases h; done) | (cases h; simp_all)
theorem zp_tsw {d lo hi : Int} {os : Array Int} : zp_N1 (fun lv => am_tsw (pc, lv, st) d lo hi os) := by
  intro lv lv' f' h
  simp only [am_tsw] at h ⊢
  split at h
  · split at h
    · next e =>
      rw [if_pos e]
      split at h
      · cases h; exact ⟨rfl, rfl⟩
      · cases h
    · next e =>
      rw [if_neg e]
      split at h
      · split at h
        · next e2 _ _ e3 => cases h; simp only [e2, e3]; exact ⟨trivial, trivial⟩
        · cases h
      · cases h
  · cases h
theorem zp_lsw {d : Int} {ps : Array (Int × Int)} : zp_N1 (fun lv => am_lsw (pc, lv, st) d ps) := by
  intro lv lv' f' h
  simp only [am_lsw] at h ⊢
  split at h
  · split at h
    · next e =>
      rw [if_pos e]
      split at h
      · cases h; exact ⟨rfl, rfl⟩
      · cases h
    · cases h
  · cases h
theorem zp_ldi {n i : Nat} {lv : List (Nat × Value)} : zp_R1 (fun lv => am_ldi (pc, lv, st) n i) lv := by
  intro f' lv' h hk hl
  simp only [am_ldi] at h ⊢
  split at h
  · next x e => cases h; rw [hl _ _ e]; exact ⟨lv', rfl, hl, hk⟩
  · cases h
theorem zp_ldl {n i : Nat} {lv : List (Nat × Value)} : zp_R1 (fun lv => am_ldl (pc, lv, st) n i) lv := by
  intro f' lv' h hk hl
  simp only [am_ldl] at h ⊢
  split at h
  · next x e => cases h; rw [hl _ _ e]; exact ⟨lv', rfl, hl, hk⟩
  · cases h
theorem zp_lda {n i : Nat} {lv : List (Nat × Value)} : zp_R1 (fun lv => am_lda (pc, lv, st) n i) lv := by
  intro f' lv' h hk hl
  simp only [am_lda] at h ⊢
  split at h
  · next x e => cases h; rw [hl _ _ e]; exact ⟨lv', rfl, hl, hk⟩
  · next e => cases h; rw [hl _ _ e]; exact ⟨lv', rfl, hl, hk⟩
  · cases h
theorem zp_sti {nL n i : Nat} {lv : List (Nat × Value)} : zp_R1 (fun lv => am_sti nL (pc, lv, st) n i) lv := by
  intro f' lv' h hk hl
  simp only [am_sti] at h ⊢
  split at h
  · split at h
    · next e => cases h; rw [if_pos e]; exact ⟨_, rfl, zp_le_st1 hk hl, zp_kd_st1 hk⟩
    · cases h
  · cases h
theorem zp_stl {nL n i : Nat} {lv : List (Nat × Value)} : zp_R1 (fun lv => am_stl nL (pc, lv, st) n i) lv := by
  intro f' lv' h hk hl
  simp only [am_stl] at h ⊢
  split at h
  · split at h
    · next e => cases h; rw [if_pos e]; exact ⟨_, rfl, zp_le_st2 hk hl, zp_kd_st2 hk⟩
    · cases h
  · cases h
theorem zp_sta {nL n i : Nat} {lv : List (Nat × Value)} : zp_R1 (fun lv => am_sta nL (pc, lv, st) n i) lv := by
  intro f' lv' h hk hl
  simp only [am_sta] at h ⊢
  split at h
  · split at h
    · next e => cases h; rw [if_pos e]; exact ⟨_, rfl, zp_le_st1 hk hl, zp_kd_st1 hk⟩
    · cases h
  · split at h
    · next e => cases h; rw [if_pos e]; exact ⟨_, rfl, zp_le_st1 hk hl, zp_kd_st1 hk⟩
    · cases h
  · cases h
theorem zp_inc {nL i : Nat} {n : Int} {lv : List (Nat × Value)} : zp_R1 (fun lv => am_inc nL (pc, lv, st) i n) lv := by
  intro f' lv' h hk hl
  simp only [am_inc] at h ⊢
  split at h
  · next x e0 =>
    split at h
    · next e => cases h; rw [hl _ _ e0]; dsimp only; rw [if_pos e]; exact ⟨_, rfl, zp_le_st1 hk hl, zp_kd_st1 hk⟩
    · cases h
  · cases h
theorem zp_push {n : Nat} {v : Value} : zp_N1 (fun lv => some (pc + n, lv, v :: st)) := by
  intro lv lv' f' h
  cases h
  exact ⟨rfl, rfl⟩
theorem zp_goto {o : Int} : zp_N1 (fun lv => (match am_br pc o with | some t => some (t, lv, st) | none => none)) := by
  intro lv lv' f' h
  dsimp only at h ⊢
  split at h
  · next e => cases h; exact ⟨rfl, rfl⟩
  · cases h
theorem zp_iald : zp_N1 (fun lv => am_iald (pc, lv, st) ah) := by
  intro lv lv' f' h
  simp only [am_iald] at h ⊢
  repeat' split at h
  all_goals first | (cases h; done) | (cases h; simp_all)
theorem zp_lald : zp_N1 (fun lv => am_lald (pc, lv, st) ah) := by
  intro lv lv' f' h
  simp only [am_lald] at h ⊢
  repeat' split at h
  all_goals first | (cases h; done) | (cases h; simp_all)
theorem zp_bald : zp_N1 (fun lv => am_bald (pc, lv, st) ah) := by
  intro lv lv' f' h
  simp only [am_bald] at h ⊢
  repeat' split at h
  all_goals first | (cases h; done) | (cases h; simp_all)
theorem zp_aald {tyl : List FieldType} : zp_N1 (fun lv => am_aald tyl (pc, lv, st) ah) := by
  intro lv lv' f' h
  simp only [am_aald] at h ⊢
  repeat' split at h
  all_goals first | (cases h; done) | (cases h; simp_all)
theorem zp_alen {tyl : List FieldType} : zp_N1 (fun lv => am_alen tyl (pc, lv, st) ah) := by
  intro lv lv' f' h
  simp only [am_alen] at h ⊢
  repeat' split at h
  all_goals first | (cases h; done) | (cases h; simp_all)
theorem zp_kiald {kA : am_KA} : zp_N1 (fun lv => am_kiald kA (pc, lv, st)) := by
  intro lv lv' f' h
  simp only [am_kiald] at h ⊢
  repeat' split at h
  all_goals first | (cases h; done) | (cases h; simp_all)
theorem zp_klald {kA : am_KA} : zp_N1 (fun lv => am_klald kA (pc, lv, st)) := by
  intro lv lv' f' h
  simp only [am_klald] at h ⊢
  repeat' split at h
  all_goals first | (cases h; done) | (cases h; simp_all)
theorem zp_kbald {kA : am_KA} : zp_N1 (fun lv => am_kbald kA (pc, lv, st)) := by
  intro lv lv' f' h
  simp only [am_kbald] at h ⊢
  repeat' split at h
  all_goals first | (cases h; done) | (cases h; simp_all)
theorem zp_kalen {kA : am_KA} : zp_N1 (fun lv => am_kalen kA (pc, lv, st)) := by
  intro lv lv' f' h
  simp only [am_kalen] at h ⊢
  repeat' split at h
  all_goals first | (cases h; done) | (cases h; simp_all)
theorem zp_kgetf {HT : am_HT} {kF : am_KF} {ix : Nat} : zp_N1 (fun lv => am_kgetf HT kF ix (pc, lv, st)) := by
  intro lv lv' f' h
  simp only [am_kgetf] at h ⊢
  repeat' split at h
  all_goals first | (cases h; done) | (cases h; simp_all)
theorem zp_getf {GT : am_GT} {ix : Nat} : zp_N1 (fun lv => am_getf GT ix (pc, lv, st) ah) := by
  intro lv lv' f' h
  simp only [am_getf] at h ⊢
  repeat' split at h
  all_goals first | (cases h; done) | (cases h; simp_all)
theorem zp_gets {ST : am_ST} {ix : Nat} : zp_N1 (fun lv => am_gets ST ix (pc, lv, st)) := by
  intro lv lv' f' h
  simp only [am_gets] at h ⊢
  repeat' split at h
  all_goals first | (cases h; done) | (cases h; simp_all)
theorem zp_ldc {LT : am_LT} {n ix : Nat} : zp_N1 (fun lv => am_ldc LT n ix (pc, lv, st)) := by
  intro lv lv' f' h
  simp only [am_ldc] at h ⊢
  repeat' split at h
  all_goals first | (cases h; done) | (cases h; simp_all)
theorem zp_ldc2 {LT : am_LT} {ix : Nat} : zp_N1 (fun lv => am_ldc2 LT ix (pc, lv, st)) := by
  intro lv lv' f' h
  simp only [am_ldc2] at h ⊢
  repeat' split at h
  all_goals first | (cases h; done) | (cases h; simp_all)
theorem zp_iast : zp_N (fun lv => am_iast (pc, lv, st) ah) := by
  intro lv lv' f' ah' h
  simp only [am_iast] at h ⊢
  repeat' split at h
  all_goals first | (cases h; done) | (cases h; simp_all)
theorem zp_last : zp_N (fun lv => am_last (pc, lv, st) ah) := by
  intro lv lv' f' ah' h
  simp only [am_last] at h ⊢
  repeat' split at h
  all_goals first | (cases h; done) | (cases h; simp_all)
theorem zp_bast : zp_N (fun lv => am_bast (pc, lv, st) ah) := by
  intro lv lv' f' ah' h
  simp only [am_bast] at h ⊢
  repeat' split at h
  all_goals first | (cases h; done) | (cases h; simp_all)
theorem zp_aast {cl : List vw_C} {tyl : List FieldType} : zp_N (fun lv => am_aast cl tyl (pc, lv, st) ah) := by
  intro lv lv' f' ah' h
  simp only [am_aast] at h ⊢
  repeat' split at h
  all_goals first | (cases h; done) | (cases h; simp_all)
theorem zp_copy : zp_N (fun lv => am_copy (pc, lv, st) ah) := by
  intro lv lv' f' ah' h
  simp only [am_copy] at h ⊢
  repeat' split at h
  all_goals first | (cases h; done) | (cases h; simp_all)
theorem zp_putf {PT : am_PT} {fty : Nat → Nat → FieldType} {ix : Nat} : zp_N (fun lv => am_putf PT fty ix (pc, lv, st) ah) := by
  intro lv lv' f' ah' h
  simp only [am_putf] at h ⊢
  repeat' split at h
  all_goals first | (cases h; done) | (cases h; simp_all)
theorem zp_new {NT : am_NT} {ix : Nat} : zp_N (fun lv => am_new NT ix (pc, lv, st) ah) := by
  intro lv lv' f' ah' h
  simp only [am_new] at h ⊢
  repeat' split at h
  all_goals first | (cases h; done) | (cases h; simp_all)
theorem zp_newa {tyl : List FieldType} {t : ArrayType} : zp_N (fun lv => am_newa tyl t (pc, lv, st) ah) := by
  intro lv lv' f' ah' h
  simp only [am_newa] at h ⊢
  repeat' split at h
  all_goals first | (cases h; done) | (cases h; simp_all)
theorem zp_newq {tyl : List FieldType} {QT : am_QT} {ix : Nat} : zp_N (fun lv => am_newq tyl QT ix (pc, lv, st) ah) := by
  intro lv lv' f' ah' h
  simp only [am_newq] at h ⊢
  repeat' split at h
  all_goals first | (cases h; done) | (cases h; simp_all)
theorem zp_obj : zp_N1 (fun lv => am_obj (pc, lv, st)) := by
  intro lv lv' f' h
  simp only [am_obj] at h ⊢
  repeat' split at h
  all_goals first | (cases h; done) | (cases h; simp_all)
theorem zp_mm {b : Bool} : zp_N1 (fun lv => am_mm b (pc, lv, st)) := by
  intro lv lv' f' h
  simp only [am_mm] at h ⊢
  split at h
  · split at h
    · next e => rw [if_pos e]; cases h; exact ⟨rfl, rfl⟩
    · cases h
  · cases h
theorem zp_P {nL : Nat} {i : Instr} {lv : List (Nat × Value)} : zp_R1 (fun lv => am_P nL i (pc, lv, st)) lv := by
  cases i
  case ifCond cd o => cases cd <;> exact zp_if.r lv
  case if_icmp cd o => cases cd <;> exact zp_ic.r lv
  all_goals simp only [am_P]
  all_goals first
    | (intro f' lv' h; cases h; done)
    | exact zp_ii.r lv
    | exact zp_i.r lv
    | exact zp_ll.r lv
    | exact zp_l.r lv
    | exact zp_li.r lv
    | exact zp_ldi
    | exact zp_ldl
    | exact zp_lda
    | exact zp_sti
    | exact zp_stl
    | exact zp_sta
    | exact zp_inc
    | exact zp_push.r lv
    | exact zp_goto.r lv
    | exact zp_nul.r lv
    | exact zp_dup.r lv
    | exact zp_dupx1.r lv
    | exact zp_dupx2.r lv
    | exact zp_dup2.r lv
    | exact zp_dup2x1.r lv
    | exact zp_pop.r lv
    | exact zp_pop2.r lv
    | exact zp_tsw.r lv
    | exact zp_lsw.r lv
theorem zp_step {cl : List vw_C} {fty : Nat → Nat → FieldType} {tyl : List FieldType} {kA : am_KA} {kF : am_KF} {M : am_M} {i : Instr} {lv : List (Nat × Value)} : zp_R (fun lv => am_step cl fty tyl kA kF M i (pc, lv, st) ah) lv := by
  cases i
  case iaload => exact (zp_orN zp_iald zp_kiald).r lv
  case laload => exact (zp_orN zp_lald zp_klald).r lv
  case baload => exact (zp_orN zp_bald zp_kbald).r lv
  case aaload => exact zp_one (zp_aald.r lv)
  case arraylength => exact (zp_orN zp_alen zp_kalen).r lv
  case iastore => exact zp_iast.r lv
  case lastore => exact zp_last.r lv
  case bastore => exact zp_bast.r lv
  case aastore => exact zp_aast.r lv
  case getfield ix => exact (zp_orN zp_getf zp_kgetf).r lv
  case putfield ix => exact zp_putf.r lv
  case getstatic ix => exact zp_one (zp_gets.r lv)
  case ldc ix => exact zp_one (zp_ldc.r lv)
  case ldc_w ix => exact zp_one (zp_ldc.r lv)
  case ldc2_w ix => exact zp_one (zp_ldc2.r lv)
  case new ix => exact zp_new.r lv
  case newarray t => exact zp_newa.r lv
  case anewarray ix => exact zp_newq.r lv
  all_goals (simp only [am_step]; exact zp_one zp_P)
theorem zp_prim {k : Nat} {lv : List (Nat × Value)} : zp_R (fun lv => am_prim k (pc, lv, st) ah) lv := by
  intro f' ah' lv' h hk hl
  simp only [am_prim] at h ⊢
  split at h
  · exact zp_copy.r lv f' ah' lv' h hk hl
  · exact zp_one (zp_obj.r lv) f' ah' lv' h hk hl
  · exact zp_one (zp_mm.r lv) f' ah' lv' h hk hl
  · exact zp_one (zp_mm.r lv) f' ah' lv' h hk hl
  · cases h
end ZPN
theorem zp_args_ge : ∀ (vs : List Value) (i : Nat), ∀ q ∈ lv_args i vs, i ≤ q.1
  | [], _, q, h => by cases h
  | v :: vs, i, q, h => by
    rw [lv_args] at h
    rcases List.mem_cons.mp h with rfl | h
    · exact Nat.le_refl _
    · have := zp_args_ge vs _ q h
      split at this <;> omega
theorem zp_args_kd : ∀ (vs : List Value) (i : Nat), zp_kd (lv_args i vs) = true
  | [], _ => rfl
  | v :: vs, i => by
    rw [lv_args]
    simp only [zp_kd, Bool.and_eq_true]
    refine ⟨?_, zp_args_kd vs _⟩
    rw [List.all_eq_true]
    intro q hq
    have := zp_args_ge vs _ q hq
    have hne : ¬ q.1 = i := by split at this <;> omega
    simp [hne]
theorem zp_le_rf (a : List (Nat × Value)) : zp_le a a := fun _ _ h => h
section ZPM
variable {MT : Nat → Option am_M} {cl : List vw_C} {fty : Nat → Nat → FieldType} {tyl : List FieldType} {kA : am_KA} {kF : am_KF} {ko : Nat → Option String}
set_option maxHeartbeats 4000000 in
theorem zp_mono : ∀ (n d mi : Nat) (pc : Nat) (lv : List (Nat × Value)) (st : List Value) (ah : am_H) (r : am_A × am_H), am_exec MT cl fty tyl kA kF ko n d mi (pc, lv, st) ah = some r → ∀ (n' d' : Nat) (lv' : List (Nat × Value)), n ≤ n' → d ≤ d' → zp_kd lv = true → zp_le lv lv' → am_exec MT cl fty tyl kA kF ko n' d' mi (pc, lv', st) ah = some r := by
  intro n
  induction n with
  | zero => intro d mi pc lv st ah r h; cases h
  | succ n ih =>
    intro d mi pc lv st ah r h n' d' lv' hn hd hk hl
    obtain ⟨n', rfl⟩ : ∃ q, n' = q + 1 := ⟨n' - 1, by omega⟩
    have hn' : n ≤ n' := by omega
    simp only [am_exec] at h ⊢
    cases hM : MT mi with
    | none => rw [hM] at h; cases h
    | some M =>
      rw [hM] at h
      dsimp only at h ⊢
      cases hI : am_mI M pc with
      | none => rw [hI] at h; cases h
      | some q =>
        obtain ⟨i, len⟩ := q
        rw [hI] at h
        dsimp only at h ⊢
        cases hR : am_ret (am_r M) i st with
        | some v => rw [hR] at h; exact h
        | none =>
          rw [hR] at h
          dsimp only at h ⊢
          cases hX : am_mX M pc with
          | some ci =>
            rw [hX] at h
            dsimp only at h ⊢
            split at h
            · next e => rw [if_pos ⟨e.1, by omega, e.2.2⟩]; exact h
            · cases h
          | none =>
            rw [hX] at h
            dsimp only at h ⊢
            cases hC : am_cal M i with
            | none =>
              rw [hC] at h
              dsimp only at h ⊢
              cases hS : am_step cl fty tyl kA kF M i (pc, lv, st) ah with
              | none => rw [hS] at h; cases h
              | some q =>
                obtain ⟨⟨pc1, lv1, st1⟩, ah1⟩ := q
                rw [hS] at h
                obtain ⟨lw, h1, h2, h3⟩ := zp_step _ _ lv' hS hk hl
                dsimp only at h1
                rw [h1]
                exact ih d mi pc1 lv1 st1 ah1 r h n' d' lw hn' hd h3 h2
            | some q =>
              obtain ⟨ix, k, mi', na, hh, rc⟩ := q
              rw [hC] at h
              dsimp only at h ⊢
              by_cases hk4 : 4 ≤ k
              · rw [if_pos hk4] at h ⊢
                cases hS : am_prim k (pc, lv, st) ah with
                | none => rw [hS] at h; cases h
                | some q =>
                  obtain ⟨⟨pc1, lv1, st1⟩, ah1⟩ := q
                  rw [hS] at h
                  obtain ⟨lw, h1, h2, h3⟩ := zp_prim _ _ lv' hS hk hl
                  dsimp only at h1 h
                  rw [h1]
                  dsimp only
                  split at h
                  · cases h
                  · rw [if_neg (by omega)]
                    exact ih d mi pc1 lv1 st1 ah1 r h n' d' lw hn' hd h3 h2
              · rw [if_neg hk4] at h ⊢
                cases d with
                | zero => cases h
                | succ d =>
                  obtain ⟨d', rfl⟩ : ∃ q, d' = q + 1 := ⟨d' - 1, by omega⟩
                  dsimp only at h ⊢
                  cases hM2 : MT mi' with
                  | none => rw [hM2] at h; cases h
                  | some M' =>
                    rw [hM2] at h
                    dsimp only at h ⊢
                    split at h
                    · next hok =>
                      rw [if_pos hok]
                      cases hE : am_exec MT cl fty tyl kA kF ko n d mi' (0, lv_args 0 (st.take na).reverse, []) ah with
                      | none => rw [hE] at h; cases h
                      | some q =>
                        have hE2 := ih d mi' 0 _ [] ah q hE n' d' _ hn' (by omega) (zp_args_kd _ _) (zp_le_rf _)
                        rw [hE] at h
                        rw [hE2]
                        obtain ⟨a, ah1⟩ := q
                        cases a with
                        | inl v => exact ih (d + 1) mi _ lv _ ah1 r h n' (d' + 1) lv' hn' hd hk hl
                        | inr x =>
                          dsimp only at h ⊢
                          split at h
                          · split at h
                            · exact ih (d + 1) mi _ lv _ ah1 r h n' (d' + 1) lv' hn' hd hk hl
                            · cases h
                          · cases h
                    · cases h
end ZPM
