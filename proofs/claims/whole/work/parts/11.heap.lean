/-! THE ABSTRACT MACHINE, the heap: own cells in the order in which they were made: cell k lies at base + k. -/
abbrev am_C : Type := (FieldType × vp_A) ⊕ (Nat × List Value)
abbrev am_H : Type := List am_C
def am_ca (base : Nat) (g : Nat → Nat) (a : vp_A) : vp_A := (a.1, match a.2 with
  | .inl f => .inl f
  | .inr (.inl f) => .inr (.inl f)
  | .inr (.inr (.inl f)) => .inr (.inr (.inl f))
  | .inr (.inr (.inr (.inl f))) => .inr (.inr (.inr (.inl f)))
  | .inr (.inr (.inr (.inr f))) => .inr (.inr (.inr (.inr (fun j => (f j).map (am_cr base g))))))
def am_cc (dA : FieldType → ClassId) (base : Nat) (g : Nat → Nat) (x : am_C) : va_E := match x with
  | .inl (ty, a) => .inl (dA ty, am_ca base g a)
  | .inr (ci, fs) => .inr (ci, fs.map (am_cv base g))
def am_W (dA : FieldType → ClassId) (base : Nat) (g : Nat → Nat) (ah : am_H) : va_W := ah.mapIdx (fun i x => (base + i, am_cc dA base g x))
def am_at (ah : am_H) (a : Nat) : Option am_C := if a < am_big then ah[a]? else none
theorem am_W_get (dA : FieldType → ClassId) (base : Nat) (g : Nat → Nat) (ah : am_H) (k : Nat) : (am_W dA base g ah)[k]? = (ah[k]?).map (fun x => (base + k, am_cc dA base g x)) := by
  simp [am_W, List.getElem?_mapIdx]
theorem am_W_set (dA : FieldType → ClassId) (base : Nat) (g : Nat → Nat) (ah : am_H) (k : Nat) (x : am_C) : (am_W dA base g ah).set k (base + k, am_cc dA base g x) = am_W dA base g (ah.set k x) := by
  apply List.ext_getElem?
  intro j
  rw [am_W_get, List.getElem?_set, List.getElem?_set, am_W_get]
  by_cases h : k = j
  · subst h
    simp only [if_true, am_W, List.length_mapIdx]
    by_cases h2 : k < ah.length
    · simp [h2]
    · simp [h2]
  · simp [h]
theorem am_W_push (dA : FieldType → ClassId) (base : Nat) (g : Nat → Nat) (ah : am_H) (x : am_C) : am_W dA base g (ah ++ [x]) = am_W dA base g ah ++ [(base + ah.length, am_cc dA base g x)] := by
  simp [am_W, List.mapIdx_append]
theorem am_W_D (dA : FieldType → ClassId) (base : Nat) (g : Nat → Nat) (ah : am_H) : va_D (fun q => base ≤ q) (am_W dA base g ah) := by
  refine ⟨fun i j p q hi hj hpq => ?_, fun k q hk => ?_⟩
  · rw [am_W_get] at hi hj
    obtain ⟨x, -, rfl⟩ := Option.map_eq_some_iff.mp hi
    obtain ⟨y, -, rfl⟩ := Option.map_eq_some_iff.mp hj
    simp only at hpq
    omega
  · rw [am_W_get] at hk
    obtain ⟨x, -, rfl⟩ := Option.map_eq_some_iff.mp hk
    show base ≤ base + k
    omega
theorem am_at_get {dA : FieldType → ClassId} {base : Nat} {g : Nat → Nat} {ah : am_H} {a : Nat} {x : am_C} (h : am_at ah a = some x) : ah[a]? = some x ∧ am_cr base g a = base + a ∧ (am_W dA base g ah)[a]? = some (am_cr base g a, am_cc dA base g x) := by
  unfold am_at at h
  split at h
  · next hb =>
    have e : am_cr base g a = base + a := by simp [am_cr, hb]
    exact ⟨h, e, by rw [am_W_get, h, e]; rfl⟩
  · cases h
/-- what holds of the heap at a point: the own cells are as they are told, and nothing else is new; H0: the heap at the method's start -/
def am_At (D : va_G) (cl : List vw_C) (dA : FieldType → ClassId) (base : Nat) (g : Nat → Nat) (H0 : Heap) (ah : am_H) (H : Heap) (locs : List Loc) : Prop :=
  va_P D cl (am_W dA base g ah) H ∧ H.size = base + ah.length ∧ va_S (fun q => base ≤ q) H0 H locs
theorem am_At.set {D : va_G} {cl : List vw_C} {dA : FieldType → ClassId} {base : Nat} {g : Nat → Nat} {H0 : Heap} {ah : am_H} {H H1 : Heap} {locs : List Loc} (h : am_At D cl dA base g H0 ah H locs) {a j : Nat} {x0 x : am_C} (h0 : am_at ah a = some x0) (he : va_at D cl (am_cr base g a, am_cc dA base g x) H1) (z : H1.size = H.size) (oq : ∀ q : Nat, q ≠ am_cr base g a → H1[q]? = H[q]?) : am_At D cl dA base g H0 (ah.set a x) H1 (locs ++ [⟨am_cr base g a, j⟩]) := by
  obtain ⟨h1, h2, h3⟩ := am_at_get (dA := dA) (base := base) (g := g) h0
  obtain ⟨hP, hz, hS⟩ := h
  refine ⟨?_, by rw [z, hz, List.length_set], hS.put z oq (by rw [h2]; omega)⟩
  have := hP.set (am_W_D dA base g ah) h3 he oq
  rw [h2, am_W_set] at this
  exact this
theorem am_At.push {D : va_G} {cl : List vw_C} {dA : FieldType → ClassId} {base : Nat} {g : Nat → Nat} {H0 : Heap} {ah : am_H} {H H1 : Heap} {locs : List Loc} (h : am_At D cl dA base g H0 ah H locs) {x : am_C} (he : va_at D cl (H.size, am_cc dA base g x) H1) (z : H1.size = H.size + 1) (oq : ∀ q : Nat, q < H.size → H1[q]? = H[q]?) : am_At D cl dA base g H0 (ah ++ [x]) H1 locs := by
  obtain ⟨hP, hz, hS⟩ := h
  refine ⟨?_, by rw [z, hz, List.length_append]; simp; omega, (by have := hS.1; omega), fun q h1 h2 => (oq q (Nat.lt_of_lt_of_le h1 hS.1)).trans (hS.2.1 q h1 h2), hS.2.2⟩
  rw [am_W_push, ← hz]
  refine va_P.app (hP.kept fun k q hk => oq q.1 (hP k q hk).lt) (fun k q hk => ?_)
  have hk1 : k < 1 := (List.getElem?_eq_some_iff.mp hk).1
  rw [show k = 0 by omega] at hk
  cases hk
  exact he
