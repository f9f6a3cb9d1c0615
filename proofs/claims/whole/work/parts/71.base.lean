/-! PURE STATES: reads behind writes; agreement; loops. -/
theorem gI_same {s : zS} {c : Nat} {i v : Int} (h : zR v) : gI (sI s c i v) c i = v := by
  show (if c = c then (if i = i then Int32.ofInt v else s.1 c i) else s.1 c i).toInt = v
  rw [if_pos rfl, if_pos rfl, z_toInt h]
theorem gI_nc {s : zS} {c c' : Nat} {i i' v : Int} (h : c' ≠ c) : gI (sI s c i v) c' i' = gI s c' i' := by
  show (if c' = c then (if i' = i then Int32.ofInt v else s.1 c' i') else s.1 c' i').toInt = _
  rw [if_neg h]
  rfl
theorem gI_ni {s : zS} {c c' : Nat} {i i' v : Int} (h : i' ≠ i) : gI (sI s c i v) c' i' = gI s c' i' := by
  show (if c' = c then (if i' = i then Int32.ofInt v else s.1 c' i') else s.1 c' i').toInt = _
  rw [if_neg h]
  split <;> rfl
theorem gI_if {s : zS} {c : Nat} {i i' v : Int} (h : zR v) : gI (sI s c i v) c i' = if i' = i then v else gI s c i' := by
  by_cases e : i' = i
  · rw [if_pos e, e, gI_same h]
  · rw [if_neg e, gI_ni e]
theorem gJ_same {s : zS} {c : Nat} {i : Int} {v : BitVec 64} : gJ (sJ s c i v) c i = v := by
  show (if c = c then (if i = i then v else s.2.1 c i) else s.2.1 c i) = v
  rw [if_pos rfl, if_pos rfl]
theorem gJ_nc {s : zS} {c c' : Nat} {i i' : Int} {v : BitVec 64} (h : c' ≠ c) : gJ (sJ s c i v) c' i' = gJ s c' i' := by
  show (if c' = c then (if i' = i then v else s.2.1 c' i') else s.2.1 c' i') = _
  rw [if_neg h]
  rfl
theorem gJ_ni {s : zS} {c c' : Nat} {i i' : Int} {v : BitVec 64} (h : i' ≠ i) : gJ (sJ s c i v) c' i' = gJ s c' i' := by
  show (if c' = c then (if i' = i then v else s.2.1 c' i') else s.2.1 c' i') = _
  rw [if_neg h]
  split <;> rfl
theorem gJ_if {s : zS} {c : Nat} {i i' : Int} {v : BitVec 64} : gJ (sJ s c i v) c i' = if i' = i then v else gJ s c i' := by
  by_cases e : i' = i
  · rw [if_pos e, e, gJ_same]
  · rw [if_neg e, gJ_ni e]
theorem gP_same {s : zS} {c : Nat} {i : Int} {v : Nat} : gP (sP s c i v) c i = v := by
  show (if c = c then (if i = i then v else s.2.2 c i) else s.2.2 c i) = v
  rw [if_pos rfl, if_pos rfl]
theorem gP_nc {s : zS} {c c' : Nat} {i i' : Int} {v : Nat} (h : c' ≠ c) : gP (sP s c i v) c' i' = gP s c' i' := by
  show (if c' = c then (if i' = i then v else s.2.2 c' i') else s.2.2 c' i') = _
  rw [if_neg h]
  rfl
theorem gP_ni {s : zS} {c c' : Nat} {i i' : Int} {v : Nat} (h : i' ≠ i) : gP (sP s c i v) c' i' = gP s c' i' := by
  show (if c' = c then (if i' = i then v else s.2.2 c' i') else s.2.2 c' i') = _
  rw [if_neg h]
  split <;> rfl
theorem gI_sJ {s : zS} {c c' : Nat} {i i' : Int} {v : BitVec 64} : gI (sJ s c i v) c' i' = gI s c' i' := rfl
theorem gI_sP {s : zS} {c c' : Nat} {i i' : Int} {v : Nat} : gI (sP s c i v) c' i' = gI s c' i' := rfl
theorem gJ_sI {s : zS} {c c' : Nat} {i i' v : Int} : gJ (sI s c i v) c' i' = gJ s c' i' := rfl
theorem gJ_sP {s : zS} {c c' : Nat} {i i' : Int} {v : Nat} : gJ (sP s c i v) c' i' = gJ s c' i' := rfl
theorem gP_sI {s : zS} {c c' : Nat} {i i' v : Int} : gP (sI s c i v) c' i' = gP s c' i' := rfl
theorem gP_sJ {s : zS} {c c' : Nat} {i i' : Int} {v : BitVec 64} : gP (sJ s c i v) c' i' = gP s c' i' := rfl
/-- two states agree on the places of a mask -/
def zeq (M : Nat) (s s2 : zS) : Prop := ∀ c i, M.testBit (zloc c i) = true → s2.1 c i = s.1 c i ∧ s2.2.1 c i = s.2.1 c i ∧ s2.2.2 c i = s.2.2 c i
theorem zfr.eq {m M : Nat} {s s2 : zS} (h : zfr m s s2) (hm : Nat.land m M = 0) : zeq M s s2 := fun c i hc => h c i (by
  have e : (m &&& M).testBit (zloc c i) = false := by show (Nat.land m M).testBit _ = false; rw [hm]; exact Nat.zero_testBit _
  rw [Nat.testBit_and, hc, Bool.and_true] at e
  exact e)
theorem zeq.rf (M : Nat) (s : zS) : zeq M s s := fun _ _ _ => ⟨rfl, rfl, rfl⟩
theorem zeq.tr {M : Nat} {a b c : zS} (h1 : zeq M a b) (h2 : zeq M b c) : zeq M a c := fun x i hx => ⟨(h2 x i hx).1.trans (h1 x i hx).1, (h2 x i hx).2.1.trans (h1 x i hx).2.1, (h2 x i hx).2.2.trans (h1 x i hx).2.2⟩
theorem zeq.symm {M : Nat} {a b : zS} (h1 : zeq M a b) : zeq M b a := fun x i hx => ⟨(h1 x i hx).1.symm, (h1 x i hx).2.1.symm, (h1 x i hx).2.2.symm⟩
theorem zeq.sub {M1 M2 : Nat} {a b : zS} (h : Nat.land M2 M1 = M2) (h1 : zeq M1 a b) : zeq M2 a b := fun x i hx => h1 x i (by
  have e : (M2 &&& M1).testBit (zloc x i) = M2.testBit (zloc x i) := by show (Nat.land M2 M1).testBit _ = _; rw [h]
  rw [Nat.testBit_and, hx, Bool.true_and] at e
  exact e)
theorem zeq.i {M c : Nat} {s s2 : zS} (h : zeq M s s2) {i : Int} (hc : M.testBit (zloc c i) = true) : gI s2 c i = gI s c i := by unfold gI; rw [(h c i hc).1]
theorem zeq.ia {M c : Nat} {s s2 : zS} (h : zeq M s s2) (hb : zobj c = false) (hc : M.testBit c = true) (i : Int) : gI s2 c i = gI s c i := h.i (by rw [zloc_a hb]; exact hc)
theorem zeq.j {M c : Nat} {s s2 : zS} (h : zeq M s s2) {i : Int} (hc : M.testBit (zloc c i) = true) : gJ s2 c i = gJ s c i := by unfold gJ; rw [(h c i hc).2.1]
theorem zeq.ja {M c : Nat} {s s2 : zS} (h : zeq M s s2) (hb : zobj c = false) (hc : M.testBit c = true) (i : Int) : gJ s2 c i = gJ s c i := h.j (by rw [zloc_a hb]; exact hc)
theorem zeq.p {M c : Nat} {s s2 : zS} (h : zeq M s s2) {i : Int} (hc : M.testBit (zloc c i) = true) : gP s2 c i = gP s c i := by unfold gP; rw [(h c i hc).2.2]
theorem zeq.pa {M c : Nat} {s s2 : zS} (h : zeq M s s2) (hb : zobj c = false) (hc : M.testBit c = true) (i : Int) : gP s2 c i = gP s c i := h.p (by rw [zloc_a hb]; exact hc)
/-- loops: an invariant, a measure -/
theorem zlp_inv {S T : Type} {B : S → Option (S ⊕ T)} (I : S → Prop) (μ : S → Nat) (Q : T → Prop) (h : ∀ s, I s → (∃ s', B s = some (.inl s') ∧ I s' ∧ μ s' < μ s) ∨ (∃ t, B s = some (.inr t) ∧ Q t)) : ∀ n s, I s → μ s < n → ∃ t, zlp B n s = some t ∧ Q t := by
  intro n
  induction n with
  | zero => intro s _ h0; omega
  | succ n ih =>
    intro s hI hn
    rcases h s hI with ⟨s', e, hI', hm⟩ | ⟨t, e, hQ⟩
    · obtain ⟨t, ht, hQ⟩ := ih s' hI' (by omega)
      exact ⟨t, by rw [zlp, e]; exact ht, hQ⟩
    · exact ⟨t, by rw [zlp, e], hQ⟩
theorem zlp_l {S T : Type} {B : S → Option (S ⊕ T)} {n : Nat} {s s' : S} (h : B s = some (.inl s')) : zlp B (n + 1) s = zlp B n s' := by rw [zlp, h]
theorem zlp_r {S T : Type} {B : S → Option (S ⊕ T)} {n : Nat} {s : S} {t : T} (h : B s = some (.inr t)) : zlp B (n + 1) s = some t := by rw [zlp, h]
theorem zF_big : 1000000000 < zF := by decide
/-- loops of the law, with zF turns -/
theorem zlp_F {S T : Type} {B : S → Option (S ⊕ T)} (I : S → Prop) (μ : S → Nat) (Q : T → Prop) (h : ∀ s, I s → (∃ s', B s = some (.inl s') ∧ I s' ∧ μ s' < μ s) ∨ (∃ t, B s = some (.inr t) ∧ Q t)) {s : S} (hI : I s) (hm : μ s < 1000000000) : ∃ t, zlp B zF s = some t ∧ Q t := zlp_inv I μ Q h zF s hI (by have := zF_big; omega)
