/-! THE TOP: what is known at the law's entry; the claim out of a run of the abstract machine. -/
def tp_nw : List Cond := flatC (Jvm.Cond.and given_1 narrow_1)
section TPA
variable {args : Array Value} {s : State}
theorem tp_str (hts : ∀ w ∈ tables_1, w.before args s = true) : ∀ q ∈ xkr, ∃ a : Nat, vk_R q.1 q.2.1 q.2.2.1 a s := by
  intro q hq
  have hin : Cond.stringRef q.1 q.2.1 q.2.2.1 ∈ tables_1 := of_decide_eq_true (List.all_eq_true.mp (show xkr.all (fun q => decide (Cond.stringRef q.1 q.2.1 q.2.2.1 ∈ tables_1)) = true from by decide +kernel) q hq)
  have h1 := hts _ hin
  have hcur : ∃ cur, s.vm.findClass q.1 = some cur := by
    have h2 := h1
    simp only [Cond.before, Cond.holds, Cond.value] at h2
    cases hc : s.vm.findClass q.1 with
    | none => simp [hc] at h2
    | some cur => exact ⟨cur, rfl⟩
  obtain ⟨cur, hcur⟩ := hcur
  obtain ⟨k, cf, i, a, -, -, -, -, -, hev⟩ := Cond.stringRef_spec hcur h1
  exact ⟨a, vk_R.of (A := args) h1 hev⟩
theorem tp_gS (hts : ∀ w ∈ tables_1, w.before args s = true) : ∃ gS : Nat → Nat, ∀ q ∈ xkr, vk_R q.1 q.2.1 q.2.2.1 (gS q.2.2.2) s := by
  have h0 : ∀ j : Nat, ∃ a : Nat, ∀ q ∈ xkr, q.2.2.2 = j → vk_R q.1 q.2.1 q.2.2.1 a s := by
    intro j
    cases hf : xkr.find? (fun q => q.2.2.2 == j) with
    | none =>
      refine ⟨0, fun q hq e => ?_⟩
      have := List.find?_eq_none.mp hf q hq
      simp [e] at this
    | some q0 =>
      have hq0 := List.mem_of_find?_eq_some hf
      have hj := List.find?_some hf
      obtain ⟨a, ha⟩ := tp_str hts q0 hq0
      refine ⟨a, fun q hq e => ?_⟩
      have hu : ∀ q ∈ xkr, ∀ q' ∈ xkr, q.2.2.2 = q'.2.2.2 → q = q' := by
        intro q hq q' hq' e
        have h1 := List.all_eq_true.mp (show xkr.all (fun q => xkr.all (fun q' => decide (q.2.2.2 = q'.2.2.2 → q = q'))) = true from by decide +kernel) q hq
        exact of_decide_eq_true (List.all_eq_true.mp h1 q' hq') e
      have he : q = q0 := hu q hq q0 hq0 (e.trans (beq_iff_eq.mp hj).symm)
      rw [he]
      exact ha
  obtain ⟨f, hf⟩ := Classical.axiomOfChoice h0
  exact ⟨f, fun q hq => hf _ q hq rfl⟩
/-- where the things lie that were there before -/
def tp_g (b kw st sio v1 v2 u t : Nat) (gS : Nat → Nat) : Nat → Nat := fun j => match j with
  | 0 => b
  | 1 => kw
  | 2 => st
  | 3 => sio
  | 5 => v1
  | 7 => v2
  | 40 => u
  | 41 => t
  | j => gS j
theorem tp_g_S {b kw st sio v1 v2 u t : Nat} {gS : Nat → Nat} : ∀ q ∈ xkr, tp_g b kw st sio v1 v2 u t gS q.2.2.2 = gS q.2.2.2 := by
  intro q hq
  have h1 := List.all_eq_true.mp (show xkr.all (fun q => decide (q.2.2.2 ∉ ([0, 1, 2, 3, 5, 7, 40, 41] : List Nat))) = true from by decide +kernel) q hq
  have h2 := of_decide_eq_true h1
  simp only [List.mem_cons, List.not_mem_nil, or_false, not_or] at h2
  obtain ⟨a0, a1, a2, a3, a5, a7, a40, a41⟩ := h2
  generalize q.2.2.2 = j at a0 a1 a2 a3 a5 a7 a40 a41
  unfold tp_g
  split <;> first | rfl | (exfalso; simp_all; done)
/-- numbers of the classes, places of their fields -/
theorem tp_D (hts : ∀ w ∈ xTs, w.before args s = true) : ∃ D : va_G, ∀ (c : Nat) (q : vw_C), xcl[c]? = some q → u_Kn s q.1 q.2.1 q.2.2 (D.1 c) (D.2 c) := by
  have h0 : ∀ c : Nat, ∃ r : ClassId × (Nat → Nat), ∀ q : vw_C, xcl[c]? = some q → u_Kn s q.1 q.2.1 q.2.2 r.1 r.2 := by
    intro c
    cases hc : xcl[c]? with
    | none => exact ⟨(0, fun _ => 0), fun q h => by cases h⟩
    | some q =>
      obtain ⟨C, T, N⟩ := q
      obtain ⟨-, -, hin⟩ := xClOk c C T N hc
      have hi : ∃ n, Cond.instantiable C n ∈ xTs := by
        have hm : (C, T, N) ∈ xcl := List.mem_of_getElem? hc
        simp only [xcl, List.mem_cons, List.not_mem_nil, or_false, Prod.mk.injEq] at hm
        rcases hm with ⟨rfl, -⟩ | ⟨rfl, -⟩ | ⟨rfl, -⟩ | ⟨rfl, -⟩ | ⟨rfl, -⟩ | ⟨rfl, -⟩ | ⟨rfl, -⟩ | ⟨rfl, -⟩ | ⟨rfl, -⟩ | ⟨rfl, -⟩ | ⟨rfl, -⟩ | ⟨rfl, -⟩
        · exact ⟨18, ck_in_ok (by decide +kernel)⟩
        · exact ⟨9, ck_in_ok (by decide +kernel)⟩
        · exact ⟨8, ck_in_ok (by decide +kernel)⟩
        · exact ⟨17, ck_in_ok (by decide +kernel)⟩
        · exact ⟨9, ck_in_ok (by decide +kernel)⟩
        · exact ⟨5, ck_in_ok (by decide +kernel)⟩
        · exact ⟨9, ck_in_ok (by decide +kernel)⟩
        · exact ⟨55, ck_in_ok (by decide +kernel)⟩
        · exact ⟨6, ck_in_ok (by decide +kernel)⟩
        · exact ⟨6, ck_in_ok (by decide +kernel)⟩
        · exact ⟨6, ck_in_ok (by decide +kernel)⟩
        · exact ⟨6, ck_in_ok (by decide +kernel)⟩
      obtain ⟨n, hn⟩ := hi
      obtain ⟨cC, iS, hk⟩ := u_known hts hin (hts _ hn)
      exact ⟨(cC, iS), fun q h => by cases h; exact hk⟩
  obtain ⟨f, hf⟩ := Classical.axiomOfChoice h0
  exact ⟨(fun c => (f c).1, fun c => (f c).2), hf⟩
theorem tp_A0 {ty : FieldType} (hno : ∀ C, ty ≠ .object C) (h : (Cond.arrayClass ty).before args s = true) : ∃ cA : ClassId, ArrOfT s cA ty ∧ va_RA s cA ty := by
  obtain ⟨c, k, comp, h1, h2, h3⟩ := Cond.arrayClass_spec h
  refine ⟨c, fun n z => ⟨fun k h => (by cases h), k, h2, comp, h3⟩, ?_⟩
  cases ty <;> first | exact h1 | exact absurd rfl (hno _)
/-- numbers of the arrays' classes -/
theorem tp_dA (hts : ∀ w ∈ xTs, w.before args s = true) (htw : ∀ w ∈ xTw, w.before args s = true) : ∃ dA : FieldType → ClassId, ∀ ty ∈ xtyl, ArrOfT s (dA ty) ty ∧ va_RA s (dA ty) ty := by
  have h0 : ∀ ty : FieldType, ∃ cA : ClassId, ty ∈ xtyl → ArrOfT s cA ty ∧ va_RA s cA ty := by
    intro ty
    by_cases hty : ty ∈ xtyl
    · by_cases ho : ∃ C, ty = .object C
      · obtain ⟨C, rfl⟩ := ho
        have hw : Cond.arrayOver (.object C) ∈ xTw := by
          simp only [xtyl, List.mem_cons, List.not_mem_nil, or_false, reduceCtorEq, false_or, FieldType.object.injEq] at hty
          rw [hty]
          exact ck_nk_ok (by decide +kernel)
        obtain ⟨comp, c, k, h1, h2, h3, h4, h5⟩ := Cond.arrayOver_spec (htw _ hw)
        exact ⟨c, fun _ => ⟨fun n z => ⟨fun k h => (by cases h), k, h3, comp, h4⟩, k, comp, h3, h4, h1, h5⟩⟩
      · have hno : ∀ C, ty ≠ .object C := fun C h => ho ⟨C, h⟩
        obtain ⟨cA, h⟩ := tp_A0 hno (hts _ (xGlo.2.2.2.2.2 ty hty hno))
        exact ⟨cA, fun _ => h⟩
    · exact ⟨0, fun h => absurd h hty⟩
  obtain ⟨f, hf⟩ := Classical.axiomOfChoice h0
  exact ⟨f, fun ty h => hf ty h⟩
theorem tp_Kn {D : va_G} {dA : FieldType → ClassId} (hD : ∀ (c : Nat) (q : vw_C), xcl[c]? = some q → u_Kn s q.1 q.2.1 q.2.2 (D.1 c) (D.2 c)) (hA : ∀ ty ∈ xtyl, ArrOfT s (dA ty) ty ∧ va_RA s (dA ty) ty) : am_Kn D xcl dA xtyl s.heap.size s := by
  refine ⟨⟨hD, fun k q hk => ?_⟩, Nat.le_refl _⟩
  rw [List.getElem?_map] at hk
  obtain ⟨ty, hty, rfl⟩ := Option.map_eq_some_iff.mp hk
  exact hA ty (List.mem_of_getElem? hty)
/-- what a static that holds null or a reference holds -/
theorem tp_Z {C n d : String} {A : Nat → Prop} (hl : Cond.laysStatic C n d ∈ tables_1) (hini : Cond.initialized C ∈ tables_1) (hr : Cond.isRef (.static C n d) ∈ tp_nw) (hts : ∀ w ∈ tables_1, w.before args s = true) (hnw : ∀ w ∈ tp_nw, w.before args s = true) (hA : ∀ a : Nat, a < s.heap.size → ¬ A a) (j : Nat) :
    ∃ (v : Value) (x : Nat), (v = .null ∨ v = .ref (am_big + j)) ∧ v.isRef = true ∧ ∀ (base : Nat) (g : Nat → Nat), g j = x → va_Z C n d (am_cv base g v) A s s.heap ∧ am_LS C n d A s s.heap := by
  have h1 := am_LS.of (hts _ hl) hA
  rcases va_Zqof (hts _ hl) (hts _ hini) (hnw _ hr) hA with h | ⟨t, h⟩
  · exact ⟨.null, 0, Or.inl rfl, rfl, fun base g hg => ⟨h, h1⟩⟩
  · refine ⟨.ref (am_big + j), t, Or.inr rfl, rfl, fun base g hg => ⟨?_, h1⟩⟩
    have e : am_cv base g (.ref (am_big + j)) = .ref t := by
      show Value.ref (am_cr base g (am_big + j)) = _
      rw [am_cr_big (by omega), Nat.add_sub_cancel_left, hg]
    rw [e]
    exact h
/-- a constant String and its bytes -/
theorem tp_S {own : String} {ix : Nat} {n : Nat} {bs : List Int32} {A : Nat → Prop} (hn : n < 2 ^ 31) (hex : Cond.exactly (.string own ix) "java/lang/String" ∈ tp_nw) (hco : Cond.eq (.field (.string own ix) "java/lang/String" "coder" "B") (.int 0) ∈ tp_nw) (har : Cond.arrayOf (.field (.string own ix) "java/lang/String" "value" "[B") .byte ∈ tp_nw) (hle : Cond.eq (.length (.field (.string own ix) "java/lang/String" "value" "[B")) (.int (Int32.ofNat n)) ∈ tp_nw)
    (hel : (List.range n).all (fun j => decide (Cond.eq (.elem (.field (.string own ix) "java/lang/String" "value" "[B") (.int (Int32.ofNat j))) (.int (bs.getD j 0)) ∈ tp_nw)) = true) (hnw : ∀ w ∈ tp_nw, w.before args s = true) (hA : ∀ a : Nat, a < s.heap.size → ¬ A a) :
    ∃ a v : Nat, (Term.string own ix).eval args s none [] s = some (.ref a) ∧ va_O "java/lang/String" a A s s.heap ∧ va_OF "java/lang/String" "coder" "B" (.int 0) a A s s.heap ∧ va_OF "java/lang/String" "value" "[B" (.ref v) a A s s.heap ∧ va_T .byte v n (fun j => .int (bs.getD j 0)) A s s.heap := by
  obtain ⟨a, c, cA, kA, q1, q2, q3, q4, q5, q6, -⟩ := Cond.exactly_spec (args := args) (first := s) (o := none) (s := s) (idx := []) (t := .string own ix) (cls := "java/lang/String") (hnw _ hex)
  obtain ⟨v, hv, hT⟩ := va_Tof (f := fun j => .int (bs.getD j 0)) (A := A) hn (hnw _ har) (va_eqt (hnw _ hle)) (fun j hj => va_eqt (hnw _ (of_decide_eq_true (List.all_eq_true.mp hel j (List.mem_range.mpr hj))))) hA
  exact ⟨a, v, q1, ⟨cA, q3, q5, by rw [q6]; exact q2, hA a (Array.getElem?_eq_some_iff.mp q3).1⟩, vk_OFof q1 (va_eqt (hnw _ hco)) hA, vk_OFof q1 hv hA, hT⟩
end TPA
/-- what is known of constants at the law's entry -/
theorem tp_KC {args : Array Value} {s : State} {b L : Nat} {xs : Nat → Int32} (hts : ∀ w ∈ tables_1, w.before args s = true) (hnw : ∀ w ∈ tp_nw, w.before args s = true) (hX : va_X b L xs s s.heap) (hb : b < s.heap.size) :
    ∃ (g : Nat → Nat) (vz vu vs : Value), g 0 = b ∧ (vz = .null ∨ vz = .ref (am_big + 3)) ∧ vu.isRef = true ∧ vs.isRef = true ∧ am_KC s.heap.size g xkr (ykz vz vu vs) (xkA L xs) xfn xkF xko s s.heap := by
  have hA : ∀ a : Nat, a < s.heap.size → ¬ (fun q => s.heap.size ≤ q) a := fun a h1 h2 => Nat.not_le.mpr h1 h2
  obtain ⟨gS, hS⟩ := tp_gS hts
  obtain ⟨kw, hkw, hTk⟩ := va_Tof (args := args) (s := s) (tm := .static "RelationFinder" "KEYWORDS" "[J") (ty := .long) (N := 16) (f := fun j => .long (xkw.getD j 0)) (A := fun q => s.heap.size ≤ q) (by decide) (hnw _ (by decide +kernel)) (va_eqt (hnw _ (by decide +kernel))) (fun j hj => va_eqtl (hnw _ (of_decide_eq_true (List.all_eq_true.mp (show (List.range 16).all (fun j => decide (Cond.eq (.elem (.static "RelationFinder" "KEYWORDS" "[J") (.int (Int32.ofNat j))) (.long (xkw.getD j 0)) ∈ tp_nw)) = true from by decide +kernel) j (List.mem_range.mpr hj))))) hA
  obtain ⟨st, hst, hTs⟩ := va_Tof (args := args) (s := s) (tm := .static "RelationFinder" "STRIPES" "[J") (ty := .long) (N := 6) (f := fun j => .long (xstp.getD j 0)) (A := fun q => s.heap.size ≤ q) (by decide) (hnw _ (by decide +kernel)) (va_eqt (hnw _ (by decide +kernel))) (fun j hj => va_eqtl (hnw _ (of_decide_eq_true (List.all_eq_true.mp (show (List.range 6).all (fun j => decide (Cond.eq (.elem (.static "RelationFinder" "STRIPES" "[J") (.int (Int32.ofNat j))) (.long (xstp.getD j 0)) ∈ tp_nw)) = true from by decide +kernel) j (List.mem_range.mpr hj))))) hA
  obtain ⟨vz, sio, hvz, -, hZz⟩ := tp_Z (args := args) (s := s) (C := "jdk/internal/util/Preconditions") (n := "SIOOBE_FORMATTER") (d := "Ljava/util/function/BiFunction;") (A := fun q => s.heap.size ≤ q) (by decide +kernel) (by decide +kernel) (by decide +kernel) hts hnw hA 3
  obtain ⟨vu, u, -, hvu, hZu⟩ := tp_Z (args := args) (s := s) (C := Jvm.Bundle.tN) (n := "UNASSIGNED_STACK") (d := Jvm.Bundle.steD) (A := fun q => s.heap.size ≤ q) (by decide +kernel) (by decide +kernel) (by decide +kernel) hts hnw hA 40
  obtain ⟨vs, t, -, hvs, hZs⟩ := tp_Z (args := args) (s := s) (C := Jvm.Bundle.tN) (n := "SUPPRESSED_SENTINEL") (d := Jvm.Bundle.listD) (A := fun q => s.heap.size ≤ q) (by decide +kernel) (by decide +kernel) (by decide +kernel) hts hnw hA 41
  obtain ⟨a1, v1, he1, hO1, hc1, hf1, hT1⟩ := tp_S (args := args) (s := s) (own := "RelationFinder$Tape") (ix := 71) (n := 8) (bs := xstr_0) (A := fun q => s.heap.size ≤ q) (by decide) (by decide +kernel) (by decide +kernel) (by decide +kernel) (by decide +kernel) (by decide +kernel) hnw hA
  obtain ⟨a2, v2, he2, hO2, hc2, hf2, hT2⟩ := tp_S (args := args) (s := s) (own := "RelationFinder$Tape") (ix := 82) (n := 19) (bs := xstr_1) (A := fun q => s.heap.size ≤ q) (by decide) (by decide +kernel) (by decide +kernel) (by decide +kernel) (by decide +kernel) (by decide +kernel) hnw hA
  have hg4 : gS 4 = a1 := by
    have h1 := (hS ("RelationFinder$Tape", 71, "->++<::>", 4) (by decide +kernel)).2
    have h2 : (Term.string "RelationFinder$Tape" 71).eval #[] s none [] s = some (.ref a1) := he1
    exact Value.ref.inj (Option.some.inj (h1.symm.trans h2))
  have hg6 : gS 6 = a2 := by
    have h1 := (hS ("RelationFinder$Tape", 82, "+-&.~^*#=<>()[]{}:|", 6) (by decide +kernel)).2
    have h2 : (Term.string "RelationFinder$Tape" 82).eval #[] s none [] s = some (.ref a2) := he2
    exact Value.ref.inj (Option.some.inj (h1.symm.trans h2))
  refine ⟨tp_g b kw st sio v1 v2 u t gS, vz, vu, vs, rfl, hvz, hvu, hvs, fun q hq => ?_, fun q hq => ?_, fun j ty a hj => ?_, fun j k v hj => ?_, fun j C hj => ?_⟩
  · rw [tp_g_S q hq]
    exact hS q hq
  · have hcr : ∀ j, am_cv s.heap.size (tp_g b kw st sio v1 v2 u t gS) (.ref (am_big + j)) = .ref (tp_g b kw st sio v1 v2 u t gS j) := fun j => by
      show Value.ref (am_cr _ _ (am_big + j)) = _
      rw [am_cr_big (by omega), Nat.add_sub_cancel_left]
    simp only [ykz, xkz, List.cons_append, List.nil_append, List.mem_cons, List.not_mem_nil, or_false] at hq
    rcases hq with rfl | rfl | rfl | rfl | rfl | rfl
    · refine ⟨?_, am_LS.of (hts _ (by decide +kernel)) hA⟩
      rw [hcr 1]
      exact va_Zof (hts _ (by decide +kernel)) (hts _ (by decide +kernel)) hkw hA
    · refine ⟨?_, am_LS.of (hts _ (by decide +kernel)) hA⟩
      rw [hcr 2]
      exact va_Zof (hts _ (by decide +kernel)) (hts _ (by decide +kernel)) hst hA
    · exact ⟨va_Zof (hts _ (by decide +kernel)) (hts _ (by decide +kernel)) (va_eqt (hnw _ (by decide +kernel))) hA, am_LS.of (hts _ (by decide +kernel)) hA⟩
    · exact hZz _ _ rfl
    · exact hZu _ _ rfl
    · exact hZs _ _ rfl
  · unfold xkA at hj
    split at hj
    · cases hj
      refine ⟨fun C h => (by cases h), ?_⟩
      obtain ⟨scr, h1, h2, h3, h4, h5⟩ := hX
      exact ⟨scr, h1, h2, h3, by rw [h4]; exact Nat.le_refl _, by rw [h4], h5, hA b hb⟩
    · cases hj
      exact ⟨fun C h => (by cases h), hTk⟩
    · cases hj
      exact ⟨fun C h => (by cases h), hTs⟩
    · cases hj
      exact ⟨fun C h => (by cases h), hT1⟩
    · cases hj
      exact ⟨fun C h => (by cases h), hT2⟩
    · cases hj
  · unfold xkF at hj
    split at hj
    · cases hj
      show va_OF "java/lang/String" "value" "[B" (.ref (am_cr _ _ (am_big + 5))) (gS 4) _ s s.heap
      rw [hg4, am_cr_big (by omega), Nat.add_sub_cancel_left]
      exact hf1
    · cases hj
      show va_OF "java/lang/String" "coder" "B" (.int 0) (gS 4) _ s s.heap
      rw [hg4]
      exact hc1
    · cases hj
      show va_OF "java/lang/String" "value" "[B" (.ref (am_cr _ _ (am_big + 7))) (gS 6) _ s s.heap
      rw [hg6, am_cr_big (by omega), Nat.add_sub_cancel_left]
      exact hf2
    · cases hj
      show va_OF "java/lang/String" "coder" "B" (.int 0) (gS 6) _ s s.heap
      rw [hg6]
      exact hc2
    · cases hj
  · unfold xko at hj
    split at hj
    · cases hj
      show va_O _ (gS 4) _ s s.heap
      rw [hg4]
      exact hO1
    · cases hj
      show va_O _ (gS 6) _ s s.heap
      rw [hg6]
      exact hO2
    · cases hj
