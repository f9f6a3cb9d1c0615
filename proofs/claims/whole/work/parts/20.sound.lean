/-! THE ABSTRACT MACHINE IS SOUND: what its runs answer, the machine answers. -/
def am_wd (M : am_M) : Cond := match am_mT M with
  | [] => .code (am_y M) (am_b M) (am_n M) (am_r M)
  | hh => .codeWith (am_y M) (am_b M) (am_n M) (am_r M) hh
abbrev am_rm (d : Nat) (a b : am_H) : Room := { frames := d, cells := b.length - a.length, slots := am_slots b - am_slots a, locals := 64 * d }
/-- a method's start, and its end -/
def am_Pr (D : va_G) (cl : List vw_C) (dA : FieldType → ClassId) (tyl : List FieldType) (base : Nat) (g : Nat → Nat) (kr : List (String × Nat × String × Nat)) (kz : List (String × String × String × Value)) (kA : am_KA) (fn : Nat → String × String × String) (kF : am_KF) (ko : Nat → Option String) (Tw : List Cond) (ah : am_H) (U : State) : Prop :=
  va_P D cl (am_W dA base g ah) U.heap ∧ U.heap.size = base + ah.length ∧ am_Kn D cl dA tyl base U ∧ am_KC base g kr kz kA fn kF ko U U.heap ∧ (∀ w ∈ Tw, va_Nw w U)
def am_Po (D : va_G) (cl : List vw_C) (dA : FieldType → ClassId) (base : Nat) (g : Nat → Nat) (ah : am_H) (st t : State) : Prop :=
  va_P D cl (am_W dA base g ah) t.heap ∧ t.heap.size = base + ah.length ∧ ∀ q : Nat, q < base → t.heap[q]? = st.heap[q]?
/-- a method that can be called -/
def am_COk (Ts : List Cond) (M : am_M) : Prop := plainName (am_y M).cls = true ∧ am_wd M ∈ Ts ∧ Cond.initialized (am_y M).cls ∈ Ts ∧ ((am_y M).cls ≠ "java/lang/invoke/MethodHandle" ∧ (am_y M).cls ≠ "java/lang/invoke/VarHandle") ∧ am_n M ≤ 45
/-- the calls of a method -/
def am_CtOk (MT : Nat → Option am_M) (cl : List vw_C) (Ts Tw : List Cond) (M : am_M) : Prop := ∀ (ix k mi n : Nat) (h : Option String) (rc : Nat), am_mC M ix = some (k, mi, n, h, rc) →
  (k = 4 → Cond.methodLink (am_y M).cls ix arraycopyName ∈ Ts ∧ Cond.native arraycopyName ∈ Ts ∧ Cond.static arraycopyName ∈ Ts ∧ Cond.initialized "java/lang/System" ∈ Ts) ∧
  (k = 5 → Cond.methodLink (am_y M).cls ix Lib.objectInit ∈ Ts ∧ Cond.instanceMethod Lib.objectInit ∈ Ts ∧ Cond.code Lib.objectInit ⟨#[0xb1]⟩ 1 none ∈ Ts) ∧
  (k = 6 → Cond.methodLink (am_y M).cls ix Lib.Math.max.name ∈ Ts ∧ Cond.static Lib.Math.max.name ∈ Ts ∧ Cond.initialized "java/lang/Math" ∈ Ts ∧ Cond.code Lib.Math.max.name Lib.Math.max.code 2 (some .int) ∈ Ts) ∧
  (k = 7 → Cond.methodLink (am_y M).cls ix Lib.Math.min.name ∈ Ts ∧ Cond.static Lib.Math.min.name ∈ Ts ∧ Cond.initialized "java/lang/Math" ∈ Ts ∧ Cond.code Lib.Math.min.name Lib.Math.min.code 2 (some .int) ∈ Ts) ∧
  (¬ 4 ≤ k → ∀ M', MT mi = some M' → am_COk Ts M' ∧ (match h with
    | none => Cond.methodLink (am_y M).cls ix (am_y M') ∈ Ts
    | some host => Cond.methodLinkNest (am_y M).cls ix (am_y M') host ∈ Tw) ∧
    (k = 0 → Cond.static (am_y M') ∈ Ts ∧ (parseMethodDescriptor (am_y M').desc).map (fun d => d.parameters.length) = some n) ∧
    (k = 1 → am_mT M' = [] ∧ (am_y M').name = "<init>" ∧ am_r M' = none ∧ Cond.instanceMethod (am_y M') ∈ Ts ∧ (parseMethodDescriptor (am_y M').desc).map (fun d => d.parameters.length + 1) = some n) ∧
    (k = 2 → am_mT M' = [] ∧ Cond.instanceMethod (am_y M') ∈ Ts ∧ Cond.selects (am_y M').cls (am_y M') (am_y M') ∈ Ts ∧ (∃ (T : u_T) (N : Nat), cl[rc]? = some ((am_y M').cls, T, N)) ∧ (parseMethodDescriptor (am_y M').desc).map (fun d => d.parameters.length + 1) = some n) ∧
    (k = 3 → am_mT M' = [] ∧ Cond.instanceMethod (am_y M') ∈ Ts ∧ Cond.selects (am_y M').cls (am_y M') (am_y M') ∈ Ts ∧ (parseMethodDescriptor (am_y M').desc).map (fun d => d.parameters.length + 1) = some n))
def am_Good (Ts : List Cond) : Prop := ∀ w ∈ Ts, (w.onTables && w.keeps) = true ∨ ∃ ty, w = .arrayClass ty
section AMC
variable {p : Program} {l : Launch} {e : Env} {R : Room} {s : State} {m : MethodId} {args : Array Value} {below : List Frame} {meth : Method} {c : Code} {H : Heap} {locs : List Loc} {cells slots : Nat} {Q : State → Prop}
variable {pc base : Nat} {g : Nat → Nat} {ls : Array Slot} {lv : List (Nat × Value)} {st : List Value} {D : va_G} {cl : List vw_C} {dA : FieldType → ClassId} {tyl : List FieldType} {ah ah1 : am_H} {Ts Tw : List Cond} {fty : Nat → Nat → FieldType}
variable {kr : List (String × Nat × String × Nat)} {kz : List (String × String × String × Value)} {kA : am_KA} {fn : Nat → String × String × String} {kF : am_KF} {ko : Nat → Option String} {M M' : am_M}
theorem am_Pr.blind (hk : ∀ w ∈ Tw, am_nk w = true) (As : List Value) : FrameBlind (va_Pc As (am_Pr D cl dA tyl base g kr kz kA fn kF ko Tw ah)) := by
  intro a U gg mk q
  obtain ⟨q0, q1, q2, q3, q4, q5⟩ := q
  exact ⟨q0, q1, q2, ⟨va_K.moved (u := U) (U := U.calling gg mk a) (Vm.Alike.refl U.vm) q3.1, q3.2⟩, q4.moved (U := U.calling gg mk a) (State.WarmedH.refl U) (fun _ _ _ => rfl), fun w hw => am_nk_moved (hk w hw) (State.WarmedH.refl U) (q5 w hw)⟩
theorem am_Pr.at (hk : ∀ w ∈ Tw, am_nk w = true) (I : am_In Ts Tw D cl dA tyl base g kr kz kA fn kF ko M p s m args meth c) (hA : am_At D cl dA base g s.heap ah H locs) {U : State} (hU : U.heap = H) (hW : s.WarmedH U.vm) : am_Pr D cl dA tyl base g kr kz kA fn kF ko Tw ah U := by
  obtain ⟨hx, hb, hml, hown, hnm, hrt, hlk, hts, hK, hC, hTw, hnd⟩ := I
  refine ⟨by rw [hU]; exact hA.1, by rw [hU]; exact hA.2.1, ⟨va_K.moved hW.alike hK.1, by rw [hU, hA.2.1]; omega⟩, ?_, fun w hw => am_nk_moved (hk w hw) hW (hTw w hw)⟩
  rw [hU]
  exact hC.moved hW (fun a h1 h2 => hA.2.2.2.1 a h1 h2)
/-- behind a call that came back -/
theorem am_back {v : Option Value} {mc ms : Nat} {st0 rest : List Value} (hr : va_Run p l e R s m args below meth c H locs cells slots mc ms (F0 m pc ls st0) rest (fun st₀ oc t => oc = .returned v ∧ am_Po D cl dA base g ah1 st₀ t) (fun q => base ≤ q)) (hA : am_At D cl dA base g s.heap ah H locs) (hb : base ≤ s.heap.size) (hle : ah.length ≤ ah1.length)
    (kk : ∀ (H1 : Heap) (locs1 : List Loc), am_At D cl dA base g s.heap ah1 H1 locs1 → W p l e R s m args below meth c H1 locs1 (cells + mc) (slots + ms) Q (F0 m (pc + 3) ls (v.toList ++ rest))) : W p l e R s m args below meth c H locs cells slots Q (F0 m pc ls st0) := by
  intro T hT X
  obtain ⟨v', st₀, t, T', L, h1, X', hL, h2, h3, ⟨hv, hPo⟩, hgo⟩ := hr T hT X
  cases hv
  obtain ⟨p1, p2, p3⟩ := hPo
  have hA1 : am_At D cl dA base g s.heap ah1 T'.heap (locs ++ L) := by
    refine ⟨by rw [h2]; exact p1, by rw [h2]; exact p2, ?_, fun q g1 g2 => ?_, fun q hq => ?_⟩
    · have q1 := hA.2.2.1
      have q2 := hA.2.1
      rw [h2, p2]
      omega
    · rw [h2, p3 q (Nat.not_le.mp g2), h1]
      exact hA.2.2.2.1 q g1 g2
    · rcases List.mem_append.mp hq with h | h
      · exact hA.2.2.2.2 q h
      · exact hL q h
  obtain ⟨t2, a2, b2⟩ := kk _ _ hA1 T' rfl X'
  exact ⟨t2, hgo t2 a2, b2⟩
end AMC
