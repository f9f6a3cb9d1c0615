/-! A throw: 'throw new E("..")' makes the thing, runs its constructor, and leaves the method. -/
def am_up : List String := ["java/lang/RuntimeException", "java/lang/Exception"]
def am_iu : Cond := .isRef (.static Jvm.Bundle.tN "UNASSIGNED_STACK" Jvm.Bundle.steD)
def am_is : Cond := .isRef (.static Jvm.Bundle.tN "SUPPRESSED_SENTINEL" Jvm.Bundle.listD)
def am_lu : Cond := .laysStatic Jvm.Bundle.tN "UNASSIGNED_STACK" Jvm.Bundle.steD
def am_ls : Cond := .laysStatic Jvm.Bundle.tN "SUPPRESSED_SENTINEL" Jvm.Bundle.listD
/-- where a word that a throw wants comes from -/
def am_aw (Ts Tw : List Cond) (w : Cond) : Prop := w ∈ Ts ∨ w ∈ Tw ∨ w = am_iu ∨ w = am_is ∨ w = am_lu ∨ w = am_ls ∨ ∃ (x : MethodName) (b : ByteArray) (n : Nat) (r : Option FieldType), w = .declares x ∧ Cond.instanceMethod x ∈ Ts ∧ Cond.code x b n r ∈ Ts
theorem am_declares {args : Array Value} {s : State} {x : MethodName} {b : ByteArray} {n : Nat} {r : Option FieldType} (h1 : (Cond.instanceMethod x).before args s = true) (h2 : (Cond.code x b n r).before args s = true) : (Cond.declares x).before args s = true := by
  obtain ⟨m, meth, hn, hm, hst, -⟩ := Cond.instanceMethod_spec h1
  obtain ⟨meth', c, hm', -, -, -, -, -, -, hsig⟩ := Cond.code_spec hn h2
  cases hm.symm.trans hm'
  simp [Cond.before, Cond.holds, Cond.value, hn, hm, hst, hsig]
/-- a place of 'throw' is right -/
def am_XOk (cl : List vw_C) (Ts Tw : List Cond) (kr : List (String × Nat × String × Nat)) (M : am_M) (pc ci : Nat) : Prop := ∃ (E tx : String) (T : u_T) (ix il iv j : Nat),
  cl[ci]? = some (E, T, 0) ∧ am_mT M = [] ∧ am_wd M ∈ Ts ∧ decode (am_b M) pc = .ok (.new ix, 3) ∧ decode (am_b M) (pc + 3) = .ok (.dup, 1) ∧ decode (am_b M) (pc + 4) = .ok (.ldc il, 2) ∧ decode (am_b M) (pc + 6) = .ok (.invokespecial iv, 3) ∧ decode (am_b M) (pc + 9) = .ok (.athrow, 1) ∧
  Cond.classLink (am_y M).cls ix E ∈ Ts ∧ Cond.instantiable E 6 ∈ Ts ∧ Cond.initialized E ∈ Ts ∧ ((am_y M).cls, il, tx, j) ∈ kr ∧ Jvm.Bundle.fit E = true ∧ ∀ w ∈ Jvm.Bundle.ownAtoms (am_y M).cls iv E am_up, am_aw Ts Tw w
/-- the two statics of Throwable stand among the constants, and hold references or null -/
def am_KzT (kz : List (String × String × String × Value)) : Prop := (∃ v : Value, v.isRef = true ∧ (Jvm.Bundle.tN, "UNASSIGNED_STACK", Jvm.Bundle.steD, v) ∈ kz) ∧ ∃ v : Value, v.isRef = true ∧ (Jvm.Bundle.tN, "SUPPRESSED_SENTINEL", Jvm.Bundle.listD, v) ∈ kz
theorem am_Z_isRef {C n d : String} {v : Value} {A : Nat → Prop} {U : State} (args : Array Value) (h : va_Z C n d v A U U.heap) (hv : v.isRef = true) : (Cond.isRef (.static C n d)).before args U = true := by
  obtain ⟨cf, kf, fi, f, a, cell, h1, h2, h3, h4, h5, h6, h7, -⟩ := h
  simp [Cond.before, Cond.holds, Cond.value, Term.eval, State.fieldNamed?, h1, h2, h4, h5, h6, h7]
  cases v <;> first | rfl | cases hv
theorem am_cv_isRef {base : Nat} {g : Nat → Nat} {v : Value} (h : v.isRef = true) : (am_cv base g v).isRef = true := by
  cases v <;> first | exact h | rfl
theorem am_of_setFrames {A B : State} {F : List Frame} {L : List Loc} {k n : Nat} (h : (A.setFrames F).sameButNew B L k n) : A.sameButNew B L k n := by
  obtain ⟨h1, h2⟩ := h
  refine ⟨?_, h2⟩
  rw [State.setFrames_setFrames] at h1
  exact h1
section AMX
variable {l : Launch} {base : Nat} {g : Nat → Nat} {D : va_G} {cl : List vw_C} {dA : FieldType → ClassId} {tyl : List FieldType} {Ts Tw : List Cond}
variable {kr : List (String × Nat × String × Nat)} {kz : List (String × String × String × Value)} {kA : am_KA} {fn : Nat → String × String × String} {kF : am_KF} {ko : Nat → Option String} {MT : Nat → Option am_M}
set_option maxHeartbeats 2000000 in
theorem am_throw_ok (hl : ∀ e : Env, l.admits e → e.platform.stackTraces = false) (hG : am_Good Ts) (hkw : ∀ w ∈ Tw, am_nk w = true) (hz : am_KzT kz) (hXs : ∀ mi M pc ci, MT mi = some M → am_mX M pc = some ci → am_XOk cl Ts Tw kr M pc ci) :
    am_ThrowOk l Ts Tw D cl dA tyl base g kr kz kA fn kF ko MT := by
  intro p e R s m args below meth c H locs cells slots ls lv st pc mi ci M ah hM I hX hA hlv hbig hcat hfr hlo hce hsl
  obtain ⟨E, tx, T, ix, il, iv, j, hcl, hmT, hwd, hd0, hd3, hd4, hd6, hd9, hw1, hw2, hw3, hkr, hfit, hat⟩ := hXs mi M pc ci hM hX
  obtain ⟨hx, hb, hml, hown, hnm, hrt, hlk, hts, hK, hC, hTw, hnd⟩ := id I
  intro S hS X
  subst hS
  have X0 := am_rebase X (by omega) (by omega)
  have hW0 : s.WarmedH S.vm := X.warmed
  have hW : s.WarmedH (S.setFrames (.invoking m args :: below)).vm := hW0
  generalize hs' : S.setFrames (.invoking m args :: below) = s' at X0 hW
  have hvm : s'.vm = S.vm := by rw [← hs']; rfl
  have hhp : s'.heap = S.heap := by rw [← hs']; rfl
  have hts' : ∀ w ∈ Ts, w.before args s' = true := fun w hw => word_at hW (hG w hw) (hts w hw)
  have hTw' : ∀ w ∈ Tw, w.before args s' = true := fun w hw => am_nk_use (hkw w hw) (am_nk_moved (hkw w hw) hW (hTw w hw))
  have hC' : am_KC base g kr kz kA fn kF ko s' S.heap := hC.moved hW (fun a h1 h2 => hA.2.2.2.1 a h1 h2)
  have hown' : s'.vm.findClass (am_y M).cls = some m.cls := by rw [hW.alike.findClass]; exact hown
  obtain ⟨vu, hvu, hmu⟩ := hz.1
  obtain ⟨vs, hvs, hms⟩ := hz.2
  have hu1 := hC'.2.1 _ hmu
  have hs1 := hC'.2.1 _ hms
  rw [← hhp] at hu1 hs1
  have hiu : am_iu.before args s' = true := am_Z_isRef args hu1.1 (am_cv_isRef hvu)
  have his : am_is.before args s' = true := am_Z_isRef args hs1.1 (am_cv_isRef hvs)
  have hlu : am_lu.before args s' = true := hu1.2.use
  have hls : am_ls.before args s' = true := hs1.2.use
  have hatoms : ∀ w ∈ Jvm.Bundle.ownAtoms (am_y M).cls iv E am_up, w.before args s' = true := by
    intro w hw
    rcases hat w hw with h | h | h | h | h | h | ⟨x, b, n, r, h, h8, h9⟩
    · exact hts' w h
    · exact hTw' w h
    · rw [h]; exact hiu
    · rw [h]; exact his
    · rw [h]; exact hlu
    · rw [h]; exact hls
    · rw [h]; exact am_declares (hts' _ h8) (hts' _ h9)
  have hstr : vk_R (am_y M).cls il tx (g j) s' := (hC'.1 _ hkr)
  rw [am_wd_code hmT] at hwd
  obtain ⟨methY, cY, hmY, hcY, -, -, -, hlockY, hempty, -⟩ := Cond.code_spec hnd (hts _ hwd)
  have e1 : methY = meth := Option.some.inj (hmY.symm.trans X.method)
  subst e1
  have e2 : cY = c := Option.some.inj (hcY.symm.trans X.code)
  subst e2
  rw [← hb] at hd0 hd3 hd4 hd6 hd9
  have hlen : (am_sk base g st).map (fun v => v.category) = st.map (fun v => v.category) := by simp [am_sk, am_cv_cat]
  obtain ⟨vm1, cX, kX, hfX, hkX, -, -, X1, st1⟩ := X0.newCold hx hown' (hts' _ hw1) (hts' _ hw2) (hts' _ hw3) (g := F0 m pc ls (am_sk base g st)) rfl hd0 (by show 0 + 1 ≤ R.cells - cells; omega) (by show 0 + 6 ≤ R.slots - slots; omega)
  generalize hT1 : (S.setVm vm1).pushCell { cls := cX, slots := kX.instanceTypes.map defaultValue, vm := .none } = T1 at X1 st1
  have hcellA : T1.heap[S.heap.size]? = some (freshCell cX kX) := by rw [← hT1]; exact State.heap_pushCell_size _ _
  obtain ⟨U, hsteps, hrun, hend, hWU, hsame, ce, hcel, K⟩ := X1.ctorThrowS hx (hl e X.admits) (own := (am_y M).cls) (cls := E) (names := am_up) (ic := iv) hown' hfit (by decide +kernel) hatoms (fun y hy => by cases hy) hfX hkX hcellA (by rw [hhp]; exact Nat.le_refl _) (msg := .ref (g j)) rfl
    (g := F0 m (pc + 6) ls (.ref (g j) :: .ref S.heap.size :: .ref S.heap.size :: am_sk base g st)) rfl (by show ls.size = _; rw [hlv.1, hml]) rfl rfl (rest := am_sk base g st) rfl hd6 hd9 (covers_of_empty hempty _) (by show 2 + 3 < R.frames; omega)
    (by
      show 2 * 0 + ((Value.ref S.heap.size :: am_sk base g st).map fun v => v.category).sum + (13 * (2 + 1) + 42) ≤ R.locals
      rw [List.map_cons, List.sum_cons, hlen]
      show 2 * 0 + (1 + _) + _ ≤ _
      omega) hlk
  have hadr : am_cr base g ah.length = S.heap.size := by rw [hA.2.1]; simp [am_cr, hbig]
  have hold : ∀ a : Nat, a < S.heap.size → U.heap[a]? = S.heap[a]? := fun a ha => by
    have := am_same_eq hsame (a := a) (by rw [hhp]; exact ha)
    rw [hhp] at this
    exact this
  have hsz : U.heap.size = S.heap.size + 1 := by
    have h1 : U.heap.size ≤ s'.heap.size + (0 + 1) := hsame.2.2.1
    have h2 := (Array.getElem?_eq_some_iff.mp hcel).1
    rw [hhp] at h1
    omega
  refine ⟨U, ?_, hrun, by rw [hadr]; exact hend, ⟨?_, by rw [hsz, hA.2.1]; simp; omega, fun q hq => ?_⟩, locs, ?_, ?_, fun q hq => hA.2.2.2.2 q hq⟩
  · refine st1 U ?_
    show Steps p.tables e below (T1.setTop (F0 m (pc + 3) ls (.ref S.heap.size :: am_sk base g st))) U
    jvm_step X1.here [X1.here.top, hx, hd3, Value.category]
    exact X1.ldcString hx (own := (am_y M).cls) (text := tx) (index := il) (a := g j) hown' hstr.1 hstr.2 (g := F0 m (pc + 4) ls (.ref S.heap.size :: .ref S.heap.size :: am_sk base g st)) rfl hd4 _ hsteps
  · rw [am_W_push, ← hA.2.1]
    refine va_P.app (hA.1.kept fun k q hk => hold q.1 (hA.1 k q hk).lt) (fun k q hk => ?_)
    have hk1 : k < 1 := (List.getElem?_eq_some_iff.mp hk).1
    rw [show k = 0 by omega] at hk
    cases hk
    have hKn := (va_K.moved (u := s) (U := s') hW.alike hK.1).1 ci _ hcl
    exact ⟨_, hcl, ce, hcel, Option.some.inj (K.cls.symm.trans hKn.2.1), K.vm, fun k hk => absurd hk (Nat.not_lt_zero k)⟩
  · have h1 := hA.2.2.2.1 q (by have := hK.2; omega) (by omega)
    rw [← h1]
    exact hold q (by have h2 := hA.2.1; omega)
  · exact State.WarmedH.trans hW hWU
  · rw [← hs'] at hsame
    have h1 := X.same.trans ((am_of_setFrames hsame).setVm s.vm)
    rw [List.append_nil] at h1
    exact h1
end AMX
