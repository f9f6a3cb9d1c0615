/-! A walk seen anew from where it stands: as if the method had been invoked at this heap and these tables. -/
section AMB
variable {p : Program} {l : Launch} {e : Env} {R : Room} {s : State} {m : MethodId} {args : Array Value} {below : List Frame} {meth : Method} {c : Code} {T : State} {locs : List Loc} {cells slots : Nat}
theorem am_rebase (X : Stand p l e R s m args below meth c T locs cells slots) (hc : cells ≤ R.cells) (hs : slots ≤ R.slots) :
    Stand p l e { R with cells := R.cells - cells, slots := R.slots - slots } (T.setFrames (.invoking m args :: below)) m args below meth c T [] 0 0 := by
  obtain ⟨g₀, hg⟩ := Option.isSome_iff_exists.mp X.here.top
  obtain ⟨r, hr⟩ := State.topJava?_eq_some.mp hg
  have hcur : T.cur < T.threads.size := State.cur_lt_of_frames hr
  obtain ⟨x, hx, -⟩ := State.frames_cons hr
  have hm' : T.vm.method? m = some meth := X.method'
  have hfr : (T.setFrames (.invoking m args :: below)).frames = .invoking m args :: below := State.frames_setFrames _ hcur
  have hroom := X.room
  have hlocals : (T.setFrames (.invoking m args :: below)).localsInUse = s.localsInUse := by
    unfold State.localsInUse
    rw [hfr, X.frames]
    show stackWeight _ + ((((T.vm.method? m).bind (·.code)).map (·.maxLocals)).getD 0 + 11) = stackWeight _ + ((((s.vm.method? m).bind (·.code)).map (·.maxLocals)).getD 0 + 11)
    rw [hm', X.method]
  refine ⟨X.admits, X.cas, X.clock, hfr, ?_, ?_, hm', X.code, X.here, X.tail, State.WarmedH.refl T, ?_, ?_, ?_⟩
  · simp only [State.hasRoom, Bool.and_eq_true, decide_eq_true_eq] at hroom ⊢
    obtain ⟨⟨⟨⟨a1, a2, a3, a4, a5, a6⟩, a7⟩, a8⟩, a9⟩ := hroom
    have h1 := X.heapSize
    have h2 := X.used
    have hz : (T.setFrames (.invoking m args :: below)).heap.size = T.heap.size := rfl
    have hu : (T.setFrames (.invoking m args :: below)).slotsUsed = T.slotsUsed := rfl
    rw [hlocals, hfr, State.stackLimits_setFrames, State.stackBytes_setFrames, X.limits, X.bytes]
    rw [X.frames] at a2 a3
    refine ⟨⟨⟨⟨a1, a2, a3, a4, a5, a6⟩, ?_⟩, ?_⟩, X.book⟩
    · rw [hz]; show T.heap.size + (R.cells - cells) ≤ _; omega
    · rw [hu]; show T.slotsUsed + (R.slots - slots) ≤ _; omega
  · have h := X.hears
    cases below with
    | nil =>
      show ((T.vm.method? m).any (·.sig.returnType.isNone)) = true
      have h : ((s.vm.method? m).any (·.sig.returnType.isNone)) = true := h
      rw [hm']
      rw [X.method] at h
      exact h
    | cons b t =>
      cases b with
      | java g =>
        show (((T.setFrames _).code? g.method).bind fun c => (decode c.code g.pc).toOption).isSome = true
        have h : ((s.code? g.method).bind fun c => (decode c.code g.pc).toOption).isSome = true := h
        rw [State.code?_eq] at h ⊢
        show (((T.vm.method? g.method).bind (·.code)).bind fun c => (decode c.code g.pc).toOption).isSome = true
        rw [X.warmed.alike.method?]
        exact h
      | native _ => rfl
      | proc _ => rfl
      | _ =>
        show ((T.vm.method? m).any (·.sig.returnType.isNone)) = true
        have h : ((s.vm.method? m).any (·.sig.returnType.isNone)) = true := h
        rw [hm']
        rw [X.method] at h
        exact h
  · rw [State.stackLimits_setFrames]
  · rw [State.stackBytes_setFrames]
  · obtain ⟨x', hx', -⟩ := State.frames_cons hfr
    have h := (State.sameButNew.refl (T.setFrames (.invoking m args :: below)) hx').setFrames T.frames (State.cur_lt_of_frames hfr)
    rw [State.setFrames_setFrames, State.setFrames_self hx] at h
    exact h
/-- nothing that was there has changed -/
theorem am_same_eq {t : State} {k n : Nat} (h : s.sameButNew t [] k n) {a : Nat} (ha : a < s.heap.size) : t.heap[a]? = s.heap[a]? := by
  obtain ⟨c', h1, h2, h3, h4⟩ := h.2.2.2.2.2 a s.heap[a] (Array.getElem?_eq_getElem ha)
  rw [h1, Array.getElem?_eq_getElem ha, h2]
  have : c'.slots = s.heap[a].slots := by
    apply Array.ext_getElem?
    intro i
    exact h4 i (by simp)
  rw [this]
end AMB
