/-! THE ABSTRACT MACHINE: contracts out of walks; what a throw and a catch must do; soundness. -/
/-- the end of a method that throws -/
def am_TQ (D : va_G) (cl : List vw_C) (dA : FieldType → ClassId) (base : Nat) (g : Nat → Nat) (below : List Frame) (s : State) (x : Nat) (ah : am_H) (k n : Nat) : State → Prop := fun t =>
  t.status = .running ∧ Ended t below (.threw (am_cr base g x)) ∧ am_Po D cl dA base g ah s t ∧ ∃ L : List Loc, s.WarmedH t.vm ∧ s.sameButNew ({ t with vm := s.vm } : State) L k n ∧ ∀ q ∈ L, base ≤ q.base
def am_MetT (l : Launch) (Ts Tw : List Cond) (D : va_G) (cl : List vw_C) (dA : FieldType → ClassId) (tyl : List FieldType) (base : Nat) (g : Nat → Nat) (kr : List (String × Nat × String × Nat)) (kz : List (String × String × String × Value)) (kA : am_KA) (fn : Nat → String × String × String) (kF : am_KF) (ko : Nat → Option String) (M : am_M) (d : Nat) (As : List Value) (ah : am_H) (x : Nat) (ah1 : am_H) : Prop :=
  MetFree l (am_y M) (headSpec (am_wd M :: Ts) (am_rm d ah ah1)) (va_Pc (am_sk base g As) (am_Pr D cl dA tyl base g kr kz kA fn kF ko Tw ah)) (fun _ _ _ _ _ => True)
    (fun _ st o t => o = .threw (am_cr base g x) ∧ am_Po D cl dA base g ah1 st t ∧ ∃ L : List Loc, st.WarmedH t.vm ∧ st.sameButNew ({ t with vm := st.vm } : State) L (ah1.length - ah.length) (am_slots ah1 - am_slots ah) ∧ ∀ q ∈ L, base ≤ q.base)
theorem am_args_lv (base : Nat) (g : Nat → Nat) : ∀ (As : List Value) (i : Nat), lv_args i (am_sk base g As) = am_lv base g (lv_args i As)
  | [], _ => rfl
  | v :: As, i => by
    show (i, am_cv base g v) :: lv_args (if (am_cv base g v).category = 2 then i + 2 else i + 1) (am_sk base g As) = (i, am_cv base g v) :: am_lv base g (lv_args (if v.category = 2 then i + 2 else i + 1) As)
    rw [am_cv_cat, am_args_lv base g As]
theorem am_sl_len (base : Nat) (g : Nat → Nat) (As : List Value) : (lg_sl (am_sk base g As)).length = (lg_sl As).length := by
  induction As with
  | nil => rfl
  | cons v As ih =>
    simp only [lg_sl, am_sk, List.map_cons, List.flatMap_cons, List.length_append, am_cv_cat] at ih ⊢
    rw [ih]
    by_cases hv : v.category = 2 <;> simp [hv]
section AMM
variable {l : Launch} {base : Nat} {g : Nat → Nat} {D : va_G} {cl : List vw_C} {dA : FieldType → ClassId} {tyl : List FieldType} {ah ah1 : am_H} {Ts Tw : List Cond}
variable {kr : List (String × Nat × String × Nat)} {kz : List (String × String × String × Value)} {kA : am_KA} {fn : Nat → String × String × String} {kF : am_KF} {ko : Nat → Option String} {M : am_M} {As : List Value} {d : Nat}
/-- what a walk of a method's body begins with -/
theorem am_begin {p : Program} {e : Env} {s : State} {m : MethodId} {args : Array Value} {below : List Frame} {meth : Method} {c : Code} {s₁ : State} {rm : Room} {R : Room} {Q : State → Prop} (B : BodyLoose p l (am_y M) (headSpec (am_wd M :: Ts) rm) (am_b M) (am_n M) (am_r M) e s m args below meth c s₁) (hml : c.maxLocals = am_n M) (hsl : (lg_sl As).length ≤ am_n M) (hv : va_Pc (am_sk base g As) (am_Pr D cl dA tyl base g kr kz kA fn kF ko Tw ah) args s)
    (kk : ∀ ls : Array Slot, am_In Ts Tw D cl dA tyl base g kr kz kA fn kF ko M p s m args meth c → am_At D cl dA base g s.heap ah s.heap [] → lv_has ls (am_n M) (am_lv base g (lv_args 0 As)) → W p l e R s m args below meth c s.heap [] 0 0 Q (F0 m 0 ls [])) : W p l e R s m args below meth c s.heap [] 0 0 Q (entryFrame m args (am_n M)) := by
  obtain ⟨rfl, hP, hz, hK, hC, hTw⟩ := hv
  have hts := atoms_spec (ws := am_wd M :: Ts) B.pre
  have hl := lv_entry (am_sk base g As) (n := am_n M) (by rw [am_sl_len]; exact hsl)
  rw [lg_entry_eq]
  rw [am_args_lv] at hl
  exact kk _ ⟨B.exec, B.bytes, hml, findClass_of_methodNamed B.named, (name_of_methodNamed B.named B.method).1, B.returns, B.notSynchronized, fun w hw => hts w (List.mem_cons_of_mem _ hw), hK, hC, hTw, B.named⟩ ⟨hP, hz, va_S.rf⟩ hl
theorem am_toMet {Qc : Array Value → State → Outcome → State → Prop} {free : Addr → Prop} {rm : Room} {mc ms : Nat} (hc : am_COk Ts M) (hsl : (lg_sl As).length ≤ am_n M)
    (kk : ∀ (p : Program) (e : Env) (s : State) (m : MethodId) (args : Array Value) (below : List Frame) (meth : Method) (c : Code) (ls : Array Slot), am_In Ts Tw D cl dA tyl base g kr kz kA fn kF ko M p s m args meth c → am_At D cl dA base g s.heap ah s.heap [] → lv_has ls (am_n M) (am_lv base g (lv_args 0 As)) → W p l e rm s m args below meth c s.heap [] 0 0 (MQ below Qc args s mc ms free) (F0 m 0 ls [])) :
    Met l (am_y M) (am_wd M :: Ts) rm (va_Pc (am_sk base g As) (am_Pr D cl dA tyl base g kr kz kA fn kF ko Tw ah)) Qc mc ms free := by
  cases hT : am_mT M with
  | nil =>
    have hw : am_wd M = .code (am_y M) (am_b M) (am_n M) (am_r M) := am_wd_code hT
    refine Met.ofW (cc := am_b M) (maxL := am_n M) (ret := am_r M) hc.1 (by rw [hw]) ?_
    intro p e s m args below meth c s₁ B hml hv
    exact am_begin B hml hsl hv (fun ls I hA hl => kk p e s m args below meth c ls I hA hl)
  | cons q t =>
    have hw : am_wd M = .codeWith (am_y M) (am_b M) (am_n M) (am_r M) (q :: t) := by simp [am_wd, hT]
    refine va_MetW (cc := am_b M) (maxL := am_n M) (ret := am_r M) (hh := q :: t) hc.1 (by rw [hw]) ?_
    intro p e s m args below meth c s₁ B hml hv
    exact am_begin B hml hsl hv (fun ls I hA hl => kk p e s m args below meth c ls I hA hl)
theorem am_toMetT {x : Nat} (hc : am_COk Ts M) (hT : am_mT M = []) (hsl : (lg_sl As).length ≤ am_n M)
    (kk : ∀ (p : Program) (e : Env) (s : State) (m : MethodId) (args : Array Value) (below : List Frame) (meth : Method) (c : Code) (ls : Array Slot), am_In Ts Tw D cl dA tyl base g kr kz kA fn kF ko M p s m args meth c → am_At D cl dA base g s.heap ah s.heap [] → lv_has ls (am_n M) (am_lv base g (lv_args 0 As)) → W p l e (am_rm d ah ah1) s m args below meth c s.heap [] 0 0 (am_TQ D cl dA base g below s x ah1 (ah1.length - ah.length) (am_slots ah1 - am_slots ah)) (F0 m 0 ls [])) :
    am_MetT l Ts Tw D cl dA tyl base g kr kz kA fn kF ko M d As ah x ah1 := by
  have hw : am_wd M = .code (am_y M) (am_b M) (am_n M) (am_r M) := am_wd_code hT
  refine MetFree.of_bodyS (code := am_b M) (maxLocals := am_n M) (ret := am_r M) hc.1 ?_ ?_
  · intro args s m h hn
    obtain ⟨meth, c, h1, h2, h3, h4, h5, h6, -, -⟩ := Cond.code_spec hn (atoms_spec (ws := am_wd M :: Ts) h _ (by rw [hw]; exact List.mem_cons_self))
    exact ⟨meth, c, h1, h2, h3, h4, h5, h6⟩
  · intro p e s m args below meth c s₁ B hml hv _
    have hh0 : s₁.heap = s.heap := by rw [B.state]; rfl
    obtain ⟨t, a1, b1, b2, b3, b4⟩ := am_begin B hml hsl hv (fun ls I hA hl => kk p e s m args below meth c ls I hA hl) s₁ hh0 (Stand.of_body B)
    exact ⟨t, _, a1, b1, b2, rfl, b3, b4⟩
end AMM
