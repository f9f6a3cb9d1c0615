/-! THE ABSTRACT MACHINE: a static call of a method that has handlers. -/
section AMQ
variable {p : Program} {l : Launch} {e : Env} {R : Room} {s : State} {m : MethodId} {args : Array Value} {below : List Frame} {meth : Method} {c : Code} {H : Heap} {locs : List Loc} {cells slots : Nat} {Q : State → Prop}
variable {pc base : Nat} {g : Nat → Nat} {ls : Array Slot} {lv : List (Nat × Value)} {st : List Value} {D : va_G} {cl : List vw_C} {dA : FieldType → ClassId} {tyl : List FieldType} {ah ah1 : am_H} {Ts Tw : List Cond} {fty : Nat → Nat → FieldType}
variable {kr : List (String × Nat × String × Nat)} {kz : List (String × String × String × Value)} {kA : am_KA} {fn : Nat → String × String × String} {kF : am_KF} {ko : Nat → Option String} {M M' : am_M} {v : Option Value} {d ix na rc : Nat} {h : Option String}
theorem am_runSW {y : MethodName} {bytes cc : ByteArray} {maxL nL mc ms n index : Nat} {ret : Option FieldType} {hh : List (Nat × Nat × Nat × Nat)} {ws : List Cond} {rm : Room} {Pc : Array Value → State → Prop} {Qc : Array Value → State → Outcome → State → Prop} {free : Addr → Prop} {own : String} {As rest : List Value} {gg : JFrame}
    (S : CallFix p m c cc nL s args Ts own) (hM : Met l y ws rm Pc Qc mc ms free) (hrc : rm.cells = mc) (hrs : rm.slots = ms) (hR : rm.frames + 1 ≤ R.frames ∧ 8 + (maxL + 11) + rm.locals ≤ R.locals) (hws : ∀ w ∈ ws, ∀ (a' : Array Value) (U : State), s.WarmedH U.vm → w.before a' U = true) (hcw : Cond.codeWith y bytes maxL ret hh ∈ ws) (hini : (Cond.initialized y.cls).before args s = true) (hy : y.cls ≠ "java/lang/invoke/MethodHandle" ∧ y.cls ≠ "java/lang/invoke/VarHandle") (hlen : ∀ sig, parseMethodDescriptor y.desc = some sig → n = sig.parameters.length) (hlink : (Cond.methodLink own index y).before args s = true) (hstt : (Cond.static y).before args s = true) (hp : PreS s H Pc As)
    (hg : gg.method = m) (hn : As.length = n) (hsize : gg.locals.size = nL) (hstack : gg.stack = As.reverse ++ rest) (hW : 2 * gg.monitorRoom + (rest.map fun v => v.category).sum ≤ 8) (hdg : decode cc gg.pc = .ok (.invokestatic index, 3)) (hf : cells + mc ≤ R.cells ∧ slots + ms ≤ R.slots) :
    va_Run p l e R s m args below meth c H locs cells slots mc ms gg rest (Qc As.toArray) free := by
  have hK : Back l R p e below s args y 3 8 (PreOf R mc ms Pc) (PostOf Qc mc ms free) := va_backW (hh := hh) (bytes := bytes) (maxL := maxL) (ret := ret) hM hp.1 hrc hrs hR.1 hR.2 hws hcw (fun a' U hW => word_at hW (Or.inl (by first | rfl | simp [Cond.onTables, Cond.keeps, Cond.steady])) hini)
  obtain ⟨hx, hb, hml, ho, -⟩ := S
  intro T hT X
  obtain ⟨mk, methM, cM, hnamed, hmethM, -, -, -, -, -, -, hsigM⟩ := Cond.codeWith_spec (hws _ hcw args s (State.WarmedH.refl s))
  have hstatic : methM.isStatic = true := Cond.static_spec hnamed hmethM hstt
  obtain ⟨kP, hkP, -⟩ := className_of_methodNamed hnamed
  have hinitP : kP.init = .initialized := Cond.initialized_spec (findClass_of_methodNamed hnamed) hkP hini
  obtain ⟨vm₁, X₁, hstep₁⟩ := X.invokestatic hx ho hlink hnamed hmethM hstatic hkP hinitP hy (g := gg) hg (argsL := As) (rest := rest) (hn.trans (hlen _ hsigM)) hstack (by rw [hb]; exact hdg)
  obtain ⟨v, ⟨U', l2, c2, s2⟩, X', ⟨g', mk', t, L, e1, e2, hq, h1, hL, h2, h3⟩, hsteps⟩ := hK m meth c ⟨T.setVm vm₁, locs, cells, slots⟩ { gg with stack := rest } (.invokestatic index) mk As.toArray X₁ hg (hsize.trans hml.symm) (by rw [hb]; exact hdg) hW (X₁.named hnamed) ⟨hf.1, hf.2, hp.2 (T.setVm vm₁) hT X₁.warmed⟩
  dsimp only [Pt.U, Pt.locs, Pt.cells, Pt.slots] at X' e1 e2 h1 h2 h3 hsteps
  subst h1; subst h2; subst h3
  exact ⟨v, (T.setVm vm₁).calling g' mk' As.toArray, t, U', L, hT, X', hL, e1, e2, hq, fun target h => hstep₁ _ fun acts => by rw [doInvoke_state]; exact hsteps.trans h⟩
theorem am_callW (hG : am_Good Ts) (hkw : ∀ w ∈ Tw, am_nk w = true) (I : am_In Ts Tw D cl dA tyl base g kr kz kA fn kF ko M p s m args meth c) (hA : am_At D cl dA base g s.heap ah H locs) (hc : am_COk Ts M') (hT0 : am_mT M' ≠ []) (hM : Met l (am_y M') (am_wd M' :: Ts) (am_rm d ah ah1) (va_Pc (am_sk base g (st.take na).reverse) (am_Pr D cl dA tyl base g kr kz kA fn kF ko Tw ah)) (fun _ st oc t => oc = .returned (v.map (am_cv base g)) ∧ am_Po D cl dA base g ah1 st t) (ah1.length - ah.length) (am_slots ah1 - am_slots ah) (fun q => base ≤ q)) (hlk : Cond.methodLink (am_y M).cls ix (am_y M') ∈ Ts) (hst : Cond.static (am_y M') ∈ Ts) (hds : (parseMethodDescriptor (am_y M').desc).map (fun d => d.parameters.length) = some na) (hok : am_cok ko M' 0 na rc st ah = true) (hf : d + 1 ≤ R.frames) (hlo : 64 * (d + 1) ≤ R.locals) (hce : cells + (ah1.length - ah.length) ≤ R.cells) (hsl : slots + (am_slots ah1 - am_slots ah) ≤ R.slots) (hle : ah.length ≤ ah1.length) (hdg : decode (am_b M) pc = .ok (.invokestatic ix, 3)) (hl : lv_has ls (am_n M) (am_lv base g lv)) (kk : ∀ (H1 : Heap) (locs1 : List Loc), am_At D cl dA base g s.heap ah1 H1 locs1 → W p l e R s m args below meth c H1 locs1 (cells + (ah1.length - ah.length)) (slots + (am_slots ah1 - am_slots ah)) Q (F0 m (pc + 3) ls (am_sk base g (v.toList ++ st.drop na)))) : W p l e R s m args below meth c H locs cells slots Q (F0 m pc ls (am_sk base g st)) := by
  obtain ⟨q, t, hq⟩ : ∃ q t, am_mT M' = q :: t := List.exists_cons_of_ne_nil hT0
  have hwd : am_wd M' = .codeWith (am_y M') (am_b M') (am_n M') (am_r M') (q :: t) := by simp [am_wd, hq]
  rw [hwd] at hM
  obtain ⟨o1, o2, o3, o4⟩ := am_cok_spec hok
  obtain ⟨c1, c2, c3, c4, c5⟩ := hc
  rw [hwd] at c2
  have hgd := am_GoodIn hG c2
  obtain ⟨hx, hb, hml, hown, hnm, hrt, hlk0, hts, hK, hC, hTw, hnd⟩ := id I
  have hroom : (am_rm d ah ah1).frames + 1 ≤ R.frames ∧ 8 + (am_n M' + 11) + (am_rm d ah ah1).locals ≤ R.locals := ⟨hf, by show 8 + (am_n M' + 11) + 64 * d ≤ R.locals; omega⟩
  have ekk : ∀ (H1 : Heap) (locs1 : List Loc), am_At D cl dA base g s.heap ah1 H1 locs1 → W p l e R s m args below meth c H1 locs1 (cells + (ah1.length - ah.length)) (slots + (am_slots ah1 - am_slots ah)) Q (F0 m (pc + 3) ls ((v.map (am_cv base g)).toList ++ am_sk base g (st.drop na))) := fun H1 locs1 h1 => by
    have k1 := kk H1 locs1 h1
    rw [show am_sk base g (v.toList ++ st.drop na) = (v.map (am_cv base g)).toList ++ am_sk base g (st.drop na) by cases v <;> simp [am_sk]] at k1
    exact k1
  have hst0 := am_take (st := st) (na := na) rfl
  have hsk : am_sk base g st = (am_sk base g (st.take na).reverse).reverse ++ am_sk base g (st.drop na) := by rw [← am_sk_rev, ← hst0]
  have hlen : (am_sk base g (st.take na).reverse).length = na := by simp [am_sk]; omega
  rw [hsk]
  refine am_back (v := v.map (am_cv base g)) (rest := am_sk base g (st.drop na)) ?_ hA hK.2 hle ekk
  exact am_runSW (hh := q :: t) (rest := am_sk base g (st.drop na)) ⟨hx, hb, hml, hown, hts⟩ hM rfl rfl hroom (pay_in hts hgd) List.mem_cons_self (hts _ c3) c4 (fun sig hs => by rw [hs] at hds; exact (Option.some.inj hds).symm) (hts _ hlk) (hts _ hst) ⟨am_Pr.blind hkw _, fun U hU hW => ⟨rfl, am_Pr.at hkw I hA hU hW⟩⟩ rfl hlen hl.1 rfl (lv_room (by rw [am_sk_cat]; exact o2)) hdg ⟨hce, hsl⟩
end AMQ
