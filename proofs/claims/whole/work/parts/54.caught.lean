/-! A catch: what a call threw, the caller's table of handlers catches. -/
def am_TOk (cl : List vw_C) (Ts Tw : List Cond) (M : am_M) : Prop := ∀ q ∈ am_mT M, ∃ (cj : Nat) (C : String) (T : u_T), q.2.2.2 ≠ 0 ∧ am_mK M q.2.2.2 = some cj ∧ cl[cj]? = some (C, T, 0) ∧ Cond.classLink (am_y M).cls q.2.2.2 C ∈ Ts ∧
  ∀ q' ∈ am_mT M, ∀ (ci : Nat) (E : String) (T' : u_T), am_mK M q'.2.2.2 = some ci → cl[ci]? = some (E, T', 0) → (ci = cj → Cond.castable E C ∈ Tw) ∧ (ci ≠ cj → Cond.not (.castable E C) ∈ Tw)
theorem am_hnd_in {K : Nat → Option Nat} {pc ci hp : Nat} : ∀ {hh : List (Nat × Nat × Nat × Nat)}, am_hnd K hh pc ci = some hp → ∃ q ∈ hh, K q.2.2.2 = some ci
  | [], h => by cases h
  | (a, b, h0, ix) :: t, h => by
    unfold am_hnd at h
    split at h
    · split at h
      · next h2 => exact ⟨_, List.mem_cons_self, h2⟩
      · obtain ⟨q, h1, h2⟩ := am_hnd_in h
        exact ⟨q, List.mem_cons_of_mem _ h1, h2⟩
    · obtain ⟨q, h1, h2⟩ := am_hnd_in h
      exact ⟨q, List.mem_cons_of_mem _ h1, h2⟩
theorem am_search {e : Env} {s : State} {f : JFrame} {a : Addr} {cell : Cell} {own E : String} {args : Array Value} {Ts Tw : List Cond} {K : Nat → Option Nat} {ci hp : Nat} (hpl : e.platform.magicAccessors = ({} : Platform).magicAccessors) (hown : s.vm.findClass own = some f.method.cls) (hts : ∀ w ∈ Ts, w.before args s = true) (hkw : ∀ w ∈ Tw, am_nk w = true) (hTw : ∀ w ∈ Tw, va_Nw w s) (hE : s.vm.findClass E = some cell.cls) (hobj : ∀ k, cell.vm ≠ .statics k) :
    ∀ (hh : List (Nat × Nat × Nat × Nat)) (U : State), s.WarmedH U.vm → U.heap[a]? = some cell → (∀ q ∈ hh, ∃ (cj : Nat) (C : String), q.2.2.2 ≠ 0 ∧ K q.2.2.2 = some cj ∧ Cond.classLink own q.2.2.2 C ∈ Ts ∧ (ci = cj → Cond.castable E C ∈ Tw) ∧ (ci ≠ cj → Cond.not (.castable E C) ∈ Tw)) → am_hnd K hh f.pc ci = some hp →
      ∃ vm' : Vm, s.WarmedH vm' ∧ ∀ (Q : Handler → Pre) (X : CtlPost) (d : Bool) (acts : List Action), wp (findHandler.go f a (tableOf hh)) Q X e d acts U ↔ Q (.found hp) d acts (U.setVm vm') := by
  intro hh
  induction hh with
  | nil => intro U hW hc hq h; cases h
  | cons q t ih =>
    intro U hW hc hq h
    obtain ⟨a0, b0, h0, ix⟩ := q
    have hqt : ∀ q ∈ t, ∃ (cj : Nat) (C : String), q.2.2.2 ≠ 0 ∧ K q.2.2.2 = some cj ∧ Cond.classLink own q.2.2.2 C ∈ Ts ∧ (ci = cj → Cond.castable E C ∈ Tw) ∧ (ci ≠ cj → Cond.not (.castable E C) ∈ Tw) := fun q' h' => hq q' (List.mem_cons_of_mem _ h')
    unfold am_hnd at h
    by_cases hcov : a0 ≤ f.pc ∧ f.pc < b0
    · rw [if_pos hcov] at h
      obtain ⟨cj, C, hix, hKj, hlk, hyes, hno⟩ := hq _ List.mem_cons_self
      obtain ⟨cC, hfC, hcl⟩ := Cond.classLink_spec hown (hts _ hlk) e.platform hpl
      obtain ⟨hg1, hw1, -⟩ := State.classEntry (e := e) hW hcl
      generalize U.vm.noted f.method.cls ix (.cls cC) = vm1 at hg1 hw1
      have hcv : covers (⟨a0, b0, h0, ix⟩ : ExceptionTableEntry) f.pc = true := by simp [covers, hcov.1, hcov.2]
      have hfE1 : vm1.findClass E = some cell.cls := by rw [hw1.alike.findClass]; exact hE
      have hfC1 : vm1.findClass C = some cC := by rw [hw1.alike.findClass]; exact hfC
      obtain ⟨kE, hkE, -⟩ := Vm.findClass_spec hfE1
      obtain ⟨kC, hkC, -⟩ := Vm.findClass_spec hfC1
      have hsz : vm1.classes.size ≤ U.vm.classes.size := by rw [hw1.2.1, hW.2.1]; exact Nat.le_refl _
      have hW1 : s.WarmedH (U.setVm vm1).vm := hw1
      have hgo := fun (Q : Handler → Pre) (X : CtlPost) (d : Bool) (acts : List Action) => am_go_cold (E := X) (e := e) (d := d) (acts := acts) (s := U) (f := f) (a := a) (Q := Q) (x := ⟨a0, b0, h0, ix⟩) (t := tableOf t) hcv hix hg1 hsz hc hobj ⟨kE, hkE⟩ ⟨kC, hkC⟩
      by_cases hcc : ci = cj
      · have hkk : K ix = some ci := by rw [hcc]; exact hKj
        rw [if_pos hkk] at h
        cases h
        obtain ⟨c1, c2, q1, q2, q3⟩ := Cond.castable_spec (am_nk_use (A := #[]) (hkw _ (hyes hcc)) (am_nk_moved (hkw _ (hyes hcc)) hW1 (hTw _ (hyes hcc))))
        cases Option.some.inj (q1.symm.trans hfE1)
        cases Option.some.inj (q2.symm.trans hfC1)
        refine ⟨vm1, hw1, fun Q X d acts => ?_⟩
        refine (hgo Q X d acts).trans ?_
        rw [if_pos (show vm1.assignable cell.cls cC = true from q3)]
      · have hkk : ¬ K ix = some ci := by
          rw [show K ix = some cj from hKj]
          intro hh
          exact hcc (Option.some.inj hh).symm
        rw [if_neg hkk] at h
        obtain ⟨vm2, hw2, h2⟩ := ih (U.setVm vm1) hW1 hc hqt h
        obtain ⟨c1, c2, q1, q2, q3⟩ := va_Nc.of (am_nk_moved (hkw _ (hno hcc)) hW1 (hTw _ (hno hcc)))
        cases Option.some.inj (q1.symm.trans hfE1)
        cases Option.some.inj (q2.symm.trans hfC1)
        refine ⟨vm2, hw2, fun Q X d acts => ?_⟩
        refine (hgo Q X d acts).trans ?_
        have q4 : ¬ vm1.assignable cell.cls cC = true := by
          intro h9
          have h8 : vm1.assignable cell.cls cC = false := q3
          rw [h8] at h9
          cases h9
        rw [if_neg q4]
        exact h2 Q X d acts
    · rw [if_neg hcov] at h
      obtain ⟨vm2, hw2, h2⟩ := ih U hW hc hqt h
      refine ⟨vm2, hw2, fun Q X d acts => ?_⟩
      have hcv : covers (⟨a0, b0, h0, ix⟩ : ExceptionTableEntry) f.pc = false := by
        cases hcx : covers (⟨a0, b0, h0, ix⟩ : ExceptionTableEntry) f.pc with
        | false => rfl
        | true =>
          simp [covers] at hcx
          exact absurd hcx hcov
      exact (W.findHandler_go_skip (t := tableOf t) hcv).trans (h2 Q X d acts)
section AMH
variable {l : Launch} {base : Nat} {g : Nat → Nat} {D : va_G} {cl : List vw_C} {dA : FieldType → ClassId} {tyl : List FieldType} {Ts Tw : List Cond} {fty : Nat → Nat → FieldType}
variable {kr : List (String × Nat × String × Nat)} {kz : List (String × String × String × Value)} {kA : am_KA} {fn : Nat → String × String × String} {kF : am_KF} {ko : Nat → Option String} {MT : Nat → Option am_M}
set_option maxHeartbeats 2000000 in
theorem am_catch_ok (hG : am_Good Ts) (hkw : ∀ w ∈ Tw, am_nk w = true) (hCts : ∀ mi M, MT mi = some M → am_CtOk MT cl Ts Tw M) (hXT : ∀ mi M, MT mi = some M → am_MOk cl Ts Tw fty kr kz fn M) (hOk : ∀ mi M, MT mi = some M → am_mT M ≠ [] → am_TOk cl Ts Tw M ∧ am_wd M ∈ Ts ∧ ∀ pc i len ix k mi' na h rc, am_mI M pc = some (i, len) → am_cal M i = some (ix, k, mi', na, h, rc) → ¬ 4 ≤ k → k = 2 ∧ h = none) :
    am_CatchOk l Ts Tw D cl dA tyl base g kr kz kA fn kF ko MT := by
  intro p e R s m args below meth c H locs cells slots Q ls lv st pc mi mi' ix k na rc len d x ci hp h i fs M M' ah ah1 hM hM' I hA hlv hi hcal hk4 hok hmet hat hhnd hf hlo hce hsl hle kk
  obtain ⟨q0, hq0, hKq0⟩ := am_hnd_in hhnd
  have hmT : am_mT M ≠ [] := fun h => by rw [h] at hq0; cases hq0
  obtain ⟨hTOk, hwd, hkind⟩ := hOk mi M hM hmT
  obtain ⟨hk2, hh0⟩ := hkind pc i len ix k mi' na h rc hi hcal hk4
  subst hk2; subst hh0
  obtain ⟨hdg, hlen2⟩ := (hXT mi M hM).1 _ _ _ hi
  obtain ⟨hC, hkind2⟩ := am_cal_spec hcal
  have hi2 : i = .invokevirtual ix := by
    rcases hkind2 with ⟨-, hk⟩ | ⟨-, hk⟩ | ⟨hi2, -⟩
    · omega
    · omega
    · exact hi2
  subst hi2
  have hl3 : len = 3 := beq_iff_eq.mp hlen2
  subst hl3
  obtain ⟨hCo', hlk, -, -, k2, -⟩ := (hCts mi M hM _ _ _ _ _ _ hC).2.2.2.2 hk4 M' hM'
  obtain ⟨hT0, hin, hsel, ⟨T, N, hcl⟩, hds⟩ := k2 rfl
  obtain ⟨o1, o2, o3, o4⟩ := am_cok_spec hok
  obtain ⟨c1, c2, c3, c4, c5⟩ := hCo'
  have hwdc := am_wd_code hT0
  have hcode : (am_wd M') ∈ Ts := c2
  rw [hwdc] at c2
  obtain ⟨hx, hb, hml, hown, hnm, hrt, hlk0, hts, hK, hKC, hTw, hnd⟩ := id I
  have o5 := o4
  obtain ⟨b, As, hAs⟩ : ∃ b As, (st.take na).reverse = Value.ref b :: As := by
    generalize (st.take na).reverse = q at o4
    unfold am_rcv at o4
    match q, o4 with
    | .ref b :: As, _ => exact ⟨b, As, rfl⟩
  rw [hAs] at hmet
  have hst0 := am_take (st := st) (na := na) hAs
  have hsk : am_sk base g st = (am_sk base g As).reverse ++ .ref (am_cr base g b) :: am_sk base g (st.drop na) := by
    have h9 : am_sk base g st = am_sk base g ((Value.ref b :: As).reverse ++ st.drop na) := by rw [← hst0]
    rw [h9]
    simp [am_sk, am_cv]
  have hlen : (am_sk base g As).length + 1 = na := by
    have h9 := congrArg List.length hAs
    simp at h9
    simp [am_sk]
    omega
  have hrecv : ∃ cell : Cell, H[am_cr base g b]? = some cell ∧ cell.vm.isStatics = false ∧ s.vm.findClass (am_y M').cls = some cell.cls := by
    rw [hAs] at o5
    simp only [am_rcv] at o5
    split at o5
    · next ci fs e1 =>
      have hci : ci = rc := beq_iff_eq.mp o5
      subst hci
      obtain ⟨-, -, h3⟩ := am_at_get (dA := dA) (base := base) (g := g) e1
      exact va_recv hK.1 hA.1 hcl h3
    · cases o5
  obtain ⟨cellB, hcB, hoB, hclB⟩ := hrecv
  intro S hS X
  subst hS
  rw [← hb] at hdg
  rw [hsk]
  have hpl : e.platform.magicAccessors = ({} : Platform).magicAccessors := by rw [X.admits.platform]
  -- the call
  obtain ⟨mk, methM, hnamed, hmethM, hstM, habM⟩ := Cond.instanceMethod_spec (hts _ hin)
  obtain ⟨methM', cM, hmethM', -, -, -, -, -, -, hsigM⟩ := Cond.code_spec hnamed (hts _ c2)
  cases hmethM.symm.trans hmethM'
  obtain ⟨cc2, r2, m2, q1, q2, q3, q4, kP, hkP, hkPi⟩ := Cond.selects_spec (hts _ hsel)
  cases hclB.symm.trans q1
  cases (State.methodFound?_of_named hnamed c4).symm.trans q2
  cases hnamed.symm.trans q3
  have hselP : selectMethod e.platform s.vm cellB.cls mk = .method mk := by rw [Launch.admits_selectMethod X.admits]; exact q4
  have hparam : (am_sk base g As).length = methM.sig.parameters.length := by
    rw [hsigM] at hds
    simp only [Option.map_some, Option.some.injEq] at hds
    omega
  obtain ⟨vm₁, X₁, hstep₁⟩ := X.invokevirtual hx hown (hts _ hlk) hnamed hmethM hstM hkP hkPi c4 (a := am_cr base g b) (cell := cellB) hcB
    (fun z h => by rw [h] at hoB; cases hoB) hselP hmethM habM hkP hkPi (g := F0 m pc ls ((am_sk base g As).reverse ++ .ref (am_cr base g b) :: am_sk base g (st.drop na))) rfl (argsL := am_sk base g As) (rest := am_sk base g (st.drop na)) hparam rfl hdg
  have hA1 : am_Pr D cl dA tyl base g kr kz kA fn kF ko Tw ah (S.setVm vm₁) := am_Pr.at hkw I hA rfl X₁.warmed
  have hw1 : ∀ w ∈ am_wd M' :: Ts, w.before (Value.ref (am_cr base g b) :: am_sk base g As).toArray (S.setVm vm₁) = true := fun w hw => by
    rcases List.mem_cons.mp hw with rfl | hw
    · exact word_at X₁.warmed (hG _ hcode) (hts _ hcode)
    · exact word_at X₁.warmed (hG _ hw) (hts _ hw)
  obtain ⟨t, B, L, X', hL, hBh, hPo, hsteps⟩ := am_thrown (rm := am_rm d ah ah1) (mc := ah1.length - ah.length) (ms := am_slots ah1 - am_slots ah) (Qc := fun st t => am_Po D cl dA base g ah1 st t) (free := fun q => base ≤ q) hmet X₁ (g := F0 m pc ls (am_sk base g (st.drop na))) (mk := mk) (a := (Value.ref (am_cr base g b) :: am_sk base g As).toArray) (maxL := am_n M') (bytes := am_b M') (ret := am_r M') rfl (by show ls.size = _; rw [hlv.1, hml]) hdg (lv_room (by rw [am_sk_cat]; exact o2)) (X₁.named hnamed) hf (by show 8 + (am_n M' + 11) + 64 * d ≤ R.locals; omega) hce hsl
    hw1 (hw1 _ (List.mem_cons_of_mem _ c2)) (hw1 _ (List.mem_cons_of_mem _ c3)) (am_Pr.blind hkw _ _ _ _ _ ⟨rfl, hA1⟩)
  obtain ⟨p1, p2, p3⟩ := hPo
  -- what was thrown
  obtain ⟨hx1, hx2, hx3⟩ := am_at_get (dA := dA) (base := base) (g := g) hat
  obtain ⟨cj0, C0, T0, -, hKj0, hcl0, -, -⟩ := hTOk q0 hq0
  have hcj0 : cj0 = ci := Option.some.inj (hKj0.symm.trans hKq0)
  subst hcj0
  obtain ⟨rr, hrr, cell, hcell, hccls, hcvm, -⟩ := p1 _ _ hx3
  have hrr0 : rr = (C0, T0, 0) := Option.some.inj (hrr.symm.trans hcl0)
  subst hrr0
  have hKn := hK.1.1 cj0 _ hcl0
  have hE : s.vm.findClass C0 = some cell.cls := by rw [hccls]; exact hKn.2.1
  have hobj : ∀ k, cell.vm ≠ .statics k := fun k h => by rw [hcvm] at h; cases h
  have hBW : s.WarmedH B.vm := X'.warmed
  -- the table
  have hwd2 : (Cond.codeWith (am_y M) (am_b M) (am_n M) (am_r M) (am_mT M)).before args s = true := by
    have h9 := hts _ hwd
    unfold am_wd at h9
    split at h9
    · next h8 => exact absurd h8 hmT
    · exact h9
  obtain ⟨m9, meth9, c9, hn9, hm9, hc9, -, -, htab, -, -, -⟩ := Cond.codeWith_spec hwd2
  cases hnd.symm.trans hn9
  have e1 : meth9 = meth := Option.some.inj (hm9.symm.trans X.method)
  subst e1
  have e2 : c9 = c := Option.some.inj (hc9.symm.trans X.code)
  subst e2
  obtain ⟨vm', hwv, hfind⟩ := am_search (f := F0 m pc ls (am_sk base g (st.drop na))) (a := am_cr base g x) (K := am_mK M) (ci := cj0) (hp := hp) hpl hown hts hkw hTw hE hobj (am_mT M) ((B.setTop (F0 m pc ls (am_sk base g (st.drop na)))).pushFrame (.throwing (am_cr base g x))) hBW (by show B.heap[am_cr base g x]? = some cell; rw [hBh]; exact hcell)
    (fun q hq => by
      obtain ⟨cj, C, T1, h1, h2, h3, h4, h5⟩ := hTOk q hq
      obtain ⟨h6, h7⟩ := h5 q0 hq0 cj0 C0 T0 hKq0 hcl0
      exact ⟨cj, C, h1, h2, h4, h6, h7⟩) hhnd
  have hFinds : am_Finds e ((B.setTop (F0 m pc ls (am_sk base g (st.drop na)))).pushFrame (.throwing (am_cr base g x))) (F0 m pc ls (am_sk base g (st.drop na))) (am_cr base g x) hp vm' := by
    intro Q2 X2 d2 acts2
    refine (W.findHandler_eq (meth := meth9) (code := c9) (by show B.vm.method? m = _; exact X'.method') X.code).trans ?_
    rw [← table_eq c9.exceptionTable.toList, htab]
    exact hfind Q2 X2 d2 acts2
  have X2 := X'.noted hwv
  have hAt1 : am_At D cl dA base g s.heap ah1 B.heap (locs ++ L) := by
    refine ⟨by rw [hBh]; exact p1, by rw [hBh]; exact p2, ?_, fun q g1 g2 => ?_, fun q hq => ?_⟩
    · have q1 := hA.2.2.1
      have q2 := hA.2.1
      rw [hBh, p2]
      omega
    · rw [hBh, p3 q (Nat.not_le.mp g2)]
      exact hA.2.2.2.1 q g1 g2
    · rcases List.mem_append.mp hq with h | h
      · exact hA.2.2.2.2 q h
      · exact hL q h
  obtain ⟨t2, a2, b2⟩ := kk ls B.heap (locs ++ L) hlv hAt1 (B.setVm vm') rfl X2
  refine ⟨t2, hstep₁ _ fun acts => ?_, b2⟩
  rw [doInvoke_state]
  exact hsteps.trans (am_caught X'.here hFinds a2)
end AMH
