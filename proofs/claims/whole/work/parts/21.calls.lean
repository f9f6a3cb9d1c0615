/-! THE ABSTRACT MACHINE: calls that come back. -/
theorem am_wd_code {M : am_M} (h : am_mT M = []) : am_wd M = .code (am_y M) (am_b M) (am_n M) (am_r M) := by simp [am_wd, h]
theorem am_cok_spec {ko : Nat → Option String} {M : am_M} {k na rc : Nat} {st : List Value} {ah : am_H} (h : am_cok ko M k na rc st ah = true) : na ≤ st.length ∧ ((st.drop na).map fun v => v.category).sum ≤ 8 ∧ (lg_sl (st.take na).reverse).length ≤ am_n M ∧ am_rcv ko (am_y M).cls k rc (st.take na).reverse ah = true := by
  simpa [am_cok] using h
theorem am_GoodIn {Ts : List Cond} (h : am_Good Ts) {w : Cond} (hw : w ∈ Ts) : GoodIn Ts (w :: Ts) := by
  intro u hu
  rcases List.mem_cons.mp hu with rfl | hu
  · exact ⟨hw, h _ hw⟩
  · exact ⟨hu, h _ hu⟩
theorem am_take {st : List Value} {na : Nat} {As : List Value} (h : (st.take na).reverse = As) : st = As.reverse ++ st.drop na := by
  rw [← h, List.reverse_reverse, List.take_append_drop]
theorem am_sk_rev (base : Nat) (g : Nat → Nat) (a b : List Value) : am_sk base g (a.reverse ++ b) = (am_sk base g a).reverse ++ am_sk base g b := by
  simp [am_sk]
section AMD
variable {p : Program} {l : Launch} {e : Env} {R : Room} {s : State} {m : MethodId} {args : Array Value} {below : List Frame} {meth : Method} {c : Code} {H : Heap} {locs : List Loc} {cells slots : Nat} {Q : State → Prop}
variable {pc base : Nat} {g : Nat → Nat} {ls : Array Slot} {lv : List (Nat × Value)} {st : List Value} {D : va_G} {cl : List vw_C} {dA : FieldType → ClassId} {tyl : List FieldType} {ah ah1 : am_H} {Ts Tw : List Cond} {fty : Nat → Nat → FieldType}
variable {kr : List (String × Nat × String × Nat)} {kz : List (String × String × String × Value)} {kA : am_KA} {fn : Nat → String × String × String} {kF : am_KF} {ko : Nat → Option String} {M M' : am_M} {v : Option Value} {d ix na rc : Nat} {h : Option String}
theorem am_callS (hG : am_Good Ts) (hkw : ∀ w ∈ Tw, am_nk w = true) (I : am_In Ts Tw D cl dA tyl base g kr kz kA fn kF ko M p s m args meth c) (hA : am_At D cl dA base g s.heap ah H locs) (hc : am_COk Ts M') (hT0 : am_mT M' = []) (hM : Met l (am_y M') (am_wd M' :: Ts) (am_rm d ah ah1) (va_Pc (am_sk base g (st.take na).reverse) (am_Pr D cl dA tyl base g kr kz kA fn kF ko Tw ah)) (fun _ st oc t => oc = .returned (v.map (am_cv base g)) ∧ am_Po D cl dA base g ah1 st t) (ah1.length - ah.length) (am_slots ah1 - am_slots ah) (fun q => base ≤ q)) (hlk : match h with
    | none => Cond.methodLink (am_y M).cls ix (am_y M') ∈ Ts
    | some host => Cond.methodLinkNest (am_y M).cls ix (am_y M') host ∈ Tw) (hst : Cond.static (am_y M') ∈ Ts) (hds : (parseMethodDescriptor (am_y M').desc).map (fun d => d.parameters.length) = some na) (hok : am_cok ko M' 0 na rc st ah = true) (hf : d + 1 ≤ R.frames) (hlo : 64 * (d + 1) ≤ R.locals) (hce : cells + (ah1.length - ah.length) ≤ R.cells) (hsl : slots + (am_slots ah1 - am_slots ah) ≤ R.slots) (hle : ah.length ≤ ah1.length) (hdg : decode (am_b M) pc = .ok (.invokestatic ix, 3)) (hl : lv_has ls (am_n M) (am_lv base g lv)) (kk : ∀ (H1 : Heap) (locs1 : List Loc), am_At D cl dA base g s.heap ah1 H1 locs1 → W p l e R s m args below meth c H1 locs1 (cells + (ah1.length - ah.length)) (slots + (am_slots ah1 - am_slots ah)) Q (F0 m (pc + 3) ls (am_sk base g (v.toList ++ st.drop na)))) : W p l e R s m args below meth c H locs cells slots Q (F0 m pc ls (am_sk base g st)) := by
  rw [am_wd_code hT0] at hM
  obtain ⟨o1, o2, o3, o4⟩ := am_cok_spec hok
  obtain ⟨c1, c2, c3, c4, c5⟩ := hc
  rw [am_wd_code hT0] at c2
  have hgd := am_GoodIn hG c2
  obtain ⟨hx, hb, hml, hown, hnm, hrt, hlk0, hts, hK, hC, hTw, hnd⟩ := id I
  have hroom : (am_rm d ah ah1).frames + 1 ≤ R.frames ∧ 8 + (am_n M' + 11) + (am_rm d ah ah1).locals ≤ R.locals := ⟨hf, by show 8 + (am_n M' + 11) + 64 * d ≤ R.locals; omega⟩
  have ekk : ∀ (H1 : Heap) (locs1 : List Loc), am_At D cl dA base g s.heap ah1 H1 locs1 → W p l e R s m args below meth c H1 locs1 (cells + (ah1.length - ah.length)) (slots + (am_slots ah1 - am_slots ah)) Q (F0 m (pc + 3) ls ((v.map (am_cv base g)).toList ++ am_sk base g (st.drop na))) := fun H1 locs1 h1 => by
    have k1 := kk H1 locs1 h1
    rw [show am_sk base g (v.toList ++ st.drop na) = (v.map (am_cv base g)).toList ++ am_sk base g (st.drop na) by cases v <;> simp [am_sk]] at k1
    exact k1
  have hst0 := am_take (st := st) (na := na) rfl
  have hsk : am_sk base g st = (am_sk base g (st.take na).reverse).reverse ++ am_sk base g (st.drop na) := by rw [← am_sk_rev, ← hst0]
  have hlen : (am_sk base g (st.take na).reverse).length = na := by simp [am_sk]; omega
  rw [hsk]
  refine am_back (v := v.map (am_cv base g)) (rest := am_sk base g (st.drop na)) ?_ hA hK.2 hle ekk
  cases h with
  | none => exact va_runS (rest := am_sk base g (st.drop na)) ⟨hx, hb, hml, hown, hts⟩ hM ⟨callB_of na hts hgd rfl rfl rfl (hts _ c3) (hts _ hlk) ⟨c4.1, c4.2, hds⟩ hroom, hts _ hst⟩ ⟨am_Pr.blind hkw _, fun U hU hW => ⟨rfl, am_Pr.at hkw I hA hU hW⟩⟩ rfl hlen hl.1 rfl (lv_room (by rw [am_sk_cat]; exact o2)) hdg ⟨hce, hsl⟩
  | some host => exact va_runSN (rest := am_sk base g (st.drop na)) ⟨hx, hb, hml, hown, hts⟩ hM ⟨va_cnB na hts hgd rfl rfl rfl (hTw _ hlk) (hts _ c3) ⟨c4.1, c4.2, hds⟩ hroom, hts _ hst, trivial⟩ ⟨am_Pr.blind hkw _, fun U hU hW => ⟨rfl, am_Pr.at hkw I hA hU hW⟩⟩ rfl hlen hl.1 rfl (lv_room (by rw [am_sk_cat]; exact o2)) hdg ⟨hce, hsl⟩
theorem am_callI (hG : am_Good Ts) (hkw : ∀ w ∈ Tw, am_nk w = true) (I : am_In Ts Tw D cl dA tyl base g kr kz kA fn kF ko M p s m args meth c) (hA : am_At D cl dA base g s.heap ah H locs) (hc : am_COk Ts M') (hT0 : am_mT M' = []) (hM : Met l (am_y M') (am_wd M' :: Ts) (am_rm d ah ah1) (va_Pc (am_sk base g (st.take na).reverse) (am_Pr D cl dA tyl base g kr kz kA fn kF ko Tw ah)) (fun _ st oc t => oc = .returned (v.map (am_cv base g)) ∧ am_Po D cl dA base g ah1 st t) (ah1.length - ah.length) (am_slots ah1 - am_slots ah) (fun q => base ≤ q)) (hlk : match h with
    | none => Cond.methodLink (am_y M).cls ix (am_y M') ∈ Ts
    | some host => Cond.methodLinkNest (am_y M).cls ix (am_y M') host ∈ Tw) (hin : Cond.instanceMethod (am_y M') ∈ Ts) (hnm1 : (am_y M').name = "<init>") (hr0 : am_r M' = none) (hds : (parseMethodDescriptor (am_y M').desc).map (fun d => d.parameters.length + 1) = some na) (hok : am_cok ko M' 1 na rc st ah = true) (hf : d + 1 ≤ R.frames) (hlo : 64 * (d + 1) ≤ R.locals) (hce : cells + (ah1.length - ah.length) ≤ R.cells) (hsl : slots + (am_slots ah1 - am_slots ah) ≤ R.slots) (hle : ah.length ≤ ah1.length) (hdg : decode (am_b M) pc = .ok (.invokespecial ix, 3)) (hl : lv_has ls (am_n M) (am_lv base g lv)) (kk : ∀ (H1 : Heap) (locs1 : List Loc), am_At D cl dA base g s.heap ah1 H1 locs1 → W p l e R s m args below meth c H1 locs1 (cells + (ah1.length - ah.length)) (slots + (am_slots ah1 - am_slots ah)) Q (F0 m (pc + 3) ls (am_sk base g (v.toList ++ st.drop na)))) : W p l e R s m args below meth c H locs cells slots Q (F0 m pc ls (am_sk base g st)) := by
  rw [am_wd_code hT0] at hM
  obtain ⟨o1, o2, o3, o4⟩ := am_cok_spec hok
  obtain ⟨c1, c2, c3, c4, c5⟩ := hc
  rw [am_wd_code hT0] at c2
  have hgd := am_GoodIn hG c2
  obtain ⟨hx, hb, hml, hown, hnm, hrt, hlk0, hts, hK, hC, hTw, hnd⟩ := id I
  have hroom : (am_rm d ah ah1).frames + 1 ≤ R.frames ∧ 8 + (am_n M' + 11) + (am_rm d ah ah1).locals ≤ R.locals := ⟨hf, by show 8 + (am_n M' + 11) + 64 * d ≤ R.locals; omega⟩
  have ekk : ∀ (H1 : Heap) (locs1 : List Loc), am_At D cl dA base g s.heap ah1 H1 locs1 → W p l e R s m args below meth c H1 locs1 (cells + (ah1.length - ah.length)) (slots + (am_slots ah1 - am_slots ah)) Q (F0 m (pc + 3) ls ((v.map (am_cv base g)).toList ++ am_sk base g (st.drop na))) := fun H1 locs1 h1 => by
    have k1 := kk H1 locs1 h1
    rw [show am_sk base g (v.toList ++ st.drop na) = (v.map (am_cv base g)).toList ++ am_sk base g (st.drop na) by cases v <;> simp [am_sk]] at k1
    exact k1
  obtain ⟨b, As, hAs⟩ : ∃ b As, (st.take na).reverse = Value.ref b :: As := by
    generalize (st.take na).reverse = q at o4
    unfold am_rcv at o4
    match q, o4 with
    | .ref b :: As, _ => exact ⟨b, As, rfl⟩
  rw [hAs] at hM
  have hst0 := am_take (st := st) (na := na) hAs
  have hsk : am_sk base g st = (am_sk base g As).reverse ++ .ref (am_cr base g b) :: am_sk base g (st.drop na) := by
    have h9 : am_sk base g st = am_sk base g ((Value.ref b :: As).reverse ++ st.drop na) := by rw [← hst0]
    rw [h9]
    simp [am_sk, am_cv]
  have hlen : (am_sk base g As).length + 1 = na := by
    have h9 := congrArg List.length hAs
    simp at h9
    simp [am_sk]
    omega
  obtain ⟨nn, hnn⟩ : ∃ nn, na = nn + 1 := ⟨_, hlen.symm⟩
  have hds2 : (parseMethodDescriptor (am_y M').desc).map (fun d => d.parameters.length) = some nn := by
    cases hp : parseMethodDescriptor (am_y M').desc with
    | none => rw [hp] at hds; cases hds
    | some x =>
      rw [hp] at hds
      simp only [Option.map_some, Option.some.injEq] at hds ⊢
      omega
  rw [hsk]
  refine am_back (v := v.map (am_cv base g)) (rest := am_sk base g (st.drop na)) ?_ hA hK.2 hle ekk
  rw [hr0] at hM hgd c2
  cases h with
  | none => exact va_runI (b := am_cr base g b) (As := am_sk base g As) (rest := am_sk base g (st.drop na)) ⟨hx, hb, hml, hown, hts⟩ hM ⟨callB_of nn hts hgd rfl rfl rfl (hts _ c3) (hts _ hlk) ⟨c4.1, c4.2, hds2⟩ hroom, hnm1, hts _ hin⟩ ⟨am_Pr.blind hkw _, fun U hU hW => ⟨rfl, am_Pr.at hkw I hA hU hW⟩⟩ rfl (by omega) hl.1 rfl (lv_room (by rw [am_sk_cat]; exact o2)) hdg ⟨hce, hsl⟩
  | some host => exact va_runIN (b := am_cr base g b) (As := am_sk base g As) (rest := am_sk base g (st.drop na)) ⟨hx, hb, hml, hown, hts⟩ hM ⟨va_cnB nn hts hgd rfl rfl rfl (hTw _ hlk) (hts _ c3) ⟨c4.1, c4.2, hds2⟩ hroom, hnm1, hts _ hin⟩ ⟨am_Pr.blind hkw _, fun U hU hW => ⟨rfl, am_Pr.at hkw I hA hU hW⟩⟩ rfl (by omega) hl.1 rfl (lv_room (by rw [am_sk_cat]; exact o2)) hdg ⟨hce, hsl⟩
theorem am_callV (hG : am_Good Ts) (hkw : ∀ w ∈ Tw, am_nk w = true) (I : am_In Ts Tw D cl dA tyl base g kr kz kA fn kF ko M p s m args meth c) (hA : am_At D cl dA base g s.heap ah H locs) (hc : am_COk Ts M') (hT0 : am_mT M' = []) (hM : Met l (am_y M') (am_wd M' :: Ts) (am_rm d ah ah1) (va_Pc (am_sk base g (st.take na).reverse) (am_Pr D cl dA tyl base g kr kz kA fn kF ko Tw ah)) (fun _ st oc t => oc = .returned (v.map (am_cv base g)) ∧ am_Po D cl dA base g ah1 st t) (ah1.length - ah.length) (am_slots ah1 - am_slots ah) (fun q => base ≤ q)) (hlk : match h with
    | none => Cond.methodLink (am_y M).cls ix (am_y M') ∈ Ts
    | some host => Cond.methodLinkNest (am_y M).cls ix (am_y M') host ∈ Tw) (hin : Cond.instanceMethod (am_y M') ∈ Ts) (hsel : Cond.selects (am_y M').cls (am_y M') (am_y M') ∈ Ts) {T : u_T} {N : Nat} (hcl : cl[rc]? = some ((am_y M').cls, T, N)) (hds : (parseMethodDescriptor (am_y M').desc).map (fun d => d.parameters.length + 1) = some na) (hok : am_cok ko M' 2 na rc st ah = true) (hf : d + 1 ≤ R.frames) (hlo : 64 * (d + 1) ≤ R.locals) (hce : cells + (ah1.length - ah.length) ≤ R.cells) (hsl : slots + (am_slots ah1 - am_slots ah) ≤ R.slots) (hle : ah.length ≤ ah1.length) (hdg : decode (am_b M) pc = .ok (.invokevirtual ix, 3)) (hl : lv_has ls (am_n M) (am_lv base g lv)) (kk : ∀ (H1 : Heap) (locs1 : List Loc), am_At D cl dA base g s.heap ah1 H1 locs1 → W p l e R s m args below meth c H1 locs1 (cells + (ah1.length - ah.length)) (slots + (am_slots ah1 - am_slots ah)) Q (F0 m (pc + 3) ls (am_sk base g (v.toList ++ st.drop na)))) : W p l e R s m args below meth c H locs cells slots Q (F0 m pc ls (am_sk base g st)) := by
  rw [am_wd_code hT0] at hM
  obtain ⟨o1, o2, o3, o4⟩ := am_cok_spec hok
  obtain ⟨c1, c2, c3, c4, c5⟩ := hc
  rw [am_wd_code hT0] at c2
  have hgd := am_GoodIn hG c2
  obtain ⟨hx, hb, hml, hown, hnm, hrt, hlk0, hts, hK, hC, hTw, hnd⟩ := id I
  have hroom : (am_rm d ah ah1).frames + 1 ≤ R.frames ∧ 8 + (am_n M' + 11) + (am_rm d ah ah1).locals ≤ R.locals := ⟨hf, by show 8 + (am_n M' + 11) + 64 * d ≤ R.locals; omega⟩
  have ekk : ∀ (H1 : Heap) (locs1 : List Loc), am_At D cl dA base g s.heap ah1 H1 locs1 → W p l e R s m args below meth c H1 locs1 (cells + (ah1.length - ah.length)) (slots + (am_slots ah1 - am_slots ah)) Q (F0 m (pc + 3) ls ((v.map (am_cv base g)).toList ++ am_sk base g (st.drop na))) := fun H1 locs1 h1 => by
    have k1 := kk H1 locs1 h1
    rw [show am_sk base g (v.toList ++ st.drop na) = (v.map (am_cv base g)).toList ++ am_sk base g (st.drop na) by cases v <;> simp [am_sk]] at k1
    exact k1
  have o5 := o4
  obtain ⟨b, As, hAs⟩ : ∃ b As, (st.take na).reverse = Value.ref b :: As := by
    generalize (st.take na).reverse = q at o4
    unfold am_rcv at o4
    match q, o4 with
    | .ref b :: As, _ => exact ⟨b, As, rfl⟩
  rw [hAs] at hM
  have hst0 := am_take (st := st) (na := na) hAs
  have hsk : am_sk base g st = (am_sk base g As).reverse ++ .ref (am_cr base g b) :: am_sk base g (st.drop na) := by
    have h9 : am_sk base g st = am_sk base g ((Value.ref b :: As).reverse ++ st.drop na) := by rw [← hst0]
    rw [h9]
    simp [am_sk, am_cv]
  have hlen : (am_sk base g As).length + 1 = na := by
    have h9 := congrArg List.length hAs
    simp at h9
    simp [am_sk]
    omega
  obtain ⟨nn, hnn⟩ : ∃ nn, na = nn + 1 := ⟨_, hlen.symm⟩
  have hds2 : (parseMethodDescriptor (am_y M').desc).map (fun d => d.parameters.length) = some nn := by
    cases hp : parseMethodDescriptor (am_y M').desc with
    | none => rw [hp] at hds; cases hds
    | some x =>
      rw [hp] at hds
      simp only [Option.map_some, Option.some.injEq] at hds ⊢
      omega
  rw [hsk]
  refine am_back (v := v.map (am_cv base g)) (rest := am_sk base g (st.drop na)) ?_ hA hK.2 hle ekk
  have hrecv : ∃ cell : Cell, H[am_cr base g b]? = some cell ∧ cell.vm.isStatics = false ∧ s.vm.findClass (am_y M').cls = some cell.cls := by
    rw [hAs] at o5
    simp only [am_rcv] at o5
    split at o5
    · next ci fs e1 =>
      have hci : ci = rc := beq_iff_eq.mp o5
      subst hci
      obtain ⟨-, -, h3⟩ := am_at_get (dA := dA) (base := base) (g := g) e1
      exact va_recv hK.1 hA.1 hcl h3
    · cases o5
  cases h with
  | none => exact va_runV (b := am_cr base g b) (As := am_sk base g As) (rest := am_sk base g (st.drop na)) ⟨hx, hb, hml, hown, hts⟩ hM ⟨callB_of nn hts hgd rfl rfl rfl (hts _ c3) (hts _ hlk) ⟨c4.1, c4.2, hds2⟩ hroom, hts _ hin, hts _ hsel⟩ ⟨am_Pr.blind hkw _, hrecv, fun U hU hW => ⟨rfl, am_Pr.at hkw I hA hU hW⟩⟩ rfl (by omega) hl.1 rfl (lv_room (by rw [am_sk_cat]; exact o2)) hdg ⟨hce, hsl⟩
  | some host => exact va_runVN (b := am_cr base g b) (As := am_sk base g As) (rest := am_sk base g (st.drop na)) ⟨hx, hb, hml, hown, hts⟩ hM ⟨va_cnB nn hts hgd rfl rfl rfl (hTw _ hlk) (hts _ c3) ⟨c4.1, c4.2, hds2⟩ hroom, hts _ hin, hts _ hsel⟩ ⟨am_Pr.blind hkw _, hrecv, fun U hU hW => ⟨rfl, am_Pr.at hkw I hA hU hW⟩⟩ rfl (by omega) hl.1 rfl (lv_room (by rw [am_sk_cat]; exact o2)) hdg ⟨hce, hsl⟩
theorem am_callK (hG : am_Good Ts) (hkw : ∀ w ∈ Tw, am_nk w = true) (I : am_In Ts Tw D cl dA tyl base g kr kz kA fn kF ko M p s m args meth c) (hA : am_At D cl dA base g s.heap ah H locs) (hc : am_COk Ts M') (hT0 : am_mT M' = []) (hM : Met l (am_y M') (am_wd M' :: Ts) (am_rm d ah ah1) (va_Pc (am_sk base g (st.take na).reverse) (am_Pr D cl dA tyl base g kr kz kA fn kF ko Tw ah)) (fun _ st oc t => oc = .returned (v.map (am_cv base g)) ∧ am_Po D cl dA base g ah1 st t) (ah1.length - ah.length) (am_slots ah1 - am_slots ah) (fun q => base ≤ q)) (hlk : match h with
    | none => Cond.methodLink (am_y M).cls ix (am_y M') ∈ Ts
    | some host => Cond.methodLinkNest (am_y M).cls ix (am_y M') host ∈ Tw) (hin : Cond.instanceMethod (am_y M') ∈ Ts) (hsel : Cond.selects (am_y M').cls (am_y M') (am_y M') ∈ Ts) (hds : (parseMethodDescriptor (am_y M').desc).map (fun d => d.parameters.length + 1) = some na) (hok : am_cok ko M' 3 na rc st ah = true) (hf : d + 1 ≤ R.frames) (hlo : 64 * (d + 1) ≤ R.locals) (hce : cells + (ah1.length - ah.length) ≤ R.cells) (hsl : slots + (am_slots ah1 - am_slots ah) ≤ R.slots) (hle : ah.length ≤ ah1.length) (hdg : decode (am_b M) pc = .ok (.invokevirtual ix, 3)) (hl : lv_has ls (am_n M) (am_lv base g lv)) (kk : ∀ (H1 : Heap) (locs1 : List Loc), am_At D cl dA base g s.heap ah1 H1 locs1 → W p l e R s m args below meth c H1 locs1 (cells + (ah1.length - ah.length)) (slots + (am_slots ah1 - am_slots ah)) Q (F0 m (pc + 3) ls (am_sk base g (v.toList ++ st.drop na)))) : W p l e R s m args below meth c H locs cells slots Q (F0 m pc ls (am_sk base g st)) := by
  rw [am_wd_code hT0] at hM
  obtain ⟨o1, o2, o3, o4⟩ := am_cok_spec hok
  obtain ⟨c1, c2, c3, c4, c5⟩ := hc
  rw [am_wd_code hT0] at c2
  have hgd := am_GoodIn hG c2
  obtain ⟨hx, hb, hml, hown, hnm, hrt, hlk0, hts, hK, hC, hTw, hnd⟩ := id I
  have hroom : (am_rm d ah ah1).frames + 1 ≤ R.frames ∧ 8 + (am_n M' + 11) + (am_rm d ah ah1).locals ≤ R.locals := ⟨hf, by show 8 + (am_n M' + 11) + 64 * d ≤ R.locals; omega⟩
  have ekk : ∀ (H1 : Heap) (locs1 : List Loc), am_At D cl dA base g s.heap ah1 H1 locs1 → W p l e R s m args below meth c H1 locs1 (cells + (ah1.length - ah.length)) (slots + (am_slots ah1 - am_slots ah)) Q (F0 m (pc + 3) ls ((v.map (am_cv base g)).toList ++ am_sk base g (st.drop na))) := fun H1 locs1 h1 => by
    have k1 := kk H1 locs1 h1
    rw [show am_sk base g (v.toList ++ st.drop na) = (v.map (am_cv base g)).toList ++ am_sk base g (st.drop na) by cases v <;> simp [am_sk]] at k1
    exact k1
  have o5 := o4
  obtain ⟨b, As, hAs⟩ : ∃ b As, (st.take na).reverse = Value.ref b :: As := by
    generalize (st.take na).reverse = q at o4
    unfold am_rcv at o4
    match q, o4 with
    | .ref b :: As, _ => exact ⟨b, As, rfl⟩
  rw [hAs] at hM
  have hst0 := am_take (st := st) (na := na) hAs
  have hsk : am_sk base g st = (am_sk base g As).reverse ++ .ref (am_cr base g b) :: am_sk base g (st.drop na) := by
    have h9 : am_sk base g st = am_sk base g ((Value.ref b :: As).reverse ++ st.drop na) := by rw [← hst0]
    rw [h9]
    simp [am_sk, am_cv]
  have hlen : (am_sk base g As).length + 1 = na := by
    have h9 := congrArg List.length hAs
    simp at h9
    simp [am_sk]
    omega
  obtain ⟨nn, hnn⟩ : ∃ nn, na = nn + 1 := ⟨_, hlen.symm⟩
  have hds2 : (parseMethodDescriptor (am_y M').desc).map (fun d => d.parameters.length) = some nn := by
    cases hp : parseMethodDescriptor (am_y M').desc with
    | none => rw [hp] at hds; cases hds
    | some x =>
      rw [hp] at hds
      simp only [Option.map_some, Option.some.injEq] at hds ⊢
      omega
  rw [hsk]
  refine am_back (v := v.map (am_cv base g)) (rest := am_sk base g (st.drop na)) ?_ hA hK.2 hle ekk
  have hrecv : ∃ cell : Cell, H[am_cr base g b]? = some cell ∧ cell.vm.isStatics = false ∧ s.vm.findClass (am_y M').cls = some cell.cls := by
    rw [hAs] at o5
    simp only [am_rcv] at o5
    split at o5
    · next C1 e1 =>
      have h9 : ¬ b < am_big ∧ C1 = (am_y M').cls := by simpa using o5
      obtain ⟨hbig, hC1⟩ := h9
      subst hC1
      rw [am_cr_big hbig]
      exact va_Orecv (hC.2.2.2.2 _ _ e1) hA.2.2
    · cases o5
  cases h with
  | none => exact va_runV (b := am_cr base g b) (As := am_sk base g As) (rest := am_sk base g (st.drop na)) ⟨hx, hb, hml, hown, hts⟩ hM ⟨callB_of nn hts hgd rfl rfl rfl (hts _ c3) (hts _ hlk) ⟨c4.1, c4.2, hds2⟩ hroom, hts _ hin, hts _ hsel⟩ ⟨am_Pr.blind hkw _, hrecv, fun U hU hW => ⟨rfl, am_Pr.at hkw I hA hU hW⟩⟩ rfl (by omega) hl.1 rfl (lv_room (by rw [am_sk_cat]; exact o2)) hdg ⟨hce, hsl⟩
  | some host => exact va_runVN (b := am_cr base g b) (As := am_sk base g As) (rest := am_sk base g (st.drop na)) ⟨hx, hb, hml, hown, hts⟩ hM ⟨va_cnB nn hts hgd rfl rfl rfl (hTw _ hlk) (hts _ c3) ⟨c4.1, c4.2, hds2⟩ hroom, hts _ hin, hts _ hsel⟩ ⟨am_Pr.blind hkw _, hrecv, fun U hU hW => ⟨rfl, am_Pr.at hkw I hA hU hW⟩⟩ rfl (by omega) hl.1 rfl (lv_room (by rw [am_sk_cat]; exact o2)) hdg ⟨hce, hsl⟩
end AMD
