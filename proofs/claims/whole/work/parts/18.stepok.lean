/-! THE ABSTRACT MACHINE: one step of a method is a step of the machine. -/
theorem am_one_spec {a : Option am_F} {ah ah' : am_H} {f' : am_F} (h : am_one a ah = some (f', ah')) : a = some f' ∧ ah' = ah := by
  unfold am_one at h
  split at h
  · cases h; exact ⟨rfl, rfl⟩
  · cases h
theorem am_or_spec {a b : Option am_F} {ah ah' : am_H} {f' : am_F} (h : am_or a b ah = some (f', ah')) : (a = some f' ∨ b = some f') ∧ ah' = ah := by
  unfold am_or at h
  split at h
  · cases h; exact ⟨Or.inl rfl, rfl⟩
  · obtain ⟨h1, h2⟩ := am_one_spec h
    exact ⟨Or.inr h1, h2⟩
section AMO
variable {p : Program} {l : Launch} {e : Env} {R : Room} {s : State} {m : MethodId} {args : Array Value} {below : List Frame} {meth : Method} {c : Code} {H : Heap} {locs : List Loc} {cells slots : Nat} {Q : State → Prop}
variable {pc base : Nat} {g : Nat → Nat} {ls : Array Slot} {lv : List (Nat × Value)} {st : List Value} {f' : am_F} {D : va_G} {cl : List vw_C} {dA : FieldType → ClassId} {tyl : List FieldType} {ah ah' : am_H} {Ts Tw : List Cond} {fty : Nat → Nat → FieldType}
variable {kr : List (String × Nat × String × Nat)} {kz : List (String × String × String × Value)} {kA : am_KA} {fn : Nat → String × String × String} {kF : am_KF} {ko : Nat → Option String} {M : am_M}
theorem am_GoH.same {nL : Nat} (kk : am_GoH p l e R s m args below meth c (cells + (ah'.length - ah.length)) (slots + (am_slots ah' - am_slots ah)) Q nL base g D cl dA f' ah') (h : ah'.length = ah.length ∧ am_slots ah' = am_slots ah) : am_GoH p l e R s m args below meth c cells slots Q nL base g D cl dA f' ah' := by
  rw [h.1, h.2, Nat.sub_self, Nat.sub_self] at kk
  exact kk
theorem am_GoH.stay {nL : Nat} (kk : am_GoH p l e R s m args below meth c (cells + (ah'.length - ah.length)) (slots + (am_slots ah' - am_slots ah)) Q nL base g D cl dA f' ah') (h : ah' = ah) (hA : am_At D cl dA base g s.heap ah H locs) : am_Go p l e R s m args below meth c H locs cells slots Q nL base g f' := by
  subst h
  exact fun ls hl => (kk.same ⟨rfl, rfl⟩) ls H locs hl hA
theorem am_dfl {i : Instr} {len : Nat} (I : am_In Ts Tw D cl dA tyl base g kr kz kA fn kF ko M p s m args meth c) (hA : am_At D cl dA base g s.heap ah H locs) (hdg : decode (am_b M) pc = .ok (i, len)) (hs : am_one (am_P (am_n M) i (pc, lv, st)) ah = some (f', ah')) (hlen : am_len i len = true) (hl : lv_has ls (am_n M) (am_lv base g lv)) (kk : am_GoH p l e R s m args below meth c (cells + (ah'.length - ah.length)) (slots + (am_slots ah' - am_slots ah)) Q (am_n M) base g D cl dA f' ah') : W p l e R s m args below meth c H locs cells slots Q (F0 m pc ls (am_sk base g st)) := by
  obtain ⟨h1, h2⟩ := am_one_spec hs
  exact am_P_ok I.1 I.2.1 h1 hdg hlen hl (kk.stay h2 hA)
set_option maxHeartbeats 4000000 in
theorem am_step_ok {i : Instr} {len : Nat} (G : am_Glo cl Ts fty tyl) (hM : am_MOk cl Ts Tw fty kr kz fn M) (I : am_In Ts Tw D cl dA tyl base g kr kz kA fn kF ko M p s m args meth c) (hA : am_At D cl dA base g s.heap ah H locs) (hi : am_mI M pc = some (i, len)) (hs : am_step cl fty tyl kA kF M i (pc, lv, st) ah = some (f', ah')) (hcells : cells + (ah'.length - ah.length) ≤ R.cells) (hslots : slots + (am_slots ah' - am_slots ah) ≤ R.slots) (hl : lv_has ls (am_n M) (am_lv base g lv)) (kk : am_GoH p l e R s m args below meth c (cells + (ah'.length - ah.length)) (slots + (am_slots ah' - am_slots ah)) Q (am_n M) base g D cl dA f' ah') : W p l e R s m args below meth c H locs cells slots Q (F0 m pc ls (am_sk base g st)) := by
  obtain ⟨hdg, hlen⟩ := hM.1 _ _ _ hi
  obtain ⟨gC, gi, gl, gz, gb, gt⟩ := G
  obtain ⟨hx, hb, hml, hown, hnm, hrt, hlk, hts, hK, hC, hTw, hnd⟩ := id I
  have hS := hA.2.2
  cases i
  case iaload =>
    have hlen : len = 1 := beq_iff_eq.mp hlen
    subst hlen
    obtain ⟨h1, h2⟩ := am_or_spec hs
    rcases h1 with h1 | h1
    · exact am_h_iaload hx hb hK gi hA h1 hdg hl (kk.stay h2 hA)
    · exact am_k_iaload hx hb hC hS h1 hdg hl (kk.stay h2 hA)
  case laload =>
    have hlen : len = 1 := beq_iff_eq.mp hlen
    subst hlen
    obtain ⟨h1, h2⟩ := am_or_spec hs
    rcases h1 with h1 | h1
    · exact am_h_laload hx hb hK gl hA h1 hdg hl (kk.stay h2 hA)
    · exact am_k_laload hx hb hC hS h1 hdg hl (kk.stay h2 hA)
  case baload =>
    have hlen : len = 1 := beq_iff_eq.mp hlen
    subst hlen
    obtain ⟨h1, h2⟩ := am_or_spec hs
    rcases h1 with h1 | h1
    · exact am_h_baload hx hb hK gz gb hA h1 hdg hl (kk.stay h2 hA)
    · exact am_k_baload hx hb hC hS h1 hdg hl (kk.stay h2 hA)
  case arraylength =>
    have hlen : len = 1 := beq_iff_eq.mp hlen
    subst hlen
    obtain ⟨h1, h2⟩ := am_or_spec hs
    rcases h1 with h1 | h1
    · exact am_h_alen hx hb hK hA h1 hdg hl (kk.stay h2 hA)
    · exact am_k_alen hx hb hC hS h1 hdg hl (kk.stay h2 hA)
  case aaload =>
    have hlen : len = 1 := beq_iff_eq.mp hlen
    subst hlen
    obtain ⟨h1, h2⟩ := am_one_spec hs
    exact am_h_aaload hx hb hK hA h1 hdg hl (kk.stay h2 hA)
  case iastore =>
    have hlen : len = 1 := beq_iff_eq.mp hlen
    subst hlen
    exact am_h_iastore hx hb hK gi hA hs hdg hl (kk.same (am_iast_sm hs))
  case lastore =>
    have hlen : len = 1 := beq_iff_eq.mp hlen
    subst hlen
    exact am_h_lastore hx hb hK gl hA hs hdg hl (kk.same (am_last_sm hs))
  case bastore =>
    have hlen : len = 1 := beq_iff_eq.mp hlen
    subst hlen
    exact am_h_bastore hx hb hK gz gb hA hs hdg hl (kk.same (am_bast_sm hs))
  case aastore =>
    have hlen : len = 1 := beq_iff_eq.mp hlen
    subst hlen
    exact am_h_aastore hx hb hK hA hs hdg hl (kk.same (am_aast_sm hs))
  case getfield ix =>
    have hlen : len = 3 := beq_iff_eq.mp hlen
    subst hlen
    obtain ⟨h1, h2⟩ := am_or_spec hs
    rcases h1 with h1 | h1
    · exact am_h_getfield hx hb hts hTw hown gC hM.2.1 hK hA h1 hdg hl (kk.stay h2 hA)
    · exact am_k_getfield hx hb hts hown hM.2.2.2.2.2.1 hC hS h1 hdg hl (kk.stay h2 hA)
  case putfield ix =>
    have hlen : len = 3 := beq_iff_eq.mp hlen
    subst hlen
    exact am_h_putfield hx hb hts hTw hown gC (by rw [hnm]; exact hM.2.2.1) hK hA hs hdg hl (kk.same (am_putf_sm hs))
  case getstatic ix =>
    have hlen : len = 3 := beq_iff_eq.mp hlen
    subst hlen
    obtain ⟨h1, h2⟩ := am_one_spec hs
    exact am_k_gets hx hb hts hTw hown hM.2.2.2.2.2.2.2 hC hS h1 hdg hl (kk.stay h2 hA)
  case ldc ix =>
    have hlen : len = 2 := beq_iff_eq.mp hlen
    subst hlen
    obtain ⟨h1, h2⟩ := am_one_spec hs
    exact am_k_ldc hx hb hts hown hM.2.2.2.2.2.2.1 hC h1 hdg hl (kk.stay h2 hA)
  case ldc_w ix =>
    have hlen : len = 3 := beq_iff_eq.mp hlen
    subst hlen
    obtain ⟨h1, h2⟩ := am_one_spec hs
    exact am_k_ldcw hx hb hts hown hM.2.2.2.2.2.2.1 h1 hdg hl (kk.stay h2 hA)
  case ldc2_w ix =>
    have hlen : len = 3 := beq_iff_eq.mp hlen
    subst hlen
    obtain ⟨h1, h2⟩ := am_one_spec hs
    exact am_k_ldc2 hx hb hts hown hM.2.2.2.2.2.2.1 h1 hdg hl (kk.stay h2 hA)
  case new ix =>
    have hlen : len = 3 := beq_iff_eq.mp hlen
    subst hlen
    have h1 := (am_new_sm hs).1
    rw [show ah'.length - ah.length = 1 by omega] at hcells kk
    exact am_h_new hx hb hts hown gC hM.2.2.2.1 hK hA hs hcells hslots hdg hl kk
  case newarray t =>
    have hlen : len = 2 := beq_iff_eq.mp hlen
    subst hlen
    have h1 := (am_newa_sm hs).1
    rw [show ah'.length - ah.length = 1 by omega] at hcells kk
    exact am_h_newa hx hb hts gt hK hA hs hcells hslots hdg hl kk
  case anewarray ix =>
    have hlen : len = 3 := beq_iff_eq.mp hlen
    subst hlen
    have h1 := (am_newq_sm hs).1
    rw [show ah'.length - ah.length = 1 by omega] at hcells kk
    exact am_h_newq hx hb hts hTw hown hM.2.2.2.2.1 hK hA hs hcells hslots hdg hl kk
  all_goals first | exact am_dfl I hA hdg hs hlen hl kk | (exfalso; simp [am_step, am_one, am_P] at hs; done)
end AMO
