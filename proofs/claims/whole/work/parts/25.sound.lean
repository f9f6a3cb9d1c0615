/-! THE ABSTRACT MACHINE IS SOUND: the induction. -/
section AMZ
variable {l : Launch} {base : Nat} {g : Nat → Nat} {D : va_G} {cl : List vw_C} {dA : FieldType → ClassId} {tyl : List FieldType} {Ts Tw : List Cond} {fty : Nat → Nat → FieldType}
variable {kr : List (String × Nat × String × Nat)} {kz : List (String × String × String × Value)} {kA : am_KA} {fn : Nat → String × String × String} {kF : am_KF} {ko : Nat → Option String} {MT : Nat → Option am_M}
/-- what is shown of a run -/
def am_Ok (l : Launch) (Ts Tw : List Cond) (D : va_G) (cl : List vw_C) (dA : FieldType → ClassId) (tyl : List FieldType) (base : Nat) (g : Nat → Nat) (kr : List (String × Nat × String × Nat)) (kz : List (String × String × String × Value)) (kA : am_KA) (fn : Nat → String × String × String) (kF : am_KF) (ko : Nat → Option String) (M : am_M) (d : Nat) (f : am_F) (ah : am_H) (r : am_A) (ah' : am_H) : Prop :=
  ∀ (p : Program) (e : Env) (R : Room) (s : State) (m : MethodId) (args : Array Value) (below : List Frame) (meth : Method) (c : Code) (H : Heap) (locs : List Loc) (Q : State → Prop) (ls : Array Slot) (c0 s0 : Nat), am_In Ts Tw D cl dA tyl base g kr kz kA fn kF ko M p s m args meth c → am_At D cl dA base g s.heap ah H locs → lv_has ls (am_n M) (am_lv base g f.2.1) → c0 ≤ ah.length → s0 ≤ am_slots ah → d ≤ R.frames → 64 * d ≤ R.locals → ah'.length - c0 ≤ R.cells → am_slots ah' - s0 ≤ R.slots → am_End l D cl dA base g M p e R s m args below meth c Q c0 s0 r ah' →
  W p l e R s m args below meth c H locs (ah.length - c0) (am_slots ah - s0) Q (F0 m f.1 ls (am_sk base g f.2.2))
theorem am_Ok.met {M : am_M} {d : Nat} {As : List Value} {ah ah1 : am_H} {v : Option Value} (hc : am_COk Ts M) (hsl : (lg_sl As).length ≤ am_n M) (h : am_Ok l Ts Tw D cl dA tyl base g kr kz kA fn kF ko M d (0, lv_args 0 As, []) ah (.inl v) ah1) :
    Met l (am_y M) (am_wd M :: Ts) (am_rm d ah ah1) (va_Pc (am_sk base g As) (am_Pr D cl dA tyl base g kr kz kA fn kF ko Tw ah)) (fun _ st oc t => oc = .returned (v.map (am_cv base g)) ∧ am_Po D cl dA base g ah1 st t) (ah1.length - ah.length) (am_slots ah1 - am_slots ah) (fun q => base ≤ q) := by
  refine am_toMet hc hsl (fun p e s m args below meth c ls I hA hl => ?_)
  have h1 := h p e (am_rm d ah ah1) s m args below meth c s.heap [] _ ls ah.length (am_slots ah) I hA hl (Nat.le_refl _) (Nat.le_refl _) (Nat.le_refl _) (Nat.le_refl _) (Nat.le_refl _) (Nat.le_refl _) (am_endR I.1 I.2.1 I.2.2.2.2.2.1 I.2.2.2.2.2.2.1 I.2.2.2.2.2.2.2.2.1.2)
  rw [Nat.sub_self, Nat.sub_self] at h1
  exact h1
theorem am_Ok.metT {M : am_M} {d mi : Nat} {As : List Value} {ah ah1 : am_H} {x : Nat} (hX : am_ThrowOk l Ts Tw D cl dA tyl base g kr kz kA fn kF ko MT) (hMT : MT mi = some M) (hc : am_COk Ts M) (hT : am_mT M = []) (hsl : (lg_sl As).length ≤ am_n M) (h : am_Ok l Ts Tw D cl dA tyl base g kr kz kA fn kF ko M d (0, lv_args 0 As, []) ah (.inr x) ah1) :
    am_MetT l Ts Tw D cl dA tyl base g kr kz kA fn kF ko M d As ah x ah1 := by
  refine am_toMetT hc hT hsl (fun p e s m args below meth c ls I hA hl => ?_)
  have h1 := h p e (am_rm d ah ah1) s m args below meth c s.heap [] (am_TQ D cl dA base g below s x ah1 (ah1.length - ah.length) (am_slots ah1 - am_slots ah)) ls ah.length (am_slots ah) I hA hl (Nat.le_refl _) (Nat.le_refl _) (Nat.le_refl _) (Nat.le_refl _) (Nat.le_refl _) (Nat.le_refl _) ?_
  · rw [Nat.sub_self, Nat.sub_self] at h1
    exact h1
  · intro pc ci ls2 lv2 H2 locs2 st2 ah2 hx2 he hxe hbig hcat hfr hlo hc0 hs0 hA2 hl2
    subst he
    subst hxe
    have e1 : (ah2 ++ [Sum.inr (ci, am_six)] : am_H).length = ah2.length + 1 := by simp
    have e2 : am_slots (ah2 ++ [Sum.inr (ci, am_six)]) = am_slots ah2 + 6 := by simp [am_slots, am_sz, am_six]
    have e3 : ah2.length - ah.length + 1 = (ah2 ++ [Sum.inr (ci, am_six)] : am_H).length - ah.length := by omega
    have e4 : am_slots ah2 - am_slots ah + 6 = am_slots (ah2 ++ [Sum.inr (ci, am_six)]) - am_slots ah := by omega
    have h2 := hX p e (am_rm d ah (ah2 ++ [Sum.inr (ci, am_six)])) s m args below meth c H2 locs2 (ah2.length - ah.length) (am_slots ah2 - am_slots ah) ls2 lv2 st2 pc mi ci M ah2 hMT I hx2 hA2 hl2 hbig hcat hfr hlo (Nat.le_of_eq e3) (Nat.le_of_eq e4)
    rw [e3, e4] at h2
    exact h2
/-- a method without places of 'throw' answers -/
theorem am_noX {M : am_M} {mi : Nat} (hM : MT mi = some M) (hno : ∀ pc, am_mX M pc = none) : ∀ (n d : Nat) (f : am_F) (ah : am_H) (x : Nat) (ah' : am_H), ¬ am_exec MT cl fty tyl kA kF ko n d mi f ah = some (.inr x, ah') := by
  intro n
  induction n with
  | zero => intro d f ah x ah' h; cases h
  | succ n ih =>
    intro d f ah x ah' h
    simp only [am_exec] at h
    rw [hM] at h
    simp only [hno] at h
    repeat' split at h
    all_goals first | (cases h; done) | exact ih _ _ _ _ _ h
set_option maxHeartbeats 4000000 in
theorem am_sound (hX : am_ThrowOk l Ts Tw D cl dA tyl base g kr kz kA fn kF ko MT) (hH : am_CatchOk l Ts Tw D cl dA tyl base g kr kz kA fn kF ko MT) (G : am_Glo cl Ts fty tyl) (hG : am_Good Ts) (hkw : ∀ w ∈ Tw, am_nk w = true) (hMT : ∀ mi M, MT mi = some M → am_MOk cl Ts Tw fty kr kz fn M ∧ am_CtOk MT cl Ts Tw M ∧ (am_mT M = [] ∨ ∀ pc, am_mX M pc = none)) (hW0 : ∀ mi mi' ix k na rc host M M', MT mi = some M → am_mC M ix = some (k, mi', na, some host, rc) → ¬ 4 ≤ k → MT mi' = some M' → am_mT M' = []) :
    ∀ (n d mi : Nat) (f : am_F) (ah : am_H) (r : am_A) (ah' : am_H), am_exec MT cl fty tyl kA kF ko n d mi f ah = some (r, ah') → ∀ M, MT mi = some M → am_Ok l Ts Tw D cl dA tyl base g kr kz kA fn kF ko M d f ah r ah' := by
  intro n
  induction n with
  | zero => intro d mi f ah r ah' h; cases h
  | succ n ih =>
    intro d mi f ah r ah' hex M hM p e R s m args below meth c H locs Q ls c0 s0 I hA hl hc0 hs0 hd hd2 hce hsl hend
    obtain ⟨hMo, hCt, hXT⟩ := hMT mi M hM
    obtain ⟨pc, lv, st⟩ := f
    simp only [am_exec] at hex
    rw [hM] at hex
    simp only [] at hex
    split at hex
    · cases hex
    · next i len hi =>
      obtain ⟨hdg, hlen⟩ := hMo.1 _ _ _ hi
      split at hex
      · next v hret =>
        cases hex
        have h1 := am_ret_len hret hlen
        subst h1
        exact hend pc i ls H locs st hdg hret hA
      · split at hex
        · next ci hx2 =>
          split at hex
          · next hb =>
            cases hex
            exact hend pc ci ls lv H locs st ah hx2 rfl rfl hb.1 hb.2.2 (by omega) (by omega) hc0 hs0 hA hl
          · cases hex
        · split at hex
          · split at hex
            · next f2 ah2 e2 =>
              have m1 := am_step_sm e2
              have m2 := am_mono _ _ _ _ _ _ _ hex
              have e3 : ah.length - c0 + (ah2.length - ah.length) = ah2.length - c0 := by omega
              have e4 : am_slots ah - s0 + (am_slots ah2 - am_slots ah) = am_slots ah2 - s0 := by omega
              refine am_step_ok G hMo I hA hi e2 (by omega) (by omega) hl ?_
              rw [e3, e4]
              intro ls2 H2 locs2 hl2 hA2
              exact ih _ _ _ _ _ _ hex M hM p e R s m args below meth c H2 locs2 Q ls2 c0 s0 I hA2 hl2 (by omega) (by omega) hd hd2 hce hsl hend
            · cases hex
          · next ix k mi' na hh rc hcal =>
            obtain ⟨hC, hkind⟩ := am_cal_spec hcal
            split at hex
            · next hk4 =>
              split at hex
              · next f2 ah2 e2 =>
                split at hex
                · cases hex
                · next hd0 =>
                  have m1 := am_prim_sm e2
                  have m2 := am_mono _ _ _ _ _ _ _ hex
                  refine am_prim_ok G I hA hCt hdg hlen hcal e2 (by omega) (by omega) (by omega) (by omega) hl ?_
                  intro ls2 H2 locs2 hl2 hA2
                  rw [← m1.1, ← m1.2]
                  exact ih _ _ _ _ _ _ hex M hM p e R s m args below meth c H2 locs2 Q ls2 c0 s0 I hA2 hl2 (by omega) (by omega) hd hd2 hce hsl hend
              · cases hex
            · next hk4 =>
               split at hex
               · cases hex
               · next d' =>
                 split at hex
                 · cases hex
                 · next M' hM' =>
                   obtain ⟨hMo', hCt', hXT'⟩ := hMT mi' M' hM'
                   split at hex
                   · next hok =>
                     have hoks := am_cok_spec hok
                     obtain ⟨hCo', hlk, k0, k1, k2, k3⟩ := (hCt _ _ _ _ _ _ hC).2.2.2.2 hk4 M' hM'
                     split at hex
                     · next v ah1 e1 =>
                       have m1 := am_mono _ _ _ _ _ _ _ e1
                       have m2 := am_mono _ _ _ _ _ _ _ hex
                       have e3 : ah.length - c0 + (ah1.length - ah.length) = ah1.length - c0 := by omega
                       have e4 : am_slots ah - s0 + (am_slots ah1 - am_slots ah) = am_slots ah1 - s0 := by omega
                       have hmet := (ih _ _ _ _ _ _ e1 M' hM').met hCo' hoks.2.2.1
                       have kk : ∀ (H1 : Heap) (locs1 : List Loc), am_At D cl dA base g s.heap ah1 H1 locs1 → W p l e R s m args below meth c H1 locs1 (ah.length - c0 + (ah1.length - ah.length)) (am_slots ah - s0 + (am_slots ah1 - am_slots ah)) Q (F0 m (pc + 3) ls (am_sk base g (v.toList ++ st.drop na))) := by
                         intro H1 locs1 hA1
                         rw [e3, e4]
                         exact ih _ _ _ _ _ _ hex M hM p e R s m args below meth c H1 locs1 Q ls c0 s0 I hA1 hl (by omega) (by omega) hd hd2 hce hsl hend
                       rcases hkind with ⟨hi2, hk⟩ | ⟨hi2, hk⟩ | ⟨hi2, hk⟩
                       · subst hi2
                         have hl3 : len = 3 := beq_iff_eq.mp hlen
                         subst hl3
                         have hk : k = 0 := by omega
                         subst hk
                         obtain ⟨q1, q2⟩ := k0 rfl
                         by_cases hT0 : am_mT M' = []
                         · exact am_callS hG hkw I hA hCo' hT0 hmet hlk q1 q2 hok hd hd2 (by omega) (by omega) m1.1 hdg hl kk
                         · cases hh with
                           | none => exact am_callW hG hkw I hA hCo' hT0 hmet hlk q1 q2 hok hd hd2 (by omega) (by omega) m1.1 hdg hl kk
                           | some host => exact absurd (hW0 _ _ _ _ _ _ _ _ _ hM hC hk4 hM') hT0
                       · subst hi2
                         have hl3 : len = 3 := beq_iff_eq.mp hlen
                         subst hl3
                         have hk : k = 1 := by omega
                         subst hk
                         obtain ⟨q0, q1, q2, q3, q4⟩ := k1 rfl
                         exact am_callI hG hkw I hA hCo' q0 hmet hlk q3 q1 q2 q4 hok hd hd2 (by omega) (by omega) m1.1 hdg hl kk
                       · subst hi2
                         have hl3 : len = 3 := beq_iff_eq.mp hlen
                         subst hl3
                         rcases hk with hk | hk
                         · subst hk
                           obtain ⟨q0, q1, q2, ⟨T, N, q3⟩, q4⟩ := k2 rfl
                           exact am_callV hG hkw I hA hCo' q0 hmet hlk q1 q2 q3 q4 hok hd hd2 (by omega) (by omega) m1.1 hdg hl kk
                         · subst hk
                           obtain ⟨q0, q1, q2, q4⟩ := k3 rfl
                           exact am_callK hG hkw I hA hCo' q0 hmet hlk q1 q2 q4 hok hd hd2 (by omega) (by omega) m1.1 hdg hl kk
                     · next x ah1 e1 =>
                       have m1 := am_mono _ _ _ _ _ _ _ e1
                       split at hex
                       · next ci fs ex =>
                         split at hex
                         · next hp ehp =>
                           have m2 := am_mono _ _ _ _ _ _ _ hex
                           have e3 : ah.length - c0 + (ah1.length - ah.length) = ah1.length - c0 := by omega
                           have e4 : am_slots ah - s0 + (am_slots ah1 - am_slots ah) = am_slots ah1 - s0 := by omega
                           have hmet := (ih _ _ _ _ _ _ e1 M' hM').metT hX hM' hCo' (hXT'.resolve_right (fun hno => am_noX hM' hno _ _ _ _ _ _ e1)) hoks.2.2.1
                           refine hH p e R s m args below meth c H locs _ _ Q ls lv st pc mi mi' ix k na rc len d' x ci hp hh i fs M M' ah ah1 hM hM' I hA hl hi hcal hk4 hok hmet ex ehp hd hd2 (by omega) (by omega) m1.1 ?_
                           intro ls2 H1 locs1 hl2 hA1
                           rw [e3, e4]
                           exact ih _ _ _ _ _ _ hex M hM p e R s m args below meth c H1 locs1 Q ls2 c0 s0 I hA1 hl2 (by omega) (by omega) hd hd2 hce hsl hend
                         · cases hex
                       · cases hex
                     · cases hex
                   · cases hex
end AMZ
