/-! THE ABSTRACT MACHINE: calls that are one step. -/
section AMV
variable {p : Program} {l : Launch} {e : Env} {R : Room} {s : State} {m : MethodId} {args : Array Value} {below : List Frame} {meth : Method} {c : Code} {H : Heap} {locs : List Loc} {cells slots : Nat} {Q : State → Prop}
variable {pc base : Nat} {g : Nat → Nat} {ls : Array Slot} {lv : List (Nat × Value)} {st : List Value} {f' : am_F} {D : va_G} {cl : List vw_C} {dA : FieldType → ClassId} {tyl : List FieldType} {ah ah' : am_H} {Ts Tw : List Cond} {fty : Nat → Nat → FieldType} {MT : Nat → Option am_M}
variable {kr : List (String × Nat × String × Nat)} {kz : List (String × String × String × Value)} {kA : am_KA} {fn : Nat → String × String × String} {kF : am_KF} {ko : Nat → Option String} {M : am_M} {ix k mi' na rc len : Nat} {hh : Option String} {i : Instr}
theorem am_prim_ok (G : am_Glo cl Ts fty tyl) (I : am_In Ts Tw D cl dA tyl base g kr kz kA fn kF ko M p s m args meth c) (hA : am_At D cl dA base g s.heap ah H locs) (hCt : am_CtOk MT cl Ts Tw M) (hdg : decode (am_b M) pc = .ok (i, len)) (hlen : am_len2 i len = true) (hcal : am_cal M i = some (ix, k, mi', na, hh, rc)) (hs : am_prim k (pc, lv, st) ah = some (f', ah')) (hd : 1 ≤ R.frames) (hd2 : 64 ≤ R.locals) (hce : cells ≤ R.cells) (hsl : slots ≤ R.slots) (hl : lv_has ls (am_n M) (am_lv base g lv)) (kk : am_GoH p l e R s m args below meth c cells slots Q (am_n M) base g D cl dA f' ah') : W p l e R s m args below meth c H locs cells slots Q (F0 m pc ls (am_sk base g st)) := by
  obtain ⟨hC, hkind⟩ := am_cal_spec hcal
  obtain ⟨hx, hb, hml, hown, hnm, hrt, hlk0, hts, hK, hCC, hTw, hnd⟩ := id I
  obtain ⟨t4, t5, t6, t7, -⟩ := hCt _ _ _ _ _ _ hC
  have hst : k = 4 ∨ k = 6 ∨ k = 7 → i = .invokestatic ix := by
    intro hk
    rcases hkind with ⟨h1, -⟩ | ⟨-, h2⟩ | ⟨-, h2⟩
    · exact h1
    · omega
    · omega
  unfold am_prim at hs
  split at hs
  · have hi := hst (Or.inl rfl)
    subst hi
    have hl3 : len = 3 := beq_iff_eq.mp hlen
    subst hl3
    obtain ⟨w1, w2, w3, w4⟩ := t4 rfl
    have hnw : nativeFrameWords "java/lang/System" "arraycopy" 5 ≤ 40 := by decide +kernel
    exact am_h_copy hx hb hml hown (hts _ w1) (hts _ w2) (hts _ w3) (hts _ w4) hK G.2.2.1 hA hs hd (by omega) hdg hl kk
  · obtain ⟨e2, ea⟩ := am_one_spec hs
    subst ea
    have hi5 : i = .invokespecial ix := by
      rcases hkind with ⟨-, h2⟩ | ⟨h1, -⟩ | ⟨-, h2⟩
      · omega
      · exact h1
      · omega
    subst hi5
    have hl3 : len = 3 := beq_iff_eq.mp hlen
    subst hl3
    obtain ⟨w1, w2, w3⟩ := t5 rfl
    simp only [am_obj] at e2
    split at e2
    · next b st2 =>
      split at e2
      · next hcat =>
        cases e2
        refine W.objInit (a := am_cr base g b) (rest := am_sk base g st2) hx hb hown (hts _ w1) (hts _ w2) (hts _ w3) rfl (by rw [hml]; exact hl.1) rfl hdg hd (by
          rw [am_sk_cat]
          show 2 * 0 + _ + 12 ≤ R.locals
          omega) ?_
        exact kk ls H locs hl hA
      · cases e2
    · cases e2
  · obtain ⟨e2, ea⟩ := am_one_spec hs
    subst ea
    have hi := hst (Or.inr (Or.inl rfl))
    subst hi
    have hl3 : len = 3 := beq_iff_eq.mp hlen
    subst hl3
    obtain ⟨w1, w2, w3, w4⟩ := t6 rfl
    simp only [am_mm] at e2
    split at e2
    · next y x st2 =>
      split at e2
      · next hcat =>
        cases e2
        exact va_mmax hx hb (by rw [hml]; exact hl.1.symm) hown (hts _ w1) (hts _ w2) (hts _ w3) (hts _ w4) hd (by rw [am_sk_cat]; omega) hce hsl hdg (kk ls H locs hl hA)
      · cases e2
    · cases e2
  · obtain ⟨e2, ea⟩ := am_one_spec hs
    subst ea
    have hi := hst (Or.inr (Or.inr rfl))
    subst hi
    have hl3 : len = 3 := beq_iff_eq.mp hlen
    subst hl3
    obtain ⟨w1, w2, w3, w4⟩ := t7 rfl
    simp only [am_mm] at e2
    split at e2
    · next y x st2 =>
      split at e2
      · next hcat =>
        cases e2
        exact va_mmin hx hb (by rw [hml]; exact hl.1.symm) hown (hts _ w1) (hts _ w2) (hts _ w3) (hts _ w4) hd (by rw [am_sk_cat]; omega) hce hsl hdg (kk ls H locs hl hA)
      · cases e2
    · cases e2
  · cases hs
end AMV
