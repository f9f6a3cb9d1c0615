/-! THE INVARIANT holds at first, and every turn of the law keeps it. -/
theorem Inv.rel {s s2 : zS} (hI : Inv s) (h : PRel s s2) : Inv s2 := by
  obtain ⟨⟨a1, a2, a3⟩, ⟨a4, a5, a6, a7⟩, ⟨a8, a9, a10, a11⟩, D, a12⟩ := hI
  obtain ⟨b1, b2, b3, b4, b5, z⟩ := h
  refine ⟨⟨b1, IT.cong (z.sub rfl) a2, IWd.cong (z.sub rfl) a3⟩, ⟨⟨?_, ?_, Or.inl ⟨b2, b3⟩⟩, IC.cong (z.sub rfl) a5, IL.cong (z.sub rfl) a6, IV.cong (z.sub rfl) a7⟩, ⟨IRf.cong (z.sub rfl) a8, ⟨fun i => ?_, ?_, ?_, ?_⟩, NNm.cong (z.sub rfl) a10, IRn.of a11 a1 (z.i rfl) (fun q q0 q1 => (b5 q q0 q1).1) (z.sub rfl)⟩, D, fun i hi => ?_⟩
  · rw [z.i (c := 0) (i := 10) rfl, z.i (c := 177) (i := 18) rfl]; exact a4.1
  · rw [z.i (c := 0) (i := 11) rfl, z.i (c := 177) (i := 19) rfl]; exact a4.2.1
  · rw [z.ia (c := 13) rfl rfl]; exact a9.1 i
  · rw [z.i (c := 8) (i := 5) rfl]; exact a9.2.1
  · rw [z.i (c := 10) (i := 16) rfl]; exact a9.2.2.1
  · rw [z.i (c := 8) (i := 1) rfl]; exact a9.2.2.2
  · have hi' := (act_cong (z.sub rfl)).mp hi
    rw [z.pa (c := 28) rfl rfl]
    have hF := (a12 i hi').1
    have hb := zC_b hF.z
    refine ⟨hF.of (z.i rfl) (by omega) (fun q q0 q1 => (b5 q q0 q1).1) (fun j hj i => z.cod (by decide +kernel) (by omega) (by omega) i) (fun k _ _ => ⟨z.ia (c := 184) rfl rfl _, z.ia (c := 185) rfl rfl _, z.ia (c := 186) rfl rfl _⟩) (z.ia (c := 187) rfl rfl _), (a12 i hi').2.eq (z.sub rfl)⟩
theorem Inv.bd {s s2 : zS} (hI : Inv s) (h : PBd s s2) : Inv s2 := by
  obtain ⟨⟨a1, a2, a3⟩, ⟨a4, a5, a6, a7⟩, ⟨a8, a9, a10, a11⟩, D, a12⟩ := hI
  obtain ⟨b1, b2, b3, z | ⟨key, how, c1, c2, c3, c4, c5, c6, c7, c8, z⟩⟩ := h
  · refine ⟨⟨b1, IT.cong (z.sub rfl) a2, IWd.cong (z.sub rfl) a3⟩, ⟨⟨?_, ?_, Or.inl ⟨b2, b3⟩⟩, IC.cong (z.sub rfl) a5, IL.cong (z.sub rfl) a6, IV.cong (z.sub rfl) a7⟩, ⟨IRf.cong (z.sub rfl) a8, ⟨fun i => ?_, ?_, ?_, ?_⟩, NNm.cong (z.sub rfl) a10, IRn.of a11 a1 (z.i rfl) (fun q _ _ => z.ia (c := 4) rfl rfl q) (z.sub rfl)⟩, D, IFm.cong (z.sub rfl) a12⟩
    · rw [z.i (c := 0) (i := 10) rfl, z.i (c := 177) (i := 18) rfl]; exact a4.1
    · rw [z.i (c := 0) (i := 11) rfl, z.i (c := 177) (i := 19) rfl]; exact a4.2.1
    · rw [z.ia (c := 13) rfl rfl]; exact a9.1 i
    · rw [z.i (c := 8) (i := 5) rfl]; exact a9.2.1
    · rw [z.i (c := 10) (i := 16) rfl]; exact a9.2.2.1
    · rw [z.i (c := 8) (i := 1) rfl]; exact a9.2.2.2
  · refine ⟨⟨b1, IT.cong (z.sub rfl) a2, fun k k0 k1 hk => ?_⟩, ⟨⟨?_, ?_, Or.inl ⟨b2, b3⟩⟩, IC.cong (z.sub rfl) a5, IL.cong (z.sub rfl) a6, IV.cong (z.sub rfl) a7⟩, ⟨IRf.cong (z.sub rfl) a8, ⟨fun i => ?_, ?_, ?_, ?_⟩, NNm.cong (z.sub rfl) a10, Or.inl c8⟩, D, fun i hi => ?_⟩
    · rw [c5] at hk ⊢
      rw [c6]
      by_cases e : k = key
      · rw [if_pos e, if_pos e]
      · rw [if_neg e] at hk
        rw [if_neg e, if_neg e]
        exact a3 k k0 k1 hk
    · rw [z.i (c := 0) (i := 10) rfl, z.i (c := 177) (i := 18) rfl]; exact a4.1
    · rw [z.i (c := 0) (i := 11) rfl, z.i (c := 177) (i := 19) rfl]; exact a4.2.1
    · rw [z.ia (c := 13) rfl rfl]; exact a9.1 i
    · rw [z.i (c := 8) (i := 5) rfl]; exact a9.2.1
    · rw [z.i (c := 10) (i := 16) rfl]; exact a9.2.2.1
    · rw [z.i (c := 8) (i := 1) rfl]; exact a9.2.2.2
    · have hi' := (act_cong (z.sub rfl)).mp hi
      have hib := act_b hi' a4.1.2.1
      rw [z.pa (c := 28) rfl rfl]
      refine ⟨(a12 i hi').1.eq (z.sub rfl), fun b hb hk => ?_⟩
      rw [c7 i hib.1 (by omega), BitVec.getLsbD_zero] at hk
      cases hk
theorem Inv.bk {s s2 : zS} (hI : Inv s) (h : PBack s s2) : Inv s2 := by
  obtain ⟨⟨a1, a2, a3⟩, ⟨a4, a5, a6, a7⟩, ⟨a8, a9, a10, a11⟩, D, a12⟩ := hI
  obtain ⟨b1, b2, b3, b4, b5, b6, z⟩ := h
  refine ⟨⟨IW.cong (z.sub rfl) a1, IT.cong (z.sub rfl) a2, IWd.cong (z.sub rfl) a3⟩, ⟨⟨⟨by omega, by have := a4.1.2.1; omega, by omega⟩, ?_, Or.inl ⟨b4, b5⟩⟩, b6, IL.cong (z.sub rfl) a6, IV.cong (z.sub rfl) a7⟩, ⟨IRf.cong (z.sub rfl) a8, ⟨fun i => ?_, ?_, ?_, ?_⟩, NNm.cong (z.sub rfl) a10, IRn.of a11 a1 (z.i rfl) (fun q _ _ => z.ia (c := 4) rfl rfl q) (z.sub rfl)⟩, D, fun i hi => ?_⟩
  · rw [z.i (c := 0) (i := 11) rfl, z.i (c := 177) (i := 19) rfl]; exact a4.2.1
  · rw [z.ia (c := 13) rfl rfl]; exact a9.1 i
  · rw [z.i (c := 8) (i := 5) rfl]; exact a9.2.1
  · rw [z.i (c := 10) (i := 16) rfl]; exact a9.2.2.1
  · rw [z.i (c := 8) (i := 1) rfl]; exact a9.2.2.2
  · have hi' : act s i := by
      rcases hi with ⟨h1, h2⟩ | ⟨h1, h2⟩
      · exact Or.inl ⟨h1, by omega⟩
      · exact Or.inr ⟨h1, by rw [z.i rfl] at h2; exact h2⟩
    rw [z.pa (c := 28) rfl rfl]
    exact ⟨(a12 i hi').1.eq (z.sub rfl), (a12 i hi').2.eq (z.sub rfl)⟩
theorem zturn.im {s : zS} {f g : zS → Option (Int × zS)} {P Q : zS → Prop} (h : zturn s f g P) (hPQ : ∀ s2, P s2 → Q s2) : zturn s f g Q := by
  obtain ⟨r, s1, b, s2, h1, h2, h3, h4, h5, h6⟩ := h
  exact ⟨r, s1, b, s2, h1, h2, h3, h4, h5, hPQ s2 h6⟩
theorem op_feed2 {s : zS} {w : BitVec 64} {n : Int} (hI : Inv s) (hn : zR n) : zturn s (f_2 w n) (f_143 w n) Inv := by
  obtain ⟨r, s1, b, s2, h1, h2, h3, h4, h5, h6, z⟩ := op_feed (w := w) hI.1.2.1 hn
  refine ⟨r, s1, b, s2, h1, h2, h3, h4, h5, ?_⟩
  have z1 : zfr 23240248902782177311382762032382715290082236696599900171719276625352927079525582768595936425841630661476589268449217217024 s s2 := zfr_tr (zfr_sub rfl (fr_2 h1)) (zfr_sub rfl (fr_143 h2))
  exact hI.cong (z1.eq rfl) h6
abbrev zT : Type := Option ((Int × zS) ⊕ (zS ⊕ (Int × zS)))
theorem glT {s : zS} {f g : zS → Option (Int × zS)} {P : zS → Prop} {i : Int} (h : zturn s f g P) : ∃ s', (zb (f s) (fun r10 s11 => zb (g s11) (fun r14 s15 => zo (f_142 s15) (fun r17 => zg (zR r17) (zg (zR r10) (if r17 = r10 then (if r10 = 0 then (zg (zR r14) (if (gJ s15 205 0) = (BitVec.ofInt 64 r14) then (some (.inl ((i + 4), s15))) else (some (.inr (.inr (0, s15)))))) else (some (.inl ((i + 4), s15)))) else (some (.inr (.inr (0, s15))))))))) : zT) = some (.inl (i + 4, s')) ∧ P s' := by
  obtain ⟨r, s1, b, s2, h1, h2, h3, h4, h5, h6⟩ := h
  refine ⟨s2, ?_, h6⟩
  have e142 : f_142 s2 = some r := by unfold f_142; rw [h3]
  rw [zb_of h1, zb_of h2, zo_of e142, zg_pos h4, zg_pos h4, if_pos rfl]
  by_cases h0 : r = 0
  · obtain ⟨h7, h8⟩ := h5 h0
    rw [if_pos h0, zg_pos h7, if_pos h8]
  · rw [if_neg h0]
theorem glB {s : zS} {f g : zS → Option (Int × zS)} {P : zS → Prop} {i : Int} (h : zturnB s f g P) : ∃ s', (zb (f s) (fun r183 s184 => zb (g s184) (fun r187 s188 => zo (f_142 s188) (fun r190 => zg (zR r190) (zg (zR r183) (if r190 = r183 then (if r183 = 0 then (zg (zR r187) (if r187 = 0 then (if (gJ s188 205 0) = (0#64) then (some (.inl ((i + 4), s188))) else (some (.inr (.inr (0, s188))))) else (if (gJ s188 205 0) = (1#64) then (some (.inl ((i + 4), s188))) else (some (.inr (.inr (0, s188))))))) else (some (.inl ((i + 4), s188)))) else (some (.inr (.inr (0, s188))))))))) : zT) = some (.inl (i + 4, s')) ∧ P s' := by
  obtain ⟨r, s1, b, s2, h1, h2, h3, h4, h5, h6⟩ := h
  refine ⟨s2, ?_, h6⟩
  have e142 : f_142 s2 = some r := by unfold f_142; rw [h3]
  rw [zb_of h1, zb_of h2, zo_of e142, zg_pos h4, zg_pos h4, if_pos rfl]
  by_cases h0 : r = 0
  · rcases h5 h0 with ⟨h7, h8⟩ | ⟨h7, h8⟩
    · rw [if_pos h0, zg_pos (by rw [h7]; decide), if_pos h7, if_pos h8]
    · rw [if_pos h0, zg_pos (by rw [h7]; decide), if_neg (by rw [h7]; decide), if_pos h8]
  · rw [if_neg h0]
theorem glQ {s : zS} {f g : zS → Option (Int × zS)} {P : zS → Prop} {i : Int} (h : zturnQ s f g P) : ∃ s', (zb (f s) (fun r129 s130 => zb (g s130) (fun r132 s133 => zg (zR r129) (zg (zR r132) (if r129 = r132 then (some (.inl ((i + 4), s133))) else (some (.inr (.inr (0, s133)))))))) : zT) = some (.inl (i + 4, s')) ∧ P s' := by
  obtain ⟨r, s1, s2, h1, h2, h3, h4⟩ := h
  exact ⟨s2, by rw [zb_of h1, zb_of h2, zg_pos h3, zg_pos h3, if_pos rfl], h4⟩
theorem glP {s : zS} {f : zS → Option Int} {g : zS → Option (Int × zS)} {P : zS → Prop} {i : Int} (h : zturnP s f g P) : ∃ s', (zo (f s) (fun r283 => zb (g s) (fun r285 s286 => zg (zR r283) (zg (zR r285) (if r283 = r285 then (some (.inl ((i + 4), s286))) else (some (.inr (.inr (0, s286)))))))) : zT) = some (.inl (i + 4, s')) ∧ P s' := by
  obtain ⟨r, s2, h1, h2, h3, h4⟩ := h
  exact ⟨s2, by rw [zo_of h1, zb_of h2, zg_pos h3, zg_pos h3, if_pos rfl], h4⟩
theorem zR_gX (k : zK) (i : Int) : zR (gX k i) := zR_toInt _
theorem t049 (x : Int) : t_0_49 x = 1026 ∨ t_0_49 x = 144 ∨ t_0_49 x = 244 ∨ t_0_49 x = 285 ∨ t_0_49 x = 385 ∨ t_0_49 x = 465 ∨ t_0_49 x = 509 ∨ t_0_49 x = 553 ∨ t_0_49 x = 566 ∨ t_0_49 x = 579 ∨ t_0_49 x = 623 ∨ t_0_49 x = 667 ∨ t_0_49 x = 742 ∨ t_0_49 x = 755 ∨ t_0_49 x = 768 ∨ t_0_49 x = 781 ∨ t_0_49 x = 825 ∨ t_0_49 x = 888 ∨ t_0_49 x = 932 ∨ t_0_49 x = 957 ∨ t_0_49 x = 1001 := by
  by_cases h : x < 0 ∨ 19 < x
  · left
    unfold t_0_49 zswt
    rw [if_pos h]
  · have : x = 0 ∨ x = 1 ∨ x = 2 ∨ x = 3 ∨ x = 4 ∨ x = 5 ∨ x = 6 ∨ x = 7 ∨ x = 8 ∨ x = 9 ∨ x = 10 ∨ x = 11 ∨ x = 12 ∨ x = 13 ∨ x = 14 ∨ x = 15 ∨ x = 16 ∨ x = 17 ∨ x = 18 ∨ x = 19 := by omega
    rcases this with rfl | rfl | rfl | rfl | rfl | rfl | rfl | rfl | rfl | rfl | rfl | rfl | rfl | rfl | rfl | rfl | rfl | rfl | rfl | rfl <;> decide
theorem turn {k : zK} {i : Int} {s : zS} (hL : k.2.1 ≤ 2049) (i1 : 1 ≤ i) (i3 : i + 3 < (k.2.1 : Int)) (hI : Inv s) : ∃ s', b_0_33 k i s = some (.inl (i + 4, s')) ∧ Inv s' := by
  obtain ⟨⟨hW, hT, hWd⟩, ⟨hS, hC, hLf, hV⟩, ⟨hRf, hN, hM, hRn⟩, D, hF⟩ := id hI
  obtain ⟨T, hTe⟩ : ∃ T, T = t_0_49 (zand (gX k i) 31) := ⟨_, rfl⟩
  have hcase := t049 (zand (gX k i) 31)
  rw [← hTe] at hcase
  have g1 : 0 ≤ i + 1 ∧ i + 1 < (k.2.1 : Int) := ⟨by omega, by omega⟩
  have g2 : 0 ≤ i + 2 ∧ i + 2 < (k.2.1 : Int) := ⟨by omega, by omega⟩
  have g3 : 0 ≤ i + 3 ∧ i + 3 < (k.2.1 : Int) := ⟨by omega, by omega⟩
  unfold b_0_33
  rw [zg_pos ⟨by omega, by omega⟩, zg_pos ⟨by omega, by omega⟩, if_neg (by omega), zg_pos ⟨by omega, by omega⟩, ← hTe]
  rcases hcase with rfl | rfl | rfl | rfl | rfl | rfl | rfl | rfl | rfl | rfl | rfl | rfl | rfl | rfl | rfl | rfl | rfl | rfl | rfl | rfl | rfl
  · exact ⟨s, rfl, hI⟩
  · rw [if_pos rfl, zg_pos g1, zg_pos g2, zg_pos g3]
    exact glT (op_feed2 hI (zR_gX _ _))
  · rw [if_neg (by decide), if_pos rfl, zg_pos g1]
    by_cases h0 : gX k (i + 1) = 0
    · rw [if_pos h0]
      simp only [if_pos h0]
      obtain ⟨s', e, h⟩ := glP (i := i) (op_fault (v := 0) hLf (Or.inl rfl))
      exact ⟨s', e, hI.mk h⟩
    · rw [if_neg h0]
      simp only [if_neg h0]
      obtain ⟨s', e, h⟩ := glP (i := i) (op_fault (v := 1) hLf (Or.inr rfl))
      exact ⟨s', e, hI.mk h⟩
  · rw [if_neg (by decide), if_neg (by decide), if_pos rfl, zg_pos g1, zg_pos g2, zg_pos g3]
    exact glT ((op_relation hW (zR_gX _ _)).im (fun s2 h => h.elim hI.mk hI.rel))
  · rw [if_neg (by decide), if_neg (by decide), if_neg (by decide), if_pos rfl, zg_pos g1, zg_pos g2, zg_pos g3]
    exact glT ((op_bound hW (zR_gX _ _) (zR_gX _ _) (zR_gX _ _)).im (fun s2 h => h.elim hI.mk hI.bd))
  · rw [if_neg (by decide), if_neg (by decide), if_neg (by decide), if_neg (by decide), if_pos rfl]
    exact glT (op_fact hI)
  · rw [if_neg (by decide), if_neg (by decide), if_neg (by decide), if_neg (by decide), if_neg (by decide), if_pos rfl]
    exact glT ((op_back hS hC).im (fun s2 h => h.elim hI.mk hI.bk))
  · rw [if_neg (by decide), if_neg (by decide), if_neg (by decide), if_neg (by decide), if_neg (by decide), if_neg (by decide), if_pos rfl]
    exact glQ (op_claim hI)
  · rw [if_neg (by decide), if_neg (by decide), if_neg (by decide), if_neg (by decide), if_neg (by decide), if_neg (by decide), if_neg (by decide), if_pos rfl]
    obtain ⟨s', e, h⟩ := glQ (i := i) (op_solve hW hWd hF hS hC)
    exact ⟨s', e, hI.ev hF h⟩
  · rw [if_neg (by decide), if_neg (by decide), if_neg (by decide), if_neg (by decide), if_neg (by decide), if_neg (by decide), if_neg (by decide), if_neg (by decide), if_pos rfl]
    exact glT ((op_next hW hWd hF hS hC).im (fun s2 h => h.elim hI.mk (hI.ev hF)))
  · rw [if_neg (by decide), if_neg (by decide), if_neg (by decide), if_neg (by decide), if_neg (by decide), if_neg (by decide), if_neg (by decide), if_neg (by decide), if_neg (by decide), if_pos rfl]
    exact glT ((op_check hW hWd hF hS hC).im (fun s2 h => h.elim hI.mk (hI.ev hF)))
  · rw [if_neg (by decide), if_neg (by decide), if_neg (by decide), if_neg (by decide), if_neg (by decide), if_neg (by decide), if_neg (by decide), if_neg (by decide), if_neg (by decide), if_neg (by decide), if_pos rfl, zg_pos g1, zg_pos g2]
    obtain ⟨s', e, h⟩ := glB (i := i) (op_has (r := gX k (i + 1)) (t := gX k (i + 2)) hW hS (zR_gX _ _) (zR_gX _ _))
    exact ⟨s', e, hI.mk h⟩
  · rw [if_neg (by decide), if_neg (by decide), if_neg (by decide), if_neg (by decide), if_neg (by decide), if_neg (by decide), if_neg (by decide), if_neg (by decide), if_neg (by decide), if_neg (by decide), if_neg (by decide), if_pos rfl]
    obtain ⟨s', e, h⟩ := glQ (i := i) (op_count hW hWd hF hS hC)
    exact ⟨s', e, hI.ev hF h⟩
  · rw [if_neg (by decide), if_neg (by decide), if_neg (by decide), if_neg (by decide), if_neg (by decide), if_neg (by decide), if_neg (by decide), if_neg (by decide), if_neg (by decide), if_neg (by decide), if_neg (by decide), if_neg (by decide), if_pos rfl]
    exact glQ (op_unlike hI)
  · rw [if_neg (by decide), if_neg (by decide), if_neg (by decide), if_neg (by decide), if_neg (by decide), if_neg (by decide), if_neg (by decide), if_neg (by decide), if_neg (by decide), if_neg (by decide), if_neg (by decide), if_neg (by decide), if_neg (by decide), if_pos rfl]
    exact glQ (op_fair hI)
  · rw [if_neg (by decide), if_neg (by decide), if_neg (by decide), if_neg (by decide), if_neg (by decide), if_neg (by decide), if_neg (by decide), if_neg (by decide), if_neg (by decide), if_neg (by decide), if_neg (by decide), if_neg (by decide), if_neg (by decide), if_neg (by decide), if_pos rfl]
    exact glT ((op_core hW hWd hF hS hC).im (fun s2 h => hI.ev hF h))
  · rw [if_neg (by decide), if_neg (by decide), if_neg (by decide), if_neg (by decide), if_neg (by decide), if_neg (by decide), if_neg (by decide), if_neg (by decide), if_neg (by decide), if_neg (by decide), if_neg (by decide), if_neg (by decide), if_neg (by decide), if_neg (by decide), if_neg (by decide), if_pos rfl, zg_pos g1]
    obtain ⟨s', e, h⟩ := glB (i := i) (op_isInCore (f := gX k (i + 1)) hS hC (zR_gX _ _))
    exact ⟨s', e, hI.mk h⟩
  · rw [if_neg (by decide), if_neg (by decide), if_neg (by decide), if_neg (by decide), if_neg (by decide), if_neg (by decide), if_neg (by decide), if_neg (by decide), if_neg (by decide), if_neg (by decide), if_neg (by decide), if_neg (by decide), if_neg (by decide), if_neg (by decide), if_neg (by decide), if_neg (by decide), if_pos rfl]
    exact glT (op_value hI)
  · rw [if_neg (by decide), if_neg (by decide), if_neg (by decide), if_neg (by decide), if_neg (by decide), if_neg (by decide), if_neg (by decide), if_neg (by decide), if_neg (by decide), if_neg (by decide), if_neg (by decide), if_neg (by decide), if_neg (by decide), if_neg (by decide), if_neg (by decide), if_neg (by decide), if_neg (by decide), if_pos rfl, zg_pos g1]
    obtain ⟨s', e, h⟩ := glP (i := i) (op_isIn (t := gX k (i + 1)) hV (zR_gX _ _))
    exact ⟨s', e, hI.mk h⟩
  · rw [if_neg (by decide), if_neg (by decide), if_neg (by decide), if_neg (by decide), if_neg (by decide), if_neg (by decide), if_neg (by decide), if_neg (by decide), if_neg (by decide), if_neg (by decide), if_neg (by decide), if_neg (by decide), if_neg (by decide), if_neg (by decide), if_neg (by decide), if_neg (by decide), if_neg (by decide), if_neg (by decide), if_pos rfl]
    exact glT (op_holds hI)
  · rw [if_neg (by decide), if_neg (by decide), if_neg (by decide), if_neg (by decide), if_neg (by decide), if_neg (by decide), if_neg (by decide), if_neg (by decide), if_neg (by decide), if_neg (by decide), if_neg (by decide), if_neg (by decide), if_neg (by decide), if_neg (by decide), if_neg (by decide), if_neg (by decide), if_neg (by decide), if_neg (by decide), if_neg (by decide), if_pos rfl, zg_pos g1]
    obtain ⟨s', e, h⟩ := glP (i := i) (op_told (v := gX k (i + 1)) hW hS hT hV (zR_gX _ _))
    exact ⟨s', e, hI.mk h⟩
/-- the beginning -/
theorem zs0_I {n : Int} {c : Nat} {i : Int} (h : c ≠ 0 ∧ c ≠ 1 ∧ c ≠ 2 ∧ c ≠ 177) : gI (zs0 n) c i = 0 := by
  unfold gI
  have : (zs0 n).1 c i = 0 := by
    unfold zs0
    dsimp only
    split
    · exact absurd rfl h.1
    · exact absurd rfl h.2.1
    · exact absurd rfl h.2.2.1
    · exact absurd rfl h.2.2.2
    · rfl
  rw [this]
  rfl
theorem zs0_n {n : Int} (n1 : 1 ≤ n) (n5 : n ≤ 5) : gI (zs0 n) 1 0 = n ∧ gI (zs0 n) 177 1 = n := by
  constructor
  · show (Int32.ofInt n).toInt = n
    exact z_toInt ⟨by omega, by omega⟩
  · show (Int32.ofInt n).toInt = n
    exact z_toInt ⟨by omega, by omega⟩
theorem zs0_2 {n : Int} (n1 : 1 ≤ n) (n5 : n ≤ 5) : ∀ a, 0 ≤ a → a ≤ 3 → gI (zs0 n) 2 a = n ^ a.toNat := by
  intro a a0 a3
  have : a = 0 ∨ a = 1 ∨ a = 2 ∨ a = 3 := by omega
  rcases gt_ex n1 n5 with rfl | rfl | rfl | rfl | rfl <;> rcases this with rfl | rfl | rfl | rfl <;> decide
theorem Inv0 {n : Int} (n1 : 1 ≤ n) (n5 : n ≤ 5) : Inv (zs0 n) := by
  obtain ⟨e1, e2⟩ := zs0_n n1 n5
  have a4 : gI (zs0 n) 1 4 = 0 := rfl
  have a8 : gI (zs0 n) 1 8 = 0 := rfl
  have a10 : gI (zs0 n) 177 10 = 0 := rfl
  have b10 : gI (zs0 n) 0 10 = 0 := rfl
  have b11 : gI (zs0 n) 0 11 = 0 := rfl
  have b12 : gI (zs0 n) 0 12 = -1 := rfl
  have b13 : gI (zs0 n) 0 13 = 0 := rfl
  have c18 : gI (zs0 n) 177 18 = 0 := rfl
  have c19 : gI (zs0 n) 177 19 = 0 := rfl
  have c21 : gI (zs0 n) 177 21 = 0 := rfl
  have d81 : gI (zs0 n) 8 1 = 0 := rfl
  have d85 : gI (zs0 n) 8 5 = 0 := rfl
  have d16 : gI (zs0 n) 10 16 = 0 := rfl
  have d41 : gI (zs0 n) 177 41 = 0 := rfl
  have p6 : gP (zs0 n) 0 6 = 165 := rfl
  have p28 : ∀ i, gP (zs0 n) 28 i = 29 + 8 * i.toNat := fun _ => rfl
  have hzC : ∀ q : Nat, q ≤ 17 → zC (29 + 8 * q) = true := by
    intro q hq
    unfold zC
    exact decide_eq_true (by omega)
  refine ⟨⟨⟨⟨by omega, by omega, by omega⟩, fun a h0 h3 => by rw [e1]; exact zs0_2 n1 n5 a h0 h3, ⟨by omega, by omega, by omega⟩, fun i i0 i1 => by omega, fun k k0 k1 => ?_, ⟨by omega, by omega⟩, fun i i0 i1 => by omega, fun i j i0 ij j1 => by omega, fun k k0 k1 h => ?_⟩, ⟨rfl, by omega, by omega, fun i i0 i1 => ?_⟩, fun k k0 k1 h => ?_⟩, ⟨⟨⟨by omega, by omega, by omega⟩, ⟨by omega, Or.inl b11⟩, Or.inl ⟨b12, c21⟩⟩, ⟨by omega, by omega, fun f f0 f1 => ⟨fun h => by omega, fun _ => ?_⟩⟩, Or.inl ⟨rfl, rfl, rfl⟩, ⟨rfl, fun t t0 t1 => ?_⟩⟩, ⟨⟨?_, fun i i0 i1 => ⟨?_, ?_⟩, fun i j i0 ij j1 => ?_⟩, ⟨fun i => ?_, by omega, by omega, by omega⟩, ⟨fun i => ?_, by omega⟩, Or.inl rfl⟩, fun _ _ _ _ => false, fun i hi => ?_⟩
  · have h5 : gI (zs0 n) 5 k = 0 := zs0_I (by decide)
    have h181 : gI (zs0 n) 181 k = 0 := zs0_I (by decide)
    exact ⟨by omega, by omega, by omega, fun h => absurd h5 h⟩
  · have h5 : gI (zs0 n) 5 k = 0 := zs0_I (by decide)
    omega
  · have : gI (zs0 n) 8 1 = 0 := rfl
    omega
  · have h5 : gI (zs0 n) 5 k = 0 := zs0_I (by decide)
    rw [h5, if_neg (by decide)]
    rfl
  · rw [b13]
    exact Nat.zero_testBit _
  · have h1 : gI (zs0 n) 176 t = 0 := zs0_I (by decide)
    have h2 : tb (gJ (zs0 n) 177 23) (gJ (zs0 n) 177 24) t = false := by
      show tb (0#64) (0#64) t = false
      unfold tb
      split
      · exact BitVec.getLsbD_zero
      · exact BitVec.getLsbD_zero
    rw [h1, h2]
    rfl
  · rw [p6]; decide
  · rw [p28]; exact hzC _ (by omega)
  · rw [p28, p6]; omega
  · rw [p28, p28]; omega
  · have : gI (zs0 n) 13 i = 0 := zs0_I (by decide)
    omega
  · have : gI (zs0 n) 192 i = 0 := zs0_I (by decide)
    omega
  · exfalso
    rcases hi with ⟨h1, h2⟩ | ⟨-, h2⟩
    · omega
    · exact h2 b11
theorem tp_ok : tp_claim := tp_of_inv (Inv := Inv) ⟨fun _ n1 n5 => Inv0 n1 n5, fun _ _ _ hL i1 i3 hI => turn hL i1 i3 hI⟩
