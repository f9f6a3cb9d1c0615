/-! BOTH PARSERS: a whole text. -/
/-- a loop ends with t, in at most n turns -/
def zend {S T : Type} (B : S → Option (S ⊕ T)) (n : Nat) (q : S) (t : T) : Prop := ∃ m, m ≤ n ∧ ∀ k, zlp B (k + m) q = some t
theorem zend.now {S T : Type} {B : S → Option (S ⊕ T)} {q : S} {t : T} (h : B q = some (.inr t)) : zend B 1 q t := ⟨1, Nat.le_refl _, fun _ => zlp_r h⟩
theorem zend.step {S T : Type} {B : S → Option (S ⊕ T)} {n : Nat} {q q2 : S} {t : T} (h : B q = some (.inl q2)) (h2 : zend B n q2 t) : zend B (n + 1) q t := by
  obtain ⟨m, hm, e⟩ := h2
  exact ⟨m + 1, by omega, fun k => by rw [← Nat.add_assoc, zlp_l h]; exact e k⟩
theorem zend.F {S T : Type} {B : S → Option (S ⊕ T)} {n : Nat} {q : S} {t : T} (h : zend B n q t) (hn : n ≤ 1000000) : zlp B zF q = some t := by
  obtain ⟨m, hm, e⟩ := h
  have hF := zF_big
  have := e (zF - m)
  rw [show zF - m + m = zF by omega] at this
  exact this
theorem t73 {x : Int} (h0 : 0 ≤ x) (h4 : x ≤ 4) : t_73_129 x = if x = 0 then 160 else if x = 1 then 174 else if x = 2 then 188 else if x = 3 then 202 else 216 := by
  have : x = 0 ∨ x = 1 ∨ x = 2 ∨ x = 3 ∨ x = 4 := by omega
  rcases this with e | e | e | e | e <;> rw [e] <;> rfl
theorem fr_cTk {σ σ' : zS} {k : Int} (h : cTk σ k = some ((), σ')) : zfr 226597663259819065347149104455846189750700620929826175025285749952840994914248223623467444837777439230452168704 σ σ' := by
  unfold cTk at h
  split at h
  · exact zfr_sub rfl (fr_75 h)
  · split at h
    · exact zfr_sub rfl (fr_84 h)
    · split at h
      · exact zfr_sub rfl (fr_85 h)
      · split at h
        · exact zfr_sub rfl (fr_86 h)
        · exact zfr_sub rfl (fr_87 h)
section PARSE
variable {c : Nat} {fm : Int} {nm : Int → BitVec 64} {B : Int → Int} {l : Int}
/-- what comes of a whole text: F is 0, or the fault -/
def PRS (σ τ : zS) (c : Nat) (fm F : Int) (v : Wd) : Prop := gI σ 10 15 = F ∧ 0 ≤ F ∧ F ≤ 7 ∧ (F ≠ 0 → gI σ 10 16 = gI τ 177 5) ∧ (F = 0 → ∃ v', vLe v v' ∧ JF σ τ c fm v')
theorem prs_loop (hB : TB B l) : ∀ (N : Nat) (σ τ : zS) (v : Wd) (i q tk cur : Int), 200 - tk ≤ N → 0 ≤ tk → 0 ≤ i → i ≤ tk → JX q σ τ c fm v tk → gI σ 10 15 = 0 → gI σ 10 5 = 0 → WV σ τ v nm → CT σ B l → MT τ B l → gI σ 8 2 = cur → gI τ 177 26 = cur → 0 ≤ cur → cur ≤ l → gI σ 8 3 = tk → gI τ 177 31 = tk → tk ≤ 200 → ∃ (σ' τ' : zS) (F : Int) (e : zS ⊕ (Unit × zS)) (g : (Int × zS) ⊕ (Int × zS)), zend (fun (q : Int × zS) => b_73_46 q.1 q.2) (2 * N + 10) (i, σ) e ∧ Sum.elim (fun e12 => some ((), e12)) (fun q13 => some q13) e = some ((), σ') ∧ zend (fun (q : Int × zS) => b_157_56 q.1 q.2) (2 * N + 10) (q, τ) g ∧ Sum.elim (fun e3 : Int × zS => zg (zR (e3.1 - 100)) (if (e3.1 - 100) = 3 then (if (gI e3.2 177 27) = 0 then (some (2, e3.2)) else (some ((e3.1 - 100), e3.2))) else (some ((e3.1 - 100), e3.2)))) (fun q4 => some q4) g = some (F, τ') ∧ PRS σ' τ' c fm F v
  | N, σ, τ, v, i, q, tk, cur, hN, tk0, i0, itk, hJ, h15, h5, hV, hCT, hMT, hcc, hmc, cur0, curl, h83, h31, htk200 => by
    obtain ⟨σ1, a1, a2, a3, a4, a5, a6, a7⟩ := c_advance hB hCT hcc cur0 curl (by omega) (by omega)
    obtain ⟨τ1, b1, b2, b3, b4, b5, b6⟩ := m_readToken hB hMT hmc cur0 curl
    have hkb := tkK_b hB cur0 curl
    have heb := tkE_b hB cur0 curl
    have z1 : zfr 564415675028806661060475454703247958086654665303131682794797253442875551537400558235981128304444993175552 σ σ1 := fr_62 a1
    have zt1 : zfr 5372047532359078790433177481777224675408096833540644614392804187440828783873399644639950411826770432563695471237719420418637430784 τ τ1 := fr_159 b1
    have hl6 := hB.2.1
    obtain ⟨k, hk⟩ : ∃ k, k = tkK B l cur := ⟨_, rfl⟩
    obtain ⟨pl, hpl⟩ : ∃ pl, pl = tkP B l cur := ⟨_, rfl⟩
    rw [← hk] at a3 a6 a7 b3 b5 b6 hkb
    rw [← hpl] at a4 a5 b4 hkb heb
    have hplz : zR pl := ⟨by omega, by omega⟩
    have hqr : 0 ≤ q ∧ q ≤ 6 := by
      rcases hJ with h | h | h | h | h | h
      · omega
      all_goals have := h.1; omega
    have hcl : b_73_46 i σ = if k = 1 then (zb (f_74 1 (gI σ1 8 5) σ1) (fun _ s11 => some (.inr (.inr ((), s11))))) else (if 200 < (gI σ1 8 3) then (zb (f_74 6 (gI σ1 8 5) σ1) (fun _ s15 => some (.inr (.inr ((), s15))))) else (if t_73_129 (gI σ1 10 4) = 160 then (zb (f_75 (gI σ1 8 4) σ1) (fun _ s19 => some (.inl ((i + 1), s19)))) else (if t_73_129 (gI σ1 10 4) = 174 then (zb (f_84 (gI σ1 8 4) σ1) (fun _ s23 => some (.inl ((i + 1), s23)))) else (if t_73_129 (gI σ1 10 4) = 188 then (zb (f_85 (gI σ1 8 4) σ1) (fun _ s27 => some (.inl ((i + 1), s27)))) else (if t_73_129 (gI σ1 10 4) = 202 then (zb (f_86 (gI σ1 8 4) σ1) (fun _ s31 => some (.inl ((i + 1), s31)))) else (if t_73_129 (gI σ1 10 4) = 216 then (zb (f_87 (gI σ1 8 4) σ1) (fun _ s35 => some (.inl ((i + 1), s35)))) else (none))))))) := by
      unfold b_73_46
      rw [zg_pos ⟨by omega, by omega⟩, if_neg (by omega), if_pos h15, if_pos h5, zb_of a1, a3]
    have hml : b_157_56 q τ = if km k = 3 then (some (.inr (.inr (1, (sI τ1 177 5 pl))))) else (if km k = 0 then (j_157_56_122 q (sI τ1 177 5 pl)) else (if 200 < (gI (sI (sI τ1 177 5 pl) 177 31 ((gI τ1 177 31) + 1)) 177 31) then (some (.inr (.inr (6, (sI (sI τ1 177 5 pl) 177 31 ((gI τ1 177 31) + 1)))))) else (zo (f_165 q (sI (sI τ1 177 5 pl) 177 31 ((gI τ1 177 31) + 1))) (fun r10 => zg (zR r10) (if r10 = 0 then (j_157_56_122 q (sI (sI τ1 177 5 pl) 177 31 ((gI τ1 177 31) + 1))) else (some (.inr (.inr (6, (sI (sI τ1 177 5 pl) 177 31 ((gI τ1 177 31) + 1))))))))))) := by
      unfold b_157_56
      rw [zg_pos ⟨by omega, by omega⟩, if_pos (by omega), zb_of b1, b3, b4]
    have km3 : km k = 3 ↔ k = 1 := by
      unfold km
      repeat' split
      all_goals omega
    have km0 := km_0 hkb.1
    have e31 : gI τ1 177 31 = tk := by rw [zt1.i rfl]; exact h31
    by_cases k1 : k = 1
    · -- no token
      obtain ⟨σ', r1, r2, r3⟩ := c_refuse (σ := σ1) (why := 1) (pl := pl) (by decide) hplz
      rw [if_pos k1, a4, zb_of r1] at hcl
      rw [if_pos (km3.mpr k1)] at hml
      refine ⟨σ', sI τ1 177 5 pl, 1, _, _, (zend.now hcl) |> fun h => ⟨h.choose, by have := h.choose_spec.1; omega, h.choose_spec.2⟩, rfl, (zend.now hml) |> fun h => ⟨h.choose, by have := h.choose_spec.1; omega, h.choose_spec.2⟩, rfl, r2, by decide, by decide, fun _ => by rw [r3, gI_same hplz], fun h => absurd h (by decide)⟩
    · rw [if_neg k1] at hcl
      rw [if_neg (fun h => k1 (km3.mp h))] at hml
      by_cases hbig : k ≠ 0 ∧ tk = 200
      · -- too many tokens
        obtain ⟨σ', r1, r2, r3⟩ := c_refuse (σ := σ1) (why := 6) (pl := pl) (by decide) hplz
        have e83 : gI σ1 8 3 = 201 := by
          rw [a5, if_pos (by
            by_cases hp : pl < l
            · exact hp
            · exact absurd (hkb.2.2.mpr hp) hbig.1)]
          omega
        rw [e83, if_pos (by decide), a4, zb_of r1] at hcl
        rw [if_neg (fun h => hbig.1 (km0.mp h)), e31, gI_same ⟨by omega, by omega⟩, if_pos (by omega)] at hml
        refine ⟨σ', _, 6, _, _, (zend.now hcl) |> fun h => ⟨h.choose, by have := h.choose_spec.1; omega, h.choose_spec.2⟩, rfl, (zend.now hml) |> fun h => ⟨h.choose, by have := h.choose_spec.1; omega, h.choose_spec.2⟩, rfl, r2, by decide, by decide, fun _ => by rw [r3, gI_ni (by decide), gI_same hplz], fun h => absurd h (by decide)⟩
      · -- a token
        have e83 : gI σ1 8 3 = if k = 0 then tk else tk + 1 := by
          rw [a5, h83]
          by_cases hp : pl < l
          · rw [if_pos hp, if_neg (fun h0 => (hkb.2.2.mp h0) hp)]
          · rw [if_neg hp, if_pos (hkb.2.2.mpr hp)]
        have hle200 : gI σ1 8 3 ≤ 200 := by
          rw [e83]
          split <;> omega
        rw [if_neg (by omega)] at hcl
        -- the reference's state as it is asked
        obtain ⟨τ2, hτ2⟩ : ∃ τ2, τ2 = if k = 0 then sI τ1 177 5 pl else sI (sI τ1 177 5 pl) 177 31 (tk + 1) := ⟨_, rfl⟩
        have z2 : zfr 10917387003232704608371080719052805586377350962842863135268915759251170808785374795258817452183700893722888499109428067204505534464 τ τ2 := by
          rw [hτ2]
          split
          · exact zfr_sI (zfr_sub rfl zt1) rfl
          · exact zfr_sI (zfr_sI (zfr_sub rfl zt1) rfl) rfl
        have g2 : ∀ i : Int, i ≠ 5 → i ≠ 31 → gI τ2 177 i = gI τ1 177 i := by
          intro i h5 h31
          rw [hτ2]
          split
          · exact gI_ni h5
          · rw [gI_ni h31, gI_ni h5]
        have j2 : gJ τ2 177 29 = gJ τ1 177 29 := by
          rw [hτ2]
          split
          · exact gJ_sI
          · rw [gJ_sI, gJ_sI]
        have x31 : gI τ2 177 31 = if k = 0 then tk else tk + 1 := by
          rw [hτ2]
          by_cases h0 : k = 0
          · rw [if_pos h0, if_pos h0, gI_ni (by decide)]; exact e31
          · rw [if_neg h0, if_neg h0]; exact gI_same ⟨by omega, by omega⟩
        have hJ2 := hJ.fr z1 z2
        have hV2 := hV.fr (σ' := σ1) (τ' := τ2) z1 z2 rfl rfl rfl rfl rfl rfl
        have hCT1 : CT σ1 B l := hCT.of (z1.i rfl) (fun i => z1.ia (c := 9) rfl rfl i)
        have hMT2 : MT τ2 B l := hMT.of (z2.i rfl) (fun i => z2.ia (c := 178) rfl rfl i)
        have hvb : k = 3 → 0 ≤ tkV B l cur ∧ tkV B l cur < 1000 := by
          intro h3
          rw [hk] at h3
          have hd := tk3 hB cur0 curl h3
          exact hd
        have hv01 : 0 ≤ (if k = 3 then tkV B l cur else 0) ∧ (if k = 3 then tkV B l cur else 0) < 1000 := by
          by_cases h3 : k = 3
          · rw [if_pos h3]; exact hvb h3
          · rw [if_neg h3]; decide
        obtain ⟨-, ⟨w0, w4⟩, σ2, t1, t2⟩ := turned (k := k) (pl := pl) (w := tkW B l cur) (x := if k = 3 then tkV B l cur else 0) (cur := tkE B l cur) hJ2 hV2 hB hCT1 hMT2 a2 (by rw [g2 26 (by decide) (by decide)]; exact b2) (by omega) heb.2.2 hkb.1 hkb.2.1 (fun h0 => by
          by_cases h200 : tk = 200
          · exact absurd ⟨h0, h200⟩ hbig
          · omega) a3 a4 (by rw [g2 27 (by decide) (by decide)]; exact b3) (by rw [g2 28 (by decide) (by decide)]; exact b4) a6 (fun h2 => by rw [j2]; exact b5 h2) (fun h3 => by rw [if_pos h3]; exact a7 h3) (fun h3 => by rw [if_pos h3, g2 30 (by decide) (by decide)]; exact b6 h3) hv01.1 hv01.2
        have hcl2 : b_73_46 i σ = some (.inl (i + 1, σ2)) := by
          rw [hcl, t73 w0 w4, a3]
          unfold cTk at t1
          by_cases c0 : gI σ1 10 4 = 0
          · rw [if_pos c0] at t1
            rw [if_pos c0, if_pos rfl, zb_of t1]
          · rw [if_neg c0] at t1
            rw [if_neg c0]
            by_cases c1 : gI σ1 10 4 = 1
            · rw [if_pos c1] at t1
              rw [if_pos c1, if_neg (by decide), if_pos rfl, zb_of t1]
            · rw [if_neg c1] at t1
              rw [if_neg c1]
              by_cases c2 : gI σ1 10 4 = 2
              · rw [if_pos c2] at t1
                rw [if_pos c2, if_neg (by decide), if_neg (by decide), if_pos rfl, zb_of t1]
              · rw [if_neg c2] at t1
                rw [if_neg c2]
                by_cases c3 : gI σ1 10 4 = 3
                · rw [if_pos c3] at t1
                  rw [if_pos c3, if_neg (by decide), if_neg (by decide), if_neg (by decide), if_pos rfl, zb_of t1]
                · rw [if_neg c3] at t1
                  rw [if_neg c3, if_neg (by decide), if_neg (by decide), if_neg (by decide), if_neg (by decide), if_pos rfl, zb_of t1]
        have itk' : k ≠ 0 → i + 1 ≤ tk + 1 := fun _ => by omega
        -- the class's end once it has refused or is done
        have cEnd : gI σ2 10 15 ≠ 0 ∨ gI σ2 10 5 ≠ 0 → zend (fun (q : Int × zS) => b_73_46 q.1 q.2) (2 * N + 10) (i, σ) (.inl σ2) := by
          intro hh
          have hnow : b_73_46 (i + 1) σ2 = some (.inr (.inl σ2)) := by
            unfold b_73_46
            rw [zg_pos ⟨by omega, by omega⟩]
            by_cases h200 : 200 < i + 1
            · rw [if_pos h200]
            · rw [if_neg h200]
              by_cases c15 : gI σ2 10 15 = 0
              · rw [if_pos c15, if_neg (hh.resolve_left (fun h => h c15))]
              · rw [if_neg c15]
          obtain ⟨m, hm, e⟩ := zend.step (B := fun (q : Int × zS) => b_73_46 q.1 q.2) (q := (i, σ)) (q2 := (i + 1, σ2)) hcl2 (zend.now (B := fun (q : Int × zS) => b_73_46 q.1 q.2) (q := (i + 1, σ2)) hnow)
          exact ⟨m, by omega, e⟩
        rcases t2 with ⟨u1, u2, u3, u4⟩ | ⟨u1, τ3, q', u2, u3⟩
        · -- too much is open
          have hτ2' : τ2 = sI (sI τ1 177 5 pl) 177 31 (tk + 1) := by rw [hτ2, if_neg u1]
          have hml2 : b_157_56 q τ = some (.inr (.inr (6, τ2))) := by
            rw [hml, if_neg (fun h => u1 (km0.mp h)), e31, ← hτ2', x31, if_neg u1, if_neg (by omega), zo_of u2, zg_pos (by decide), if_neg (by decide)]
          refine ⟨σ2, τ2, 6, .inl σ2, .inr (6, τ2), cEnd (Or.inl (by omega)), rfl, (zend.now hml2) |> fun h => ⟨h.choose, by have := h.choose_spec.1; omega, h.choose_spec.2⟩, rfl, u3, by decide, by decide, fun _ => ?_, fun h => absurd h (by decide)⟩
          rw [u4, hτ2', gI_ni (by decide), gI_same hplz]
        · have e122 : b_157_56 q τ = j_157_56_122 q τ2 := by
            rw [hml]
            by_cases h0 : k = 0
            · rw [if_pos (km0.mpr h0)]
              rw [hτ2, if_pos h0]
            · have hτ2' : τ2 = sI (sI τ1 177 5 pl) 177 31 (tk + 1) := by rw [hτ2, if_neg h0]
              rw [if_neg (fun h => h0 (km0.mp h)), e31, ← hτ2', x31, if_neg h0, if_neg (by omega), zo_of (u1 h0), zg_pos (by decide), if_pos rfl]
          have p28 : gI τ2 177 28 = pl := by rw [g2 28 (by decide) (by decide)]; exact b4
          have hq'z : zR q' ∧ 0 ≤ q' := by
            rcases u3 with ⟨v', -, h, -⟩ | ⟨F, f1, f2, -, f3, -⟩ | ⟨h, -⟩
            · have : 0 ≤ q' ∧ q' ≤ 6 := by
                rcases h with h | h | h | h | h | h
                · omega
                all_goals have := h.1; omega
              exact ⟨⟨by omega, by omega⟩, by omega⟩
            · exact ⟨⟨by omega, by omega⟩, by omega⟩
            · exact ⟨⟨by omega, by omega⟩, by omega⟩
          obtain ⟨τ4, hτ4⟩ : ∃ τ4, τ4 = if q' = 105 then sI τ3 177 5 (gI τ3 177 5) else sI τ3 177 5 pl := ⟨_, rfl⟩
          have hml2 : b_157_56 q τ = some (.inl (q', τ4)) := by
            rw [e122]
            unfold j_157_56_122
            rw [zb_of u2, zg_pos hq'z.1, p28, hτ4]
            by_cases h105 : q' = 105
            · rw [if_pos h105, if_pos h105]
            · rw [if_neg h105, if_neg h105]
          have z3 : zfr 9232816789649062927566176657178949203215967063662808792152284000883481640670116826576054228832581229606108595140927899432923665793024 τ2 τ3 := zfr_sub rfl (fr_170 u2)
          have z4 : zfr 82631996098781074868989413504096379978550585370535152410581099409300723904538918228148651304964410605948901503127919788032 τ3 τ4 := by
            rw [hτ4]
            split
            · exact zfr_I rfl
            · exact zfr_I rfl
          have mEnd : 100 ≤ q' → zend (fun (q : Int × zS) => b_157_56 q.1 q.2) (2 * N + 10) (q, τ) (.inl (q', τ4)) := by
            intro h100
            have hnow : b_157_56 q' τ4 = some (.inr (.inl (q', τ4))) := by
              unfold b_157_56
              rw [zg_pos hq'z.1, if_neg (by omega)]
            obtain ⟨m, hm, e⟩ := zend.step (B := fun (q : Int × zS) => b_157_56 q.1 q.2) (q := (q, τ)) (q2 := (q', τ4)) hml2 (zend.now (B := fun (q : Int × zS) => b_157_56 q.1 q.2) (q := (q', τ4)) hnow)
            exact ⟨m, by omega, e⟩
          have zc : zfr 226597663259819065347149104455846189750700620929826175025285749952840994914248223623467444837777439230452168704 σ1 σ2 := fr_cTk t1
          rcases u3 with ⟨v', hv', hJ', hk0⟩ | ⟨F, f1, f2, f3, f4, f5, f6⟩ | ⟨f1, f2, f3, f4, v', hv', hJF⟩
          · -- it goes on
            have hJ4 : JX q' σ2 τ4 c fm v' (tk + 1) := hJ'.fr (zfr_rf _ _) (zfr_sub rfl z4)
            have hJ15 : gI σ2 10 15 = 0 ∧ gI σ2 10 5 = 0 := by
              rcases hJ' with ⟨-, S, l1, l1', h2, -⟩ | ⟨-, S, l1, l1', r, D, h2, -⟩ | ⟨-, S, l1, l1', D, h2, -⟩ | ⟨-, kb, plb, S, l1, l1', h2, -⟩ | ⟨-, f, S, l1, l1', h2, -⟩ | ⟨-, S, l1, l1', sg, h2, -⟩
              · exact h2.1.2.2.1
              · exact h2.1.2.2.1
              · exact h2.1.2.2.1
              · obtain ⟨_, _, _, _, g, _⟩ := h2
                exact g.2.2.1
              · exact h2.1.2.2.1
              · obtain ⟨_, _, _, g, _⟩ := h2
                exact g.2.2.1
            have zm : zfr 9232816789649062927566176657178949203215967063662808792152284000883481640670116826576054228832581229606108595140927899432923665793024 τ2 τ4 := zfr_tr z3 (zfr_sub rfl z4)
            have hV4 : WV σ2 τ4 v' nm := by
              have := hV2.fr (σ' := σ2) (τ' := τ4) zc zm rfl rfl rfl rfl rfl rfl
              obtain ⟨y1, y2, y3, -⟩ := hv'
              unfold WV at this ⊢
              rw [y2, y3]
              exact this
            -- the cursor stays where the token ended: no step of the parsers moves it
            have hN1 : N ≠ 0 := by
              intro hN0
              subst hN0
              have : tk = 200 := by omega
              exact hbig ⟨hk0, this⟩
            obtain ⟨N', rfl⟩ : ∃ N', N = N' + 1 := ⟨N - 1, by omega⟩
            have htk1 : tk + 1 ≤ 200 := by
              by_cases h200 : tk = 200
              · exact absurd ⟨hk0, h200⟩ hbig
              · omega
            have cur4 : gI τ4 177 26 = tkE B l cur := by
              rw [z4.i rfl]
              exact cursorKept hB hMT2 (by rw [g2 26 (by decide) (by decide)]; exact b2) (by omega) heb.2.2 u2
            obtain ⟨σ', τ', F, e, g, d1, d2, d3, d4, d5⟩ := prs_loop hB N' σ2 τ4 v' (i + 1) q' (tk + 1) (tkE B l cur) (by omega) (by omega) (by omega) (by omega) hJ4 hJ15.1 hJ15.2 hV4 (hCT1.of (zc.i rfl) (fun i => zc.ia (c := 9) rfl rfl i)) (hMT2.of (zm.i rfl) (fun i => zm.ia (c := 178) rfl rfl i)) (by rw [zc.i rfl]; exact a2) cur4 (by omega) heb.2.2 (by rw [zc.i rfl, e83, if_neg hk0]) (by rw [zm.i rfl, x31, if_neg hk0]) htk1
            refine ⟨σ', τ', F, e, g, ?_, d2, ?_, d4, ?_⟩
            · obtain ⟨m, hm, e'⟩ := zend.step (B := fun (q : Int × zS) => b_73_46 q.1 q.2) (q := (i, σ)) (q2 := (i + 1, σ2)) hcl2 d1
              exact ⟨m, by omega, e'⟩
            · obtain ⟨m, hm, e'⟩ := zend.step (B := fun (q : Int × zS) => b_157_56 q.1 q.2) (q := (q, τ)) (q2 := (q', τ4)) hml2 d3
              exact ⟨m, by omega, e'⟩
            · obtain ⟨p1, p2, p3, p4, p5⟩ := d5
              refine ⟨p1, p2, p3, p4, fun hF => ?_⟩
              obtain ⟨v2, y1, y2⟩ := p5 hF
              exact ⟨v2, hv'.tr y1, y2⟩
          · -- both refuse
            have hFz : zR (q' - 100) := ⟨by omega, by omega⟩
            have p5 : gI τ4 177 5 = if F = 5 then gI τ3 177 5 else pl := by
              rw [hτ4, f4]
              by_cases h5 : F = 5
              · rw [if_pos (by omega), if_pos h5, gI_same (zR_gI _ _ _)]
              · rw [if_neg (by omega), if_neg h5, gI_same hplz]
            have k27 : gI τ4 177 27 = km k := by
              rw [z4.i rfl]
              exact tokenKept hB hMT2 (by rw [g2 26 (by decide) (by decide)]; exact b2) (by omega) heb.2.2 u2 (by rw [g2 27 (by decide) (by decide)]; exact b3)
            refine ⟨σ2, τ4, if F = 3 ∧ k = 0 then 2 else F, .inl σ2, .inl (q', τ4), cEnd (Or.inl (by rw [f5]; split <;> omega)), rfl, mEnd (by omega), ?_, f5, by split <;> omega, by split <;> omega, fun _ => by rw [f6, p5], fun h => by split at h <;> omega⟩
            show zg (zR (q' - 100)) _ = _
            dsimp only
            rw [zg_pos hFz, k27, show q' - 100 = F by omega]
            by_cases h3 : F = 3
            · rw [if_pos h3]
              by_cases h0 : k = 0
              · rw [if_pos (km0.mpr h0), if_pos ⟨h3, h0⟩]
              · rw [if_neg (fun h => h0 (km0.mp h)), if_neg (fun h => h0 h.2)]
            · rw [if_neg h3, if_neg (fun h => h3 h.1)]
          · -- done
            refine ⟨σ2, τ4, 0, .inl σ2, .inl (q', τ4), cEnd (Or.inr (by omega)), rfl, mEnd (by omega), ?_, f4, by decide, by decide, fun h => absurd rfl h, fun _ => ⟨v', hv', ?_⟩⟩
            · show zg (zR (q' - 100)) _ = _
              dsimp only
              rw [zg_pos ⟨by omega, by omega⟩, show q' - 100 = 0 by omega, if_neg (by decide)]
            · obtain ⟨l1, l1', r, D, y1, y2, y3, y4, y5, y6⟩ := hJF
              have hrc : rco τ4 = rco τ3 := rcoFr (zfr_sub rfl z4)
              exact ⟨l1, l1', r, D, by rw [hrc]; exact y1, y2, y3, ⟨by rw [z4.i rfl]; exact y4.1, y4.2⟩, y5, fun h1 => ⟨(y6 h1).1, by rw [z4.ia (c := 195) rfl rfl]; exact (y6 h1).2⟩⟩
end PARSE
