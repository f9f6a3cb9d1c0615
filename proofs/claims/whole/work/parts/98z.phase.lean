/-! BOTH PARSERS: rows of endings: formulas. -/
abbrev isK (f : Fr) : Prop := f.p = 0 ∧ 9 ≤ f.k ∧ f.k ≤ 13
section PHASE
variable {c : Nat} {fm : Int} {v : Wd} {tk k least : Int}
/-- not, a link end -/
theorem closedK {σ τ : zS} {S : List Fr} {f : Fr} {len len' : Int} {D : Dn} (h : JB σ τ c fm v (f :: S) len len' 0 D tk) (hK : isK f) : ∃ σ' τ' len1 D', f_92 σ = some ((), σ') ∧ f_185 τ = some ((), τ') ∧ JB σ' τ' c fm v S len1 (len' + 1) 0 D' tk := by
  obtain ⟨hp, k1, k2⟩ := hK
  by_cases h9 : f.k = 9
  · obtain ⟨σ', τ', D', a1, a2, a3, -⟩ := closed_not h hp h9
    exact ⟨σ', τ', _, D', a1, a2, a3⟩
  · by_cases h13 : f.k = 13
    · obtain ⟨σ', τ', D', a1, a2, a3, -⟩ := closed_iff h hp h13
      exact ⟨σ', τ', _, D', a1, a2, a3⟩
    · obtain ⟨σ', τ', D', a1, a2, a3, -⟩ := closed_link h hp (by omega)
      exact ⟨σ', τ', _, D', a1, a2, a3⟩
theorem lnk_eq {f : Fr} (hok : fok f) : f_168 (mkd f) = some (if f.p = 0 ∧ 10 ≤ f.k ∧ f.k ≤ 13 then 1 else 0) := by
  have h := lvl_mkd hok
  have hs := stg_b f.k
  unfold f_168
  rw [zo_of h]
  by_cases c1 : f.p = 0 ∧ 20 ≤ f.k ∧ f.k ≤ 30
  · have h7 : 7 ≤ stg f.k := by
      have : f.k = 20 ∨ f.k = 21 ∨ f.k = 22 ∨ f.k = 23 ∨ f.k = 24 ∨ f.k = 25 ∨ f.k = 26 ∨ f.k = 27 ∨ f.k = 28 ∨ f.k = 29 ∨ f.k = 30 := by omega
      rcases this with e | e | e | e | e | e | e | e | e | e | e <;> rw [e] <;> decide
    rw [if_pos c1, zg_pos ⟨by omega, by omega⟩, if_pos (by omega), zo_of h, if_pos c1, zg_pos ⟨by omega, by omega⟩, if_neg (by omega), if_neg (by omega)]
  · rw [if_neg c1]
    by_cases c2 : f.p = 0 ∧ 9 ≤ f.k ∧ f.k ≤ 13
    · have hst : 1 ≤ stg f.k ∧ stg f.k ≤ 5 ∧ (stg f.k < 5 ↔ 10 ≤ f.k) := by
        have : f.k = 9 ∨ f.k = 10 ∨ f.k = 11 ∨ f.k = 12 ∨ f.k = 13 := by omega
        rcases this with e | e | e | e | e <;> rw [e] <;> decide
      rw [if_pos c2, zg_pos ⟨by omega, by omega⟩, if_pos (by omega), zo_of h, if_neg c1, if_pos c2, zg_pos ⟨by omega, by omega⟩]
      by_cases c3 : stg f.k < 5
      · rw [if_pos c3, if_pos ⟨c2.1, by omega, by omega⟩]
      · rw [if_neg c3, if_neg (by omega)]
    · rw [if_neg c2, zg_pos (by decide), if_neg (by decide), if_neg (by omega)]
theorem m_linkStep {τ τ' : zS} {len : Int} {S : List Fr} {f : Fr} (h : PMd τ fm (f :: S) len) (hok : fok f) (hz : zR least) (hK : isK f) (hn : f.k = 9 ∨ least ≤ stg f.k) (h185 : f_185 τ = some ((), τ')) : b_184_0 least τ = some (.inl τ') := by
  have h1 := m_last h
  have h2 := lvl_mkd hok
  have h3 := lnk_eq hok
  have hs := stg_b f.k
  rw [if_neg (fun hh => by have := hK.2; omega), if_pos hK] at h2
  have hm : mkd f = f.k + 6 := by rw [mkd_km hK.1 (by have := hK.2; omega)]; exact km_lo (by have := hK.2; omega) (by have := hK.2; omega)
  unfold b_184_0
  rw [zo_of h1, hm, zg_pos ⟨by have := hK.2; omega, by have := hK.2; omega⟩]
  rw [hm] at h1 h2 h3
  by_cases h9 : f.k = 9
  · rw [if_pos (by omega), zb_of h185]
  · rw [if_pos ⟨hK.1, by have := hK.2; omega, hK.2.2⟩] at h3
    rw [if_neg (by omega), zo_of h1, zo_of h3, zg_pos (by decide), if_neg (by decide), zo_of h1, zo_of h2, zg_pos ⟨by omega, by omega⟩, zg_pos hz, if_neg (by omega), zb_of h185]
theorem m_linkStop {τ : zS} {len : Int} {S : List Fr} {f : Fr} (h : PMd τ fm (f :: S) len) (hok : fok f) (hz : zR least) (hn : ¬ (isK f ∧ (f.k = 9 ∨ least ≤ stg f.k))) : b_184_0 least τ = some (.inr τ) := by
  have h1 := m_last h
  have h2 := lvl_mkd hok
  have h3 := lnk_eq hok
  have hs := stg_b f.k
  have hmz : zR (mkd f) ∧ (mkd f = 15 → isK f ∧ f.k = 9) := by
    rcases hok with ⟨hp, hk⟩ | ⟨hp, hk⟩
    · by_cases h14 : f.k = 14 ∨ f.k = 32
      · rw [mkd_68 hp h14]; exact ⟨by decide, fun h => absurd h (by decide)⟩
      · by_cases h58 : 5 ≤ f.k ∧ f.k ≤ 8
        · rw [mkd_106 hp h58]; exact ⟨by decide, fun h => absurd h (by decide)⟩
        · have hkm : mkd f = 66 ∨ mkd f = f.k + 10 ∧ 20 ≤ f.k ∨ mkd f = f.k + 6 ∧ 9 ≤ f.k ∧ f.k ≤ 13 := by
            unfold mkd
            rw [if_neg (by omega), if_neg (by omega), if_neg h14, if_neg h58]
            by_cases h31 : f.k = 31
            · rw [if_pos h31]; exact Or.inl rfl
            · rw [if_neg h31]
              by_cases h20 : 20 ≤ f.k
              · rw [km_hi h20]; exact Or.inr (Or.inl ⟨rfl, h20⟩)
              · rw [km_lo (by omega) (by omega)]; exact Or.inr (Or.inr ⟨rfl, by omega, by omega⟩)
          refine ⟨⟨by omega, by omega⟩, fun h15 => ⟨⟨hp, by omega, by omega⟩, by omega⟩⟩
    · have hm : mkd f = 62 ∨ mkd f = 63 ∨ mkd f = 64 ∨ mkd f = 65 := by
        unfold mkd
        by_cases h1 : f.p = 1
        · rw [if_pos h1]; split <;> omega
        · rw [if_neg h1, if_pos (by omega)]; split <;> omega
      exact ⟨⟨by omega, by omega⟩, fun h15 => by omega⟩
  unfold b_184_0
  rw [zo_of h1, zg_pos hmz.1]
  by_cases h15 : mkd f = 15
  · exact absurd ⟨(hmz.2 h15).1, Or.inl (hmz.2 h15).2⟩ hn
  · rw [if_neg h15, zo_of h1, zo_of h3]
    by_cases c1 : f.p = 0 ∧ 10 ≤ f.k ∧ f.k ≤ 13
    · rw [if_neg (by omega), if_pos ⟨c1.1, by omega, c1.2.2⟩] at h2
      rw [if_pos c1, zg_pos (by decide), if_neg (by decide), zo_of h1, zo_of h2, zg_pos ⟨by omega, by omega⟩, zg_pos hz, if_pos (by
        by_cases hlt : stg f.k < least
        · exact hlt
        · exact absurd ⟨⟨c1.1, by omega, c1.2.2⟩, Or.inr (by omega)⟩ hn)]
    · rw [if_neg c1, zg_pos (by decide), if_pos rfl]
theorem m_linkStop0 {τ : zS} {len : Int} (h : PMd τ fm [] len) : b_184_0 least τ = some (.inr τ) := by
  have h1 := m_last0 h
  unfold b_184_0
  rw [zo_of h1]
  by_cases hf : fm = 1
  · rw [if_pos hf] at h1 ⊢
    rw [zg_pos (by decide), if_neg (by decide), zo_of h1, show f_168 60 = some 0 from rfl]
    show zg (zR 0) _ = _
    rw [zg_pos (by decide), if_pos rfl]
  · rw [if_neg hf] at h1 ⊢
    rw [zg_pos (by decide), if_neg (by decide), zo_of h1, show f_168 61 = some 0 from rfl]
    show zg (zR 0) _ = _
    rw [zg_pos (by decide), if_pos rfl]
/-- links end -/
theorem phaseC (k0 : 0 ≤ k) (k42 : k ≤ 42) (hz : zR least) (hle : ∀ f : Fr, isK f → (EN k 0 f ↔ (f.k = 9 ∨ least ≤ stg f.k))) : ∀ (S : List Fr) (σ τ : zS) (i len len' : Int) (D : Dn), JB σ τ c fm v S len len' 0 D tk → 0 ≤ i → i + S.length ≤ 20 → ∃ S' σ' τ' i' len1 len1' D1, zrch (fun (q : Int × zS) => b_87_2 k q.1 q.2) S.length (i, σ) (i', σ') ∧ zrch (fun (q : zS) => b_184_0 least q) S.length τ τ' ∧ b_184_0 least τ' = some (.inr τ') ∧ JB σ' τ' c fm v S' len1 len1' 0 D1 tk ∧ (0 ≤ i' ∧ i' + S'.length ≤ 20) ∧ zfr 226194007503404812761105599978273022449120425491732557547507934317108896488056650297247121572430057109618425856 σ σ' ∧ zfr 6388230975254357436468666280265664852717551021665881389192784953736087493184333074984678011216073722803430184683639128275641023070208 τ τ' ∧ (∀ f S2, S' = f :: S2 → ¬ (isK f ∧ (f.k = 9 ∨ least ≤ stg f.k))) ∧ (S' = S ∨ S'.length < S.length) ∧ ∀ f S2, S = f :: S2 → ¬ (isK f ∧ (f.k = 9 ∨ least ≤ stg f.k)) → S' = S
  | [], σ, τ, i, len, len', D, h, i0, i1 => ⟨[], σ, τ, i, len, len', D, zrch.rf _, zrch.rf _, m_linkStop0 h.2.1, h, ⟨i0, i1⟩, zfr_rf _ _, zfr_rf _ _, fun f S2 e => (by cases e), Or.inl rfl, fun _ _ _ _ => rfl⟩
  | f :: S, σ, τ, i, len, len', D, h, i0, i1 => by
    have hok := h.2.2.1.2.ok
    by_cases hc : isK f ∧ (f.k = 9 ∨ least ≤ stg f.k)
    · rw [len_cons] at i1
      have hEN := (hle f hc.1).mpr hc.2
      have h88 := (c_ends h.1 h.2.2.1 h.2.2.2.2.1 k0 k42).1 hEN
      have h15 := h.1.2.2.1.1
      obtain ⟨σ1, τ1, l1, D1, e1, e2, hJ1⟩ := closedK h hc.1
      have hstep := c_turnEnd (k := k) i0 (by omega) h15 h88 e1
      have hmst := m_linkStep h.2.1 hok hz hc.1 hc.2 e2
      have z1 : zfr 226194007503404812761105599978273022449120425491732557547507934317108896488056650297247121572430057109618425856 σ σ1 := fr_92 e1
      have z2 : zfr 6388230975254357436468666280265664852717551021665881389192784953736087493184333074984678011216073722803430184683639128275641023070208 τ τ1 := fr_185 e2
      obtain ⟨S', σ', τ', i', l2, l2', D2, a1, a2, a3, a4, a5, a6, a7, a8, a9, -⟩ := phaseC k0 k42 hz hle S σ1 τ1 (i + 1) l1 (len' + 1) D1 hJ1 (by omega) (by omega)
      have rc1 := zrch.one (B := fun (q : Int × zS) => b_87_2 k q.1 q.2) (q := (i, σ)) (q2 := (i + 1, σ1)) hstep
      have rm1 := zrch.one (B := fun (q : zS) => b_184_0 least q) (q := τ) (q2 := τ1) hmst
      have hlen : (f :: S).length = S.length + 1 := List.length_cons
      rw [hlen]
      refine ⟨S', σ', τ', i', l2, l2', D2, (rc1.tr a1).le (by omega), (rm1.tr a2).le (by omega), a3, a4, a5, zfr_tr z1 a6, zfr_tr z2 a7, a8, Or.inr ?_, fun g S2 e hn => absurd (by injection e with e1 e2; rw [← e1]; exact hc) hn⟩
      rcases a9 with e | e
      · rw [e]; omega
      · omega
    · exact ⟨f :: S, σ, τ, i, len, len', D, (zrch.rf _).le (by omega), (zrch.rf _).le (by omega), m_linkStop h.2.1 hok hz hc, h, ⟨i0, i1⟩, zfr_rf _ _, zfr_rf _ _, fun g S2 e => (by injection e with e1 e2; rw [← e1]; exact hc), Or.inl rfl, fun _ _ _ _ => rfl⟩
/-- all that a token which is no link ends behind a formula -/
theorem phaseD (k0 : 0 ≤ k) (k42 : k ≤ 42) (hj : js k 0 = 0) : ∀ (N : Nat) (S : List Fr) (v : Wd) (σ τ : zS) (i len len' : Int) (D : Dn), S.length ≤ N → JB σ τ c fm v S len len' 0 D tk → 0 ≤ i → i + S.length ≤ 20 → ∃ S' v' σ' τ' i' len1 len1' D1, vLe v v' ∧ zrch (fun (q : Int × zS) => b_87_2 k q.1 q.2) (21 * S.length + 21) (i, σ) (i', σ') ∧ zrch (fun (q : Int × zS) => b_186_2 q.1 q.2) (S.length + 1) (1, τ) (0, τ') ∧ JB σ' τ' c fm v' S' len1 len1' 0 D1 tk ∧ (0 ≤ i' ∧ i' + S'.length ≤ 20) ∧ zfr 226194007503404812761105599978273022449120425491732557547507934317108896488056650297247121572430057109618425856 σ σ' ∧ zfr 6388230975254357436468666280265664852717551021665881389192784953736087493184333074984678011216073722803430184683639128275641023070208 τ τ' ∧ (∀ f S2, S' = f :: S2 → f.p = 0 ∧ f.k = 37 ∨ f.p = 2 ∧ f.k = 39)
  | N, S, v, σ, τ, i, len, len', D, hN, h, i0, i1 => by
    have hF := zF_big
    have hle : ∀ f : Fr, isK f → (EN k 0 f ↔ (f.k = 9 ∨ (1 : Int) ≤ stg f.k)) := by
      intro f hK
      have hst : 1 ≤ stg f.k := by
        have : f.k = 9 ∨ f.k = 10 ∨ f.k = 11 ∨ f.k = 12 ∨ f.k = 13 := by have := hK.2; omega
        rcases this with e | e | e | e | e <;> rw [e] <;> decide
      refine ⟨fun _ => Or.inr hst, fun _ => ⟨fun h => h.1 rfl, by have := hK.1; omega, fun h => by have := hK.1; omega, fun _ => Or.inl (by omega)⟩⟩
    obtain ⟨S', σ', τ', i', l1, l1', D1, a1, a2, a3, a4, a5, a6, a7, a8, a9, -⟩ := phaseC (tk := tk) k0 k42 (least := 1) (by decide) hle S σ τ i len len' D h i0 i1
    have e184 : f_184 1 τ = some ((), τ') := by
      unfold f_184
      rw [zo_of (a2.ends (n := zF) a3 (by have := h.1.2.2.2.1.2; omega))]
    -- what stands on top now
    cases S' with
    | nil =>
      refine ⟨[], v, σ', τ', i', l1, l1', D1, vLe.rf h.2.2.2.2.2.2.2.2.1, a1.le (by omega), (zrch.one ?_).le (by omega), a4, a5, a6, a7, fun f S2 e => by cases e⟩
      show b_186_2 1 τ = _
      have hl := m_last0 a4.2.1
      unfold b_186_2
      rw [zg_pos (by decide), if_neg (by decide), zb_of e184, zo_of hl]
      by_cases hf : fm = 1
      · rw [if_pos hf, zg_pos (by decide), if_neg (by decide)]
        unfold j_186_2_25
        rw [zg_pos (by decide), if_pos rfl]
      · rw [if_neg hf, zg_pos (by decide), if_neg (by decide)]
        unfold j_186_2_25
        rw [zg_pos (by decide), if_pos rfl]
    | cons f S2 =>
      have hok := a4.2.2.1.2.ok
      have hAW : AW fm (f :: S2) := (a4.2.2.2.2.2.1 rfl).1
      have hnK : ¬ isK f := fun hK => a8 f S2 rfl ⟨hK, by
        have hst : 1 ≤ stg f.k := by
          have : f.k = 9 ∨ f.k = 10 ∨ f.k = 11 ∨ f.k = 12 ∨ f.k = 13 := by have := hK.2; omega
          rcases this with e | e | e | e | e <;> rw [e] <;> decide
        exact Or.inr hst⟩
      have hl := m_last a4.2.1
      by_cases hb : f.p = 2 ∧ f.k ≠ 39
      · -- a quantifier ends
        have hmk : mkd f = 63 := by unfold mkd; rw [if_neg (by omega), if_pos hb.1, if_neg hb.2]
        rw [hmk] at hl
        obtain ⟨σ2, τ2, v2, D2, b1, b2, ⟨b3, b3'⟩, b4, b5, b6, b7, b8, b9, b10, b11, b12⟩ := closed_body a4 hb.1
        rw [if_neg hb.2] at b7 b8
        have hJ2 : JB σ2 τ2 c fm v2 S2 l1 (l1' + 1) 0 D2 tk := ⟨b5, b6, b4, b7, b8, fun _ => ⟨b11 hb.2, b10⟩, fun h => by omega, ⟨b12.1, b12.2, a4.2.2.2.2.2.2.2.1.2.2⟩, ⟨by have := b3.2.2.2.1; have := b3.2.2.2.2.1; omega, b3'⟩⟩
        have hEN : EN k 0 f := ⟨fun h => h.1 rfl, by omega, fun _ => ⟨hb.2, hj⟩, fun h => by omega⟩
        have h88 := (c_ends a4.1 a4.2.2.1 a4.2.2.2.2.1 k0 k42).1 hEN
        have hlen2 : ((f :: S2).length : Int) = S2.length + 1 := len_cons
        have ht := a4.1.top
        have e92 : f_92 σ' = some ((), σ2) := by
          obtain ⟨t8, t20, ⟨t1, t2, -⟩, -⟩ := ht
          unfold f_92
          rw [t8, sln, zg_pos ⟨by omega, by omega⟩, if_neg (by omega), zg_pos ⟨by omega, by omega⟩, t2, if_pos hb.1, zb_of b1]
        have hstep := c_turnEnd (k := k) a5.1 (by omega) a4.1.2.2.1.1 h88 e92
        have hlt : S2.length < S.length := by
          have : (f :: S2).length = S2.length + 1 := List.length_cons
          rcases a9 with e | e
          · rw [← e]; omega
          · omega
        obtain ⟨N', rfl⟩ : ∃ N', N = N' + 1 := ⟨N - 1, by omega⟩
        obtain ⟨S3, v3, σ3, τ3, i3, l3, l3', D3, d0, d1, d2, d3, d4, d5, d6, d7⟩ := phaseD k0 k42 hj N' S2 v2 σ2 τ2 (i' + 1) l1 (l1' + 1) D2 (by omega) hJ2 (by omega) (by omega)
        have hmst : b_186_2 1 τ = some (.inl (1, τ2)) := by
          unfold b_186_2
          rw [zg_pos (by decide), if_neg (by decide), zb_of e184, zo_of hl, zg_pos (by decide), if_pos rfl]
          unfold j_186_2_25
          rw [zg_pos (by decide), if_neg (by decide), zb_of b2]
        have z1 : zfr 226194007503404812761105599978273022449120425491732557547507934317108896488056650297247121572430057109618425856 σ' σ2 := fr_92 e92
        have z2 : zfr 6388230975254357436468666280265664852717551021665881389192784953736087493184333074984678011216073722803430184683639128275641023070208 τ' τ2 := fr_187 b2
        refine ⟨S3, v3, σ3, τ3, i3, l3, l3', D3, ?_, ((a1.tr (zrch.one (B := fun (q : Int × zS) => b_87_2 k q.1 q.2) (q := (i', σ')) (q2 := (i' + 1, σ2)) hstep)).tr d1).le (by have := h.1.2.2.2.1.2; omega), ((zrch.one (B := fun (q : Int × zS) => b_186_2 q.1 q.2) (q := (1, τ)) (q2 := (1, τ2)) hmst).tr d2).le (by omega), d3, d4, zfr_tr (zfr_tr a6 z1) d5, zfr_tr (zfr_tr a7 z2) d6, d7⟩
        · obtain ⟨u1, u2, u3, u4, u5, u6⟩ := b3
          obtain ⟨w1, w2, w3, w4, w5, w6⟩ := d0
          refine ⟨w1.trans u1, w2.trans u2, w3.trans u3, u4, by omega, fun x x0 x1 => ?_⟩
          obtain ⟨p1, p2⟩ := u6 x x0 x1
          obtain ⟨q1, q2⟩ := w6 x x0 (by omega)
          exact ⟨q1.trans p1, q2.trans p2⟩
      · refine ⟨f :: S2, v, σ', τ', i', l1, l1', D1, vLe.rf h.2.2.2.2.2.2.2.2.1, a1.le (by omega), (zrch.one ?_).le (by omega), a4, a5, a6, a7, fun g S3 e => ?_⟩
        · show b_186_2 1 τ = _
          have hm63 : mkd f ≠ 63 := by
            intro h63
            have h2 := (mkd_body a4.2.2.1.2).mp (Or.inl h63)
            apply hb
            refine ⟨h2, fun h39 => ?_⟩
            unfold mkd at h63
            rw [if_neg (by omega), if_pos h2, if_pos h39] at h63
            omega
          have hmz : zR (mkd f) := by
            rcases hok with ⟨hp, hk⟩ | ⟨hp, hk⟩
            · unfold mkd
              rw [if_neg (by omega), if_neg (by omega)]
              split
              · decide
              · split
                · decide
                · split
                  · decide
                  · exact zR_km (by omega) (by omega)
            · unfold mkd
              by_cases h1 : f.p = 1
              · rw [if_pos h1]; split <;> decide
              · rw [if_neg h1, if_pos (by omega)]; split <;> decide
          unfold b_186_2
          rw [zg_pos (by decide), if_neg (by decide), zb_of e184, zo_of hl, zg_pos hmz, if_neg hm63]
          unfold j_186_2_25
          rw [zg_pos (by decide), if_pos rfl]
        · injection e with e1 e2
          rw [← e1]
          have hA : f.p = 2 ∨ (f.p = 0 ∧ (9 ≤ f.k ∧ f.k ≤ 13 ∨ f.k = 37)) := hAW
          rcases hA with hp | ⟨hp, hk⟩
          · right
            refine ⟨hp, ?_⟩
            by_cases h39 : f.k = 39
            · exact h39
            · exact absurd ⟨hp, h39⟩ hb
          · left
            refine ⟨hp, ?_⟩
            rcases hk with hk | hk
            · exact absurd ⟨hp, hk⟩ hnK
            · exact hk
end PHASE
