/-! BOTH PARSERS: rows of endings. -/
section LVL
variable {f : Fr}
abbrev isP (f : Fr) : Prop := f.p = 0 ∧ 28 ≤ f.k ∧ f.k ≤ 30
theorem lv_lo : ∀ k : Fin 5, f_166 (15 + (k.val : Int)) = some (stg (9 + (k.val : Int))) := by decide
theorem lv_hi : ∀ k : Fin 11, f_166 (30 + (k.val : Int)) = some (stg (20 + (k.val : Int)) + 4) := by decide
theorem lvl_mkd (h : fok f) : f_166 (mkd f) = some (if f.p = 0 ∧ 20 ≤ f.k ∧ f.k ≤ 30 then stg f.k + 4 else if f.p = 0 ∧ 9 ≤ f.k ∧ f.k ≤ 13 then stg f.k else 0) := by
  rcases h with ⟨hp, hk⟩ | ⟨hp, hk⟩
  · by_cases h2 : 20 ≤ f.k ∧ f.k ≤ 30
    · have hm : mkd f = f.k + 10 := by
        unfold mkd km
        rw [if_neg (by omega), if_neg (by omega), if_neg (by omega), if_neg (by omega), if_neg (by omega), if_neg (by omega), if_neg (by omega), if_neg (by omega), if_neg (by omega), if_neg (by omega)]
      have ht := lv_hi ⟨(f.k - 20).toNat, by omega⟩
      dsimp only at ht
      rw [show (30 : Int) + ((f.k - 20).toNat : Nat) = f.k + 10 by omega, show (20 : Int) + ((f.k - 20).toNat : Nat) = f.k by omega] at ht
      rw [hm, if_pos ⟨hp, h2⟩, ht]
    · rw [if_neg (fun h => h2 h.2)]
      by_cases h3 : 9 ≤ f.k ∧ f.k ≤ 13
      · have hm : mkd f = f.k + 6 := by rw [mkd_km hp (by omega)]; exact km_lo (by omega) (by omega)
        have ht := lv_lo ⟨(f.k - 9).toNat, by omega⟩
        dsimp only at ht
        rw [show (15 : Int) + ((f.k - 9).toNat : Nat) = f.k + 6 by omega, show (9 : Int) + ((f.k - 9).toNat : Nat) = f.k by omega] at ht
        rw [hm, if_pos ⟨hp, h3⟩, ht]
      · rw [if_neg (fun h => h3 h.2)]
        have hm : mkd f = 68 ∨ mkd f = 106 ∨ mkd f = 66 ∨ mkd f = 45 ∨ mkd f = 47 := by
          unfold mkd
          rw [if_neg (by omega), if_neg (by omega)]
          by_cases a1 : f.k = 14 ∨ f.k = 32
          · rw [if_pos a1]; omega
          · rw [if_neg a1]
            by_cases a2 : 5 ≤ f.k ∧ f.k ≤ 8
            · rw [if_pos a2]; omega
            · rw [if_neg a2]
              by_cases a3 : f.k = 31
              · rw [if_pos a3]; omega
              · rw [if_neg a3, km_hi (by omega)]; omega
        rcases hm with e | e | e | e | e <;> rw [e] <;> rfl
  · rw [if_neg (by omega), if_neg (by omega)]
    have hm : mkd f = 62 ∨ mkd f = 63 ∨ mkd f = 64 ∨ mkd f = 65 := by
      unfold mkd
      by_cases h1 : f.p = 1
      · rw [if_pos h1]; split <;> omega
      · rw [if_neg h1, if_pos (by omega)]; split <;> omega
    rcases hm with e | e | e | e <;> rw [e] <;> rfl
end LVL
section PHASE
variable {c : Nat} {fm : Int} {v : Wd} {tk k least : Int}
/-- one ending of the class -/
theorem c_turnEnd {σ σ' : zS} {i : Int} (i0 : 0 ≤ i) (i1 : i < 20) (h15 : gI σ 10 15 = 0) (h88 : f_88 k σ = some 1) (h92 : f_92 σ = some ((), σ')) : b_87_2 k i σ = some (.inl (i + 1, σ')) := by
  unfold b_87_2
  rw [zg_pos ⟨by omega, by omega⟩, if_pos i1, if_pos h15, zo_of h88, zg_pos (by decide), if_neg (by decide), zb_of h92]
theorem m_joint0 {τ : zS} {len : Int} (h : PMd τ fm [] len) (hl : 11 ≤ least) (hl2 : least ≤ 100) : b_177_0 least τ = some (.inr (.inl τ)) := by
  have h1 := m_last0 h
  have h2 : f_166 (if fm = 1 then 60 else 61) = some 0 := by
    by_cases hf : fm = 1
    · rw [if_pos hf]; rfl
    · rw [if_neg hf]; rfl
  unfold b_177_0
  rw [zo_of h1, zo_of h2, zg_pos (by decide), zg_pos ⟨by omega, by omega⟩, if_pos (by omega)]
theorem m_jointStop {τ : zS} {len : Int} {S : List Fr} {f : Fr} (h : PMd τ fm (f :: S) len) (hok : fok f) (hl : 11 ≤ least) (hl2 : least ≤ 100) (hn : ¬ ((isJ f ∨ isP f) ∧ least ≤ stg f.k + 4)) : b_177_0 least τ = some (.inr (.inl τ)) := by
  have h1 := m_last h
  have h2 := lvl_mkd hok
  have hs := stg_b f.k
  unfold b_177_0
  rw [zo_of h1, zo_of h2]
  by_cases c1 : f.p = 0 ∧ 20 ≤ f.k ∧ f.k ≤ 30
  · rw [if_pos c1, zg_pos ⟨by omega, by omega⟩, zg_pos ⟨by omega, by omega⟩, if_pos (by
      by_cases hlt : stg f.k + 4 < least
      · exact hlt
      · exfalso
        apply hn
        refine ⟨?_, by omega⟩
        by_cases h27 : f.k ≤ 27
        · exact Or.inl ⟨c1.1, c1.2.1, h27⟩
        · exact Or.inr ⟨c1.1, by omega, c1.2.2⟩)]
  · rw [if_neg c1]
    by_cases c2 : f.p = 0 ∧ 9 ≤ f.k ∧ f.k ≤ 13
    · have : stg f.k ≤ 5 := by
        have : f.k = 9 ∨ f.k = 10 ∨ f.k = 11 ∨ f.k = 12 ∨ f.k = 13 := by omega
        rcases this with e | e | e | e | e <;> rw [e] <;> decide
      rw [if_pos c2, zg_pos ⟨by omega, by omega⟩, zg_pos ⟨by omega, by omega⟩, if_pos (by omega)]
    · rw [if_neg c2, zg_pos (by decide), zg_pos ⟨by omega, by omega⟩, if_pos (by omega)]
theorem m_jointStep {τ τ' : zS} {len : Int} {S : List Fr} {f : Fr} {x : Int} (h : PMd τ fm (f :: S) len) (hok : fok f) (hl : 11 ≤ least) (hl2 : least ≤ 100) (hn : (isJ f ∨ isP f) ∧ least ≤ stg f.k + 4) (h179 : f_179 τ = some (x, τ')) (hx : x = 0 ∨ x = 5) : b_177_0 least τ = if x = 0 then some (.inl τ') else some (.inr (.inr (x, τ'))) := by
  have h1 := m_last h
  have h2 := lvl_mkd hok
  have hs := stg_b f.k
  have c1 : f.p = 0 ∧ 20 ≤ f.k ∧ f.k ≤ 30 := by
    rcases hn.1 with h | h
    · exact ⟨h.1, by have := h.2; omega⟩
    · exact ⟨h.1, by have := h.2; omega⟩
  rw [if_pos c1] at h2
  unfold b_177_0
  rw [zo_of h1, zo_of h2, zg_pos ⟨by omega, by omega⟩, zg_pos ⟨by omega, by omega⟩, if_neg (by omega), zo_of h1, zo_of h2, zg_pos ⟨by omega, by omega⟩, if_pos (by omega), zb_of h179, zg_pos ⟨by omega, by omega⟩]
  rcases hx with rfl | rfl
  · rw [if_neg (by decide), if_pos rfl]
  · rw [if_pos (by decide), if_neg (by decide)]
/-- a joint or a prefix ends -/
theorem closedA {σ τ : zS} {S : List Fr} {f : Fr} {len len' r : Int} {D : Dn} (h : JB σ τ c fm v (f :: S) len len' r D tk) (hJP : isJ f ∨ isP f) (hr : 1 ≤ r) : ∃ σ1 τ1 x, f_92 σ = some ((), σ1) ∧ f_179 τ = some (x, τ1) ∧ (x = 0 ∨ x = 5) ∧ (x = 5 → gI σ1 10 15 = 5 ∧ gI σ1 10 16 = f.pl ∧ gI τ1 177 5 = f.pl) ∧ (x = 0 → ∃ r1 D1, 1 ≤ r1 ∧ JB σ1 τ1 c fm v S (len + 1) (len' + 1) r1 D1 tk) := by
  rcases hJP with hJ | hP
  · obtain ⟨σ1, τ1, a1, a2, a3, a4⟩ := closed_joint h hJ hr
    by_cases hf : fitv f.k f.r r = -1
    · rw [if_pos hf] at a2
      exact ⟨σ1, τ1, 5, a1, a2, Or.inr rfl, fun _ => a3 hf, fun h => absurd h (by decide)⟩
    · rw [if_neg hf] at a2
      obtain ⟨D1, b0, b1, b2⟩ := a4 hf
      exact ⟨σ1, τ1, 0, a1, a2, Or.inl rfl, fun h => absurd h (by decide), fun _ => ⟨_, D1, b0, b1⟩⟩
  · obtain ⟨σ1, τ1, a1, a2, a3, a4⟩ := closed_prefix h hP.1 hP.2 hr
    by_cases h2 : r = 2
    · rw [if_pos h2] at a2
      obtain ⟨D1, b1, b2⟩ := a4 h2
      exact ⟨σ1, τ1, 0, a1, a2, Or.inl rfl, fun h => absurd h (by decide), fun _ => ⟨2, D1, by decide, b1⟩⟩
    · rw [if_neg h2] at a2
      exact ⟨σ1, τ1, 5, a1, a2, Or.inr rfl, fun _ => a3 h2, fun h => absurd h (by decide)⟩
/-- joints end -/
theorem phaseA (k0 : 0 ≤ k) (k42 : k ≤ 42) (hl : 11 ≤ least) (hl2 : least ≤ 100) (hle : ∀ (f : Fr) (r : Int), isJ f ∨ isP f → 1 ≤ r → (js k r ≤ stg f.k ↔ least ≤ stg f.k + 4)) : ∀ (S : List Fr) (σ τ : zS) (i len len' r : Int) (D : Dn), JB σ τ c fm v S len len' r D tk → 1 ≤ r → 0 ≤ i → i + S.length ≤ 20 → (∃ σ' τ1 τ' i' P, zrch (fun (q : Int × zS) => b_87_2 k q.1 q.2) S.length (i, σ) (i', σ') ∧ (0 ≤ i' ∧ i' ≤ 20) ∧ (gI σ' 10 15 = 5 ∧ gI σ' 10 16 = P) ∧ zrch (fun (q : zS) => b_177_0 least q) S.length τ τ1 ∧ b_177_0 least τ1 = some (.inr (.inr (5, τ'))) ∧ gI τ' 177 5 = P ∧ zfr 9227444742116703848775743479697171978540558966829268147537891196696040811836811250765244167405547617465784526642884130887350756573184 τ τ') ∨ (∃ S' σ' τ' i' len1 len1' r1 D1, zrch (fun (q : Int × zS) => b_87_2 k q.1 q.2) S.length (i, σ) (i', σ') ∧ zrch (fun (q : zS) => b_177_0 least q) S.length τ τ' ∧ b_177_0 least τ' = some (.inr (.inl τ')) ∧ JB σ' τ' c fm v S' len1 len1' r1 D1 tk ∧ 1 ≤ r1 ∧ (0 ≤ i' ∧ i' + S'.length ≤ 20) ∧ zfr 226194007503404812761105599978273022449120425491732557547507934317108896488056650297247121572430057109618425856 σ σ' ∧ zfr 9227444742116703848775743479697171978540558966829268147537891196696040811836811250765244167405547617465784526642884130887350756573184 τ τ' ∧ (∀ f S2, S' = f :: S2 → ¬ ((isJ f ∨ isP f) ∧ least ≤ stg f.k + 4)) ∧ (S' = S ∨ S'.length < S.length) ∧ ∀ f S2, S = f :: S2 → ¬ ((isJ f ∨ isP f) ∧ least ≤ stg f.k + 4) → S' = S)
  | [], σ, τ, i, len, len', r, D, h, hr, i0, i1 => by
    right
    exact ⟨[], σ, τ, i, len, len', r, D, zrch.rf _, zrch.rf _, m_joint0 h.2.1 hl hl2, h, hr, ⟨i0, i1⟩, zfr_rf _ _, zfr_rf _ _, fun f S2 e => (by cases e), Or.inl rfl, fun _ _ _ _ => rfl⟩
  | f :: S, σ, τ, i, len, len', r, D, h, hr, i0, i1 => by
    have hok := h.2.2.1.2.ok
    by_cases hc : (isJ f ∨ isP f) ∧ least ≤ stg f.k + 4
    · rw [len_cons] at i1
      have hp0 : f.p = 0 := by rcases hc.1 with h | h <;> exact h.1
      have hkr : 20 ≤ f.k ∧ f.k ≤ 30 := by
        rcases hc.1 with h | h
        · have := h.2; omega
        · have := h.2; omega
      have hEN : EN k r f := by
        refine ⟨fun h => by omega, by omega, fun h => by omega, fun _ => ?_⟩
        have := (hle f r hc.1 hr).mpr hc.2
        have h7 : stg f.k ≠ 0 := by omega
        by_cases he : js k r < stg f.k
        · exact Or.inl he
        · exact Or.inr ⟨by omega, h7, by omega⟩
      have h88 := (c_ends h.1 h.2.2.1 h.2.2.2.2.1 k0 k42).1 hEN
      have h15 := h.1.2.2.1.1
      obtain ⟨σ1, τ1, x, e1, e2, hx, hbad, hgood⟩ := closedA h hc.1 hr
      have hstep := c_turnEnd (k := k) i0 (by omega) h15 h88 e1
      have hmst := m_jointStep h.2.1 hok hl hl2 hc e2 hx
      have z1 : zfr 226194007503404812761105599978273022449120425491732557547507934317108896488056650297247121572430057109618425856 σ σ1 := fr_92 e1
      have z2 : zfr 9227444742116703848775743479697171978540558966829268147537891196696040811836811250765244167405547617465784526642884130887350756573184 τ τ1 := fr_179 e2
      rcases hx with hx | hx
      · rw [if_pos hx] at hmst
        obtain ⟨r1, D1, hr1, hJ1⟩ := hgood hx
        have ih := phaseA k0 k42 hl hl2 hle S σ1 τ1 (i + 1) (len + 1) (len' + 1) r1 D1 hJ1 hr1 (by omega) (by omega)
        have rc1 := zrch.one (B := fun (q : Int × zS) => b_87_2 k q.1 q.2) (q := (i, σ)) (q2 := (i + 1, σ1)) hstep
        have rm1 := zrch.one (B := fun (q : zS) => b_177_0 least q) (q := τ) (q2 := τ1) hmst
        have hlen : (f :: S).length = S.length + 1 := List.length_cons
        rw [hlen]
        rcases ih with ⟨σ', τ2, τ', i', P, a1, a2, a3, a4, a5, a6, a7⟩ | ⟨S', σ', τ', i', l1, l1', r', D', a1, a2, a3, a4, a5, a6, a7, a8, a9, a10, -⟩
        · left
          exact ⟨σ', τ2, τ', i', P, (rc1.tr a1).le (by omega), a2, a3, (rm1.tr a4).le (by omega), a5, a6, zfr_tr z2 a7⟩
        · right
          refine ⟨S', σ', τ', i', l1, l1', r', D', (rc1.tr a1).le (by omega), (rm1.tr a2).le (by omega), a3, a4, a5, a6, zfr_tr z1 a7, zfr_tr z2 a8, a9, Or.inr ?_, fun g S2 e hn => absurd (by injection e with e1 e2; rw [← e1]; exact hc) hn⟩
          rcases a10 with e | e
          · rw [e]; omega
          · omega
      · left
        rw [if_neg (by omega), hx] at hmst
        obtain ⟨b1, b2, b3⟩ := hbad hx
        have hlen : (f :: S).length = S.length + 1 := List.length_cons
        rw [hlen]
        exact ⟨σ1, τ, τ1, i + 1, f.pl, (zrch.one (B := fun (q : Int × zS) => b_87_2 k q.1 q.2) (q := (i, σ)) (q2 := (i + 1, σ1)) hstep).le (by omega), ⟨by omega, by omega⟩, ⟨b1, b2⟩, (zrch.rf _).le (by omega), hmst, b3, z2⟩
    · right
      exact ⟨f :: S, σ, τ, i, len, len', r, D, (zrch.rf _).le (by omega), (zrch.rf _).le (by omega), m_jointStop h.2.1 hok hl hl2 hc, h, hr, ⟨i0, i1⟩, zfr_rf _ _, zfr_rf _ _, fun g S2 e => (by injection e with e1 e2; rw [← e1]; exact hc), Or.inl rfl, fun _ _ _ _ => rfl⟩
end PHASE
