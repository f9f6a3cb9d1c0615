/-! BOTH PARSERS: a token that is no joint behind an expression. -/
section MTURN
variable {τ τ0 : zS} {k W : Int}
theorem m176 (k0 : 0 ≤ k) (k42 : k ≤ 42) (hk : ¬ (20 ≤ k ∧ k ≤ 27)) (hkm : gI τ 177 27 = km k) (h181 : f_181 τ = some (0, τ0)) (hW : f_178 τ0 = some W) (km8 : gI τ0 177 27 = km k) : f_176 τ = if km k = 46 then (zg (zR W) (if W = 45 then some (2, sI τ0 177 38 (gI τ0 177 38 - 1)) else j_176_88 W τ0)) else j_176_88 W τ0 := by
  obtain ⟨kl, kj, kv⟩ := kt_all k0 k42
  rw [if_neg hk] at kj
  unfold f_176
  rw [hkm, zo_of kj, zg_pos (by decide), if_pos rfl, zb_of h181, zg_pos (by decide), if_neg (by decide), zo_of hW, km8]
theorem m_88d (hz : zR W) (km8 : gI τ0 177 27 = km k) (k0 : 0 ≤ k) (k42 : k ≤ 42) (h52 : k = 42 → W ≠ 62 ∧ W ≠ 64) (h66 : W = 66 → k ≠ 32 ∧ k ≠ 33 ∧ k ≠ 34) {y : Int} (h169 : f_169 W = some y) (hy : k = 14 ∨ k = 32 → y = 0) : j_176_88 W τ0 = j_176_302 W τ0 := by
  have i52 : km k = 52 ↔ k = 42 := km_inj (m := 42) k0 k42 (by decide) (by decide)
  have i42 : km k = 42 ↔ k = 32 := km_inj (m := 32) k0 k42 (by decide) (by decide)
  have i43 : km k = 43 ↔ k = 33 := km_inj (m := 33) k0 k42 (by decide) (by decide)
  have i44 : km k = 44 ↔ k = 34 := km_inj (m := 34) k0 k42 (by decide) (by decide)
  have i20 : km k = 20 ↔ k = 14 := by
    unfold km
    repeat' split
    all_goals omega
  have e251 : k = 14 ∨ k = 32 → j_176_251 W τ0 = j_176_302 W τ0 := by
    intro h
    have := hy h
    unfold j_176_251
    rw [zo_of h169, this, zg_pos (by decide), if_pos rfl]
  have e233 : j_176_233 W τ0 = j_176_302 W τ0 := by
    unfold j_176_233
    rw [km8]
    by_cases c1 : km k = 20
    · rw [if_pos c1]; exact e251 (Or.inl (i20.mp c1))
    · rw [if_neg c1]
      by_cases c2 : km k = 42
      · rw [if_pos c2]; exact e251 (Or.inr (i42.mp c2))
      · rw [if_neg c2]
  have e167 : j_176_167 W τ0 = j_176_302 W τ0 := by
    unfold j_176_167
    rw [zg_pos hz, km8]
    by_cases c1 : W = 66
    · obtain ⟨x1, x2, x3⟩ := h66 c1
      rw [if_pos c1, if_neg (fun h => x1 (i42.mp h)), if_neg (fun h => x2 (i43.mp h)), if_neg (fun h => x3 (i44.mp h)), e233]
    · rw [if_neg c1, e233]
  unfold j_176_88
  rw [km8]
  by_cases c1 : km k = 52
  · obtain ⟨x1, x2⟩ := h52 (i52.mp c1)
    rw [if_pos c1, zg_pos hz, if_neg x1, if_neg x2, e167]
  · rw [if_neg c1, e167]
/-- in, = where a formula must be -/
theorem m_88c (hz : zR W) (km8 : gI τ0 177 27 = km k) (hk : k = 14 ∨ k = 32) (h66 : W ≠ 66) : j_176_88 W τ0 = j_176_251 W τ0 := by
  have hkm : km k = 20 ∨ km k = 42 := by
    rcases hk with e | e
    · rw [e]; exact Or.inl rfl
    · rw [e]; exact Or.inr rfl
  unfold j_176_88
  rw [km8, if_neg (by omega)]
  unfold j_176_167
  rw [zg_pos hz, if_neg h66]
  unfold j_176_233
  rw [km8]
  by_cases c1 : km k = 20
  · rw [if_pos c1]
  · rw [if_neg c1, if_pos (by omega)]
theorem m_302n (hz : zR W) (h61 : W ≠ 61) (hW : f_178 τ0 = some W) (h68 : W ≠ 68) (h106 : W ≠ 106) : j_176_302 W τ0 = some (103, τ0) := by
  have e182 : f_182 τ0 = some (0, τ0) := by
    unfold f_182
    rw [zo_of hW, zg_pos hz, if_neg h68, zo_of hW, zg_pos hz, if_neg h106]
  unfold j_176_302
  rw [zg_pos hz, if_neg h61, zb_of e182, zg_pos (by decide), if_pos rfl]
theorem m_302e {τ1 τ' : zS} {q' : Int} (hz : zR W) (h61 : W ≠ 61) (h182 : f_182 τ0 = some (1, τ1)) (h183 : f_183 τ1 = some (q', τ')) : j_176_302 W τ0 = some (q', τ') := by
  unfold j_176_302
  rw [zg_pos hz, if_neg h61, zb_of h182, zg_pos (by decide), if_neg (by decide), zb_of h183]
end MTURN
section TURN
variable {σ τ : zS} {c : Nat} {fm : Int} {v : Wd} {S : List Fr} {len len' r tk pl k i : Int} {D : Dn}
theorem fl_place {f : Fr} (hok : fok f) (hA : f.p = 2 ∨ (f.p = 0 ∧ (9 ≤ f.k ∧ f.k ≤ 13 ∨ f.k = 37))) : f_169 (mkd f) = some 1 ∧ zR (mkd f) ∧ mkd f ≠ 45 ∧ mkd f ≠ 61 ∧ mkd f ≠ 62 ∧ mkd f ≠ 64 ∧ mkd f ≠ 66 ∧ mkd f ≠ 68 ∧ mkd f ≠ 106 := by
  have : mkd f = 63 ∨ mkd f = 65 ∨ mkd f = 47 ∨ mkd f = 15 ∨ mkd f = 16 ∨ mkd f = 17 ∨ mkd f = 18 ∨ mkd f = 19 := by
    rcases hA with hp | ⟨hp, hk⟩
    · unfold mkd
      rw [if_neg (by omega), if_pos hp]
      split <;> omega
    · rw [mkd_km hp (by omega)]
      rcases hk with hk | hk
      · rw [km_lo (by omega) (by omega)]; omega
      · rw [hk]; exact Or.inr (Or.inr (Or.inl rfl))
  rcases this with e | e | e | e | e | e | e | e <;> rw [e] <;> exact ⟨rfl, by decide, by decide, by decide, by decide, by decide, by decide, by decide, by decide⟩
/-- the row of joints is over, and the top is no joint: what a token does then (k is no joint) -/
theorem s2_rest (h : JB σ τ c fm v S len len' r D tk) (hr : 1 ≤ r) (h4 : gI σ 10 4 = 4) (i0 : 0 ≤ i) (i1 : i + S.length ≤ 20) (hJP : ∀ f S2, S = f :: S2 → ¬ (isJ f ∨ isP f)) (k0 : 0 ≤ k) (k42 : k ≤ 42) (hk : ¬ (20 ≤ k ∧ k ≤ 27)) (htk : k ≠ 0 → tk < 200) (hkc : gI σ 8 4 = k) (hpc : gI σ 8 5 = pl) (hkm : gI τ 177 27 = km k) (hpm : gI τ 177 28 = pl) (τs : zS) (hks : gI τs 177 27 = km k) (h177 : f_177 11 τs = some (0, τ)) : ∃ σ0 i' σ', zrch (fun (q : Int × zS) => b_87_2 k q.1 q.2) 600 (i, σ) (i', σ0) ∧ b_87_2 k i' σ0 = some (.inr σ0) ∧ j_87_33 k σ0 = some ((), σ') ∧ ((S.length = 20 ∧ (k = 14 ∨ k = 32) ∧ AW fm S ∧ gI σ' 10 15 = 6 ∧ gI σ' 10 16 = pl) ∨ (¬ (S.length = 20 ∧ (k = 14 ∨ k = 32) ∧ AW fm S) ∧ ∃ τ' q', f_176 τs = some (q', τ') ∧ OUT k pl q' σ' τ' c fm v tk)) := by
  have hl20 := h.1.2.2.2.1.2
  have hj6 := js_le (r := r) hk
  have hjb := js_b k r
  have h15 := h.1.2.2.1.1
  have K0 := h.2.2.2.2.2.2.2.2.1
  have hr3 := h.2.2.2.1.r_b.2.1
  have hjc : k = 14 ∨ k = 32 → js k r = 6 := by
    intro hc
    unfold js
    rw [if_neg (by omega), if_pos (by omega), if_neg (by omega)]
    rcases hc with e | e <;> rw [e] <;> decide
  have hjn : ¬ (k = 14 ∨ k = 32) → js k r ≤ 4 := by
    intro hc
    unfold js
    by_cases hL : 10 ≤ k ∧ k ≤ 13
    · rw [if_pos hL]
      have : k = 10 ∨ k = 11 ∨ k = 12 ∨ k = 13 := by omega
      rcases this with e | e | e | e <;> rw [e] <;> decide
    · rw [if_neg hL, if_neg (by omega)]; decide
  obtain ⟨ho, hro⟩ := h.2.2.2.2.2.2.1 hr
  -- where nothing can be joined
  have hnMJ : ¬ ((k = 14 ∨ k = 32) ∧ AW fm S) → f_97 k σ = some 0 := by
    intro hn
    refine (c_mayJoin h.1 h.2.2.1 h.2.2.2.2.1 k0 k42).2 (fun hM => ?_)
    by_cases hc : k = 14 ∨ k = 32
    · have hj := hjc hc
      rcases hM.2.2 (by omega) with hx | hx
      · omega
      · exact hn ⟨hc, hx⟩
    · have := hjn hc
      have := hM.2.1 this
      omega
  by_cases hA : AW fm S
  · -- a formula must be here
    have hstop : b_87_2 k i σ = some (.inr σ) := by
      refine c_turnStop h.1 h.2.2.1 h.2.2.2.2.1 k0 k42 i0 i1 (fun f S2 e hE => ?_)
      apply hE.1
      refine ⟨by omega, ?_⟩
      rw [e] at hA
      exact hA
    obtain ⟨W, hW, h169, hWz, w45, w61, w62, w64, w66, w68, w106⟩ : ∃ W, f_178 τ = some W ∧ f_169 W = some 1 ∧ zR W ∧ W ≠ 45 ∧ W ≠ 61 ∧ W ≠ 62 ∧ W ≠ 64 ∧ W ≠ 66 ∧ W ≠ 68 ∧ W ≠ 106 := by
      cases S with
      | nil =>
        have hfm : fm = 1 := hA
        have := m_last0 h.2.1
        rw [if_pos hfm] at this
        exact ⟨60, this, rfl, by decide, by decide, by decide, by decide, by decide, by decide, by decide, by decide⟩
      | cons f S2 => exact ⟨mkd f, m_last h.2.1, fl_place h.2.2.1.2.ok hA⟩
    have e181 : f_181 τs = some (0, τ) := by
      unfold f_181
      rw [zb_of h177, zg_pos (by decide), if_neg (by decide), zo_of hW, zg_pos hWz, if_neg w68, zo_of hW, zg_pos hWz, if_neg w62, zo_of hW, zg_pos hWz, if_neg w64]
    have e176 := m176 k0 k42 hk hks e181 hW hkm
    have e88 : f_176 τs = j_176_88 W τ := by
      rw [e176]
      by_cases c46 : km k = 46
      · rw [if_pos c46, zg_pos hWz, if_neg w45]
      · rw [if_neg c46]
    by_cases hc : k = 14 ∨ k = 32
    · have hMJ : MJ k r fm S := by
        have := hjc hc
        exact ⟨by omega, fun h => by omega, fun _ => Or.inr hA⟩
      have e97 := (c_mayJoin h.1 h.2.2.1 h.2.2.2.2.1 k0 k42).1 hMJ
      by_cases hfull : S.length = 20
      · obtain ⟨σ', b1, b2, b3⟩ := c_openFull (k := k) h.1 hfull hpc
        refine ⟨σ, i, σ', (zrch.rf _).le (by omega), hstop, ?_, Or.inl ⟨hfull, hc, hA, b2, b3⟩⟩
        unfold j_87_33
        rw [if_pos h15, zo_of e97, zg_pos (by decide), if_neg (by decide), zb_of b1]
      · obtain ⟨σ', τ', f, b1, b2, b3, b4, b5, b6⟩ := opened_cmp h hr hA (by omega) (htk (by omega)) hpc hpm hc hkm h169
        refine ⟨σ, i, σ', (zrch.rf _).le (by omega), hstop, ?_, Or.inr ⟨fun hh => hfull hh.1, τ', 1, by rw [e88, m_88c hWz hkm hc w66, b2], Or.inl ⟨v, vLe.rf K0, Or.inl ⟨Or.inr rfl, _, _, _, b3, b4, fun h => by omega, fun hA => ?_⟩, by omega⟩⟩⟩
        · unfold j_87_33
          rw [if_pos h15, zo_of e97, zg_pos (by decide), if_neg (by decide), zb_of b1]
        · have hA' : f.p = 2 ∨ (f.p = 0 ∧ (9 ≤ f.k ∧ f.k ≤ 13 ∨ f.k = 37)) := hA
          omega
    · have e97 := hnMJ (fun hh => hc hh.1)
      obtain ⟨c1, -, -⟩ := c_atEnd (pl := pl) h.1 h.2.2.1 h.2.2.2.2.1 hkc hpc
      obtain ⟨σ', b1, b2, b3⟩ := c1 ⟨by omega, hA⟩
      have hl89 := (c_lacks h.1 h.2.2.1 h.2.2.2.2.1).1 ⟨by omega, hA⟩
      refine ⟨σ, i, σ', (zrch.rf _).le (by omega), hstop, ?_, Or.inr ⟨fun hh => hc hh.2.1, τ, 103, ?_, OUT.refuse b2 b3⟩⟩
      · unfold j_87_33
        rw [if_pos h15, zo_of e97, zg_pos (by decide), if_pos rfl]
        by_cases h0 : gI σ 10 8 = 0
        · rw [if_pos h0, zb_of b1]
        · rw [if_neg h0, zo_of hl89, zg_pos (by decide), if_neg (by decide), zb_of b1]
      · rw [e88, m_88d hWz hkm k0 k42 (fun _ => ⟨w62, w64⟩) (fun h => absurd h w66) h169 (fun h => absurd h hc)]
        exact m_302n hWz w61 hW w68 w106
  · -- no formula may be here
    have e97 := hnMJ (fun hh => hA hh.2)
    have hl89 := (c_lacks h.1 h.2.2.1 h.2.2.2.2.1).2 (fun hh => hA hh.2)
    have hnf : ¬ (S.length = 20 ∧ (k = 14 ∨ k = 32) ∧ AW fm S) := fun hh => hA hh.2.2
    cases S with
    | nil =>
      have hfm : fm ≠ 1 := hA
      have hW := m_last0 h.2.1
      rw [if_neg hfm] at hW
      have h8 : gI σ 10 8 = 0 := h.1.2.2.2.1.1
      have hstop : b_87_2 k i σ = some (.inr σ) := c_turnStop h.1 h.2.2.1 h.2.2.2.2.1 k0 k42 i0 i1 (fun f S2 e => by cases e)
      obtain ⟨-, c2, c3⟩ := c_atEnd (pl := pl) h.1 h.2.2.1 h.2.2.2.2.1 hkc hpc
      have e33 : ∀ σ', f_98 k σ = some ((), σ') → j_87_33 k σ = some ((), σ') := by
        intro σ' h98
        unfold j_87_33
        rw [if_pos h15, zo_of e97, zg_pos (by decide), if_pos rfl, if_pos h8, zb_of h98]
      have e181 : f_181 τs = some (0, τ) := by
        unfold f_181
        rw [zb_of h177, zg_pos (by decide), if_neg (by decide), zo_of hW, zg_pos (by decide), if_neg (by decide), zo_of hW, zg_pos (by decide), if_neg (by decide), zo_of hW, zg_pos (by decide), if_neg (by decide)]
      have e176 := m176 k0 k42 hk hks e181 hW hkm
      have e88 : f_176 τs = some (if k = 0 then 100 else 107, τ) := by
        have e302 : j_176_88 61 τ = some (if k = 0 then 100 else 107, τ) := by
          rw [m_88d (W := 61) (by decide) hkm k0 k42 (fun _ => by decide) (fun h => absurd h (by decide)) (y := 0) rfl (fun _ => rfl)]
          unfold j_176_302
          rw [zg_pos (by decide), if_pos rfl, hkm]
          by_cases h0 : k = 0
          · rw [if_pos ((km_0 k0).mpr h0), if_pos h0]
          · rw [if_neg (fun h => h0 ((km_0 k0).mp h)), if_neg h0]
        rw [e176]
        by_cases c46 : km k = 46
        · rw [if_pos c46, zg_pos (by decide), if_neg (by decide), e302]
        · rw [if_neg c46, e302]
      have hnl : ¬ (r ≠ 0 ∧ AW fm []) := fun hh => hA hh.2
      by_cases hk0 : k = 0
      · rw [if_pos hk0] at e88
        exact ⟨σ, i, _, (zrch.rf _).le (by omega), hstop, e33 _ (c2 hnl hk0), Or.inr ⟨hnf, τ, 100, e88, Or.inr (Or.inr ⟨rfl, hk0, gI_same (by decide), by rw [gI_ni (by decide)]; exact h15, v, vLe.rf K0, h.done (Or.inr hfm)⟩)⟩⟩
      · rw [if_neg hk0] at e88
        obtain ⟨σ', b1, b2, b3⟩ := c3 hnl hk0
        exact ⟨σ, i, σ', (zrch.rf _).le (by omega), hstop, e33 _ b1, Or.inr ⟨hnf, τ, 107, e88, Or.inr (Or.inl ⟨7, by decide, by decide, by decide, by decide, by rw [b2, if_neg (by omega)], by rw [if_neg (by decide)]; exact b3⟩)⟩⟩
    | cons f S2 =>
      have hok := h.2.2.1.2.ok
      have hnJP := hJP f S2 rfl
      have hW := m_last h.2.1
      obtain ⟨t8, t20, ⟨t1, t2, -⟩, -⟩ := h.1.top
      have hlen2 : ((f :: S2).length : Int) = S2.length + 1 := len_cons
      have hAn : ¬ (f.p = 2 ∨ (f.p = 0 ∧ (9 ≤ f.k ∧ f.k ≤ 13 ∨ f.k = 37))) := hA
      have hkinds : (f.p = 0 ∧ (f.k = 35 ∨ f.k = 31 ∨ (5 ≤ f.k ∧ f.k ≤ 8) ∨ f.k = 14 ∨ f.k = 32)) ∨ (f.p = 1 ∧ bk f.k) := by
        rcases hok with ⟨hp, hkf⟩ | ⟨hp, hkf⟩
        · left
          refine ⟨hp, ?_⟩
          have hn30 : ¬ (20 ≤ f.k ∧ f.k ≤ 30) := fun hh => hnJP (by
            by_cases h27 : f.k ≤ 27
            · exact Or.inl ⟨hp, hh.1, h27⟩
            · exact Or.inr ⟨hp, by omega, hh.2⟩)
          omega
        · right
          exact ⟨by omega, hkf⟩
      have e33 : ∀ σ', f_100 k σ = some ((), σ') → f.p ≠ 1 → j_87_33 k σ = some ((), σ') := by
        intro σ' h100 hp1
        unfold j_87_33
        rw [if_pos h15, zo_of e97, zg_pos (by decide), if_pos rfl, t8, if_neg (by omega), zo_of hl89, zg_pos (by decide), if_pos rfl, sln, zg_pos ⟨by omega, by omega⟩, t2, if_neg hp1, zb_of h100]
      have e33d : ∀ σ', f_99 k σ = some ((), σ') → f.p = 1 → j_87_33 k σ = some ((), σ') := by
        intro σ' h99 hp1
        unfold j_87_33
        rw [if_pos h15, zo_of e97, zg_pos (by decide), if_pos rfl, t8, if_neg (by omega), zo_of hl89, zg_pos (by decide), if_pos rfl, sln, zg_pos ⟨by omega, by omega⟩, t2, if_pos hp1, zb_of h99]
      rcases hkinds with ⟨hp, hkf⟩ | ⟨hp, hkf⟩
      · rcases hkf with hkf | hkf | hkf | hkf
        · -- ( )
          have hmk : mkd f = 45 := by rw [mkd_km hp (by omega), hkf]; rfl
          rw [hmk] at hW
          have hstop : b_87_2 k i σ = some (.inr σ) := c_turnStop h.1 h.2.2.1 h.2.2.2.2.1 k0 k42 i0 i1 (fun g S3 e hE => by
            injection e with e1 e2
            rw [← e1] at hE
            have hs : stg f.k = 0 := by rw [hkf]; decide
            rcases hE.2.2.2 hp with hx | hx <;> omega)
          have e181 : f_181 τs = some (0, τ) := by
            unfold f_181
            rw [zb_of h177, zg_pos (by decide), if_neg (by decide), zo_of hW, zg_pos (by decide), if_neg (by decide), zo_of hW, zg_pos (by decide), if_neg (by decide), zo_of hW, zg_pos (by decide), if_neg (by decide)]
          have e176 := m176 k0 k42 hk hks e181 hW hkm
          by_cases h36 : k = 36
          · have e46 : km k = 46 := (km_inj k0 k42 (by decide) (by decide)).mpr h36
            rw [if_pos e46, zg_pos (by decide), if_pos rfl] at e176
            obtain ⟨b1, b2⟩ := bracketed h (htk (by omega)) hp (Or.inl ⟨hkf, hr⟩)
            exact ⟨σ, i, _, (zrch.rf _).le (by omega), hstop, e33 _ (c_bracket h.1 (Or.inl ⟨hkf, h36⟩)) (by omega), Or.inr ⟨hnf, _, 2, e176, Or.inl ⟨v, vLe.rf K0, Or.inr (Or.inl ⟨rfl, _, _, _, _, _, b1, hr, by rw [b2]; exact h4⟩), by omega⟩⟩⟩
          · have e46 : km k ≠ 46 := fun hh => h36 ((km_inj (m := 36) k0 k42 (by decide) (by decide)).mp hh)
            rw [if_neg e46, m_88d (W := 45) (by decide) hkm k0 k42 (fun _ => by decide) (fun h => absurd h (by decide)) (y := 0) rfl (fun _ => rfl), m_302n (by decide) (by decide) hW (by decide) (by decide)] at e176
            obtain ⟨σ', b1, b2, b3⟩ := c_noCloser h.1 k0 k42 hkc hpc (fun h => by omega) (fun _ => h36) (fun h => by omega) (fun h => by omega)
            exact ⟨σ, i, σ', (zrch.rf _).le (by omega), hstop, e33 _ b1 (by omega), Or.inr ⟨hnf, τ, 103, e176, OUT.refuse b2 b3⟩⟩
        · -- #
          have hmk : mkd f = 66 := by unfold mkd; rw [if_neg (by omega), if_neg (by omega), if_neg (by omega), if_neg (by omega), if_pos hkf]
          rw [hmk] at hW
          have hstop : b_87_2 k i σ = some (.inr σ) := c_turnStop h.1 h.2.2.1 h.2.2.2.2.1 k0 k42 i0 i1 (fun g S3 e hE => by
            injection e with e1 e2
            rw [← e1] at hE
            have hs : stg f.k = 0 := by rw [hkf]; decide
            rcases hE.2.2.2 hp with hx | hx <;> omega)
          have e181 : f_181 τs = some (0, τ) := by
            unfold f_181
            rw [zb_of h177, zg_pos (by decide), if_neg (by decide), zo_of hW, zg_pos (by decide), if_neg (by decide), zo_of hW, zg_pos (by decide), if_neg (by decide), zo_of hW, zg_pos (by decide), if_neg (by decide)]
          have e176 := m176 k0 k42 hk hks e181 hW hkm
          have e88 : f_176 τs = j_176_88 66 τ := by
            rw [e176]
            by_cases c46 : km k = 46
            · rw [if_pos c46, zg_pos (by decide), if_neg (by decide)]
            · rw [if_neg c46]
          by_cases hs : 32 ≤ k ∧ k ≤ 34
          · obtain ⟨σ', τ', b1, b2, b3, b4⟩ := sized h hr (htk (by omega)) hp hkf hs (by rw [hkm]; exact km_hi (by omega))
            refine ⟨σ, i, σ', (zrch.rf _).le (by omega), hstop, e33 _ b1 (by omega), Or.inr ⟨hnf, τ', 6, ?_, Or.inl ⟨v, vLe.rf K0, Or.inr (Or.inr (Or.inr (Or.inr (Or.inr ⟨rfl, _, _, _, _, b3, b4⟩)))), by omega⟩⟩⟩
            rw [e88]
            unfold j_176_88
            have hkm10 : km k = k + 10 := km_hi (by omega)
            rw [hkm, if_neg (by omega)]
            unfold j_176_167
            rw [zg_pos (by decide), if_pos rfl, hkm]
            by_cases c42 : km k = 42
            · rw [if_pos c42, b2]
            · rw [if_neg c42]
              by_cases c43 : km k = 43
              · rw [if_pos c43, b2]
              · rw [if_neg c43, if_pos (by omega), b2]
          · rw [m_88d (W := 66) (by decide) hkm k0 k42 (fun _ => by decide) (fun _ => by omega) (y := 0) rfl (fun _ => rfl), m_302n (by decide) (by decide) hW (by decide) (by decide)] at e88
            obtain ⟨σ', b1, b2, b3⟩ := c_noCloser h.1 k0 k42 hkc hpc (fun _ => by omega) (fun h => by omega) (fun h => by omega) (fun h => by omega)
            exact ⟨σ, i, σ', (zrch.rf _).le (by omega), hstop, e33 _ b1 (by omega), Or.inr ⟨hnf, τ, 103, e88, OUT.refuse b2 b3⟩⟩
        · -- some, no, lone, one
          have hmk := mkd_106 hp hkf
          rw [hmk] at hW
          have hs6 : stg f.k = 6 := by
            have : f.k = 5 ∨ f.k = 6 ∨ f.k = 7 ∨ f.k = 8 := by omega
            rcases this with e | e | e | e <;> rw [e] <;> decide
          have hEN : EN k r f := ⟨fun hh => hAn hh.2, by omega, fun hh => by omega, fun _ => by
            by_cases hlt : js k r < stg f.k
            · exact Or.inl hlt
            · exact Or.inr ⟨by omega, by omega, by omega⟩⟩
          have h88 := (c_ends h.1 h.2.2.1 h.2.2.2.2.1 k0 k42).1 hEN
          obtain ⟨σ1, τ1, D1, b1, b2, b3, b4⟩ := closed_mult h hp hkf hr
          have hstep := c_turnEnd (k := k) i0 (by omega) h15 h88 b1
          have rc1 := zrch.one (B := fun (q : Int × zS) => b_87_2 k q.1 q.2) (q := (i, σ)) (q2 := (i + 1, σ1)) hstep
          have z1 : zfr 226194007503404812761105599978273022449120425491732557547507934317108896488056650297247121572430057109618425856 σ σ1 := fr_92 b1
          have z2 : zfr 9227444742034071852676962404828182565036462586850717562167356044285459712377293712977611803066712650775158784708116385828510560681984 τ τ1 := fr_182 b2
          have e181 : f_181 τs = some (0, τ) := by
            unfold f_181
            rw [zb_of h177, zg_pos (by decide), if_neg (by decide), zo_of hW, zg_pos (by decide), if_neg (by decide), zo_of hW, zg_pos (by decide), if_neg (by decide), zo_of hW, zg_pos (by decide), if_neg (by decide)]
          have e176 := m176 k0 k42 hk hks e181 hW hkm
          have e302 : f_176 τs = j_176_302 106 τ := by
            rw [e176]
            have e88 := m_88d (W := 106) (τ0 := τ) (by decide) hkm k0 k42 (fun _ => by decide) (fun h => absurd h (by decide)) (y := 0) rfl (fun _ => rfl)
            by_cases c46 : km k = 46
            · rw [if_pos c46, zg_pos (by decide), if_neg (by decide), e88]
            · rw [if_neg c46, e88]
          have k1 : gI σ1 8 4 = k := by rw [z1.i rfl]; exact hkc
          have p1 : gI σ1 8 5 = pl := by rw [z1.i rfl]; exact hpc
          have q1 : gI τ1 177 27 = km k := by rw [z2.i rfl]; exact hkm
          have q2 : gI τ1 177 28 = pl := by rw [z2.i rfl]; exact hpm
          by_cases hL : 10 ≤ k ∧ k ≤ 13
          · obtain ⟨σ0, i', σ', d1, d2, d3, d4⟩ := s3_link (pl := pl) b3 (i := i + 1) (by omega) (by omega) hL (htk (by omega)) k1 p1 q1 q2
            rcases d4 with ⟨d4, -⟩ | ⟨-, τ', q', d5, d6⟩
            · omega
            · exact ⟨σ0, i', σ', (rc1.tr d1).le (by omega), d2, d3, Or.inr ⟨hnf, τ', q', by rw [e302]; exact m_302e (by decide) (by decide) b2 d5, d6⟩⟩
          · obtain ⟨σ0, i', σ', τ', q', d1, d2, d3, d5, d6⟩ := s3_other (pl := pl) b3 (by rw [b4]; exact h4) (i := i + 1) (by omega) (by omega) k0 k42 hL htk k1 p1 q1
            exact ⟨σ0, i', σ', (rc1.tr d1).le (by omega), d2, d3, Or.inr ⟨hnf, τ', q', by rw [e302]; exact m_302e (by decide) (by decide) b2 d5, d6⟩⟩
        · -- in, =
          have hkf' : f.k = 14 ∨ f.k = 32 := hkf
          have hmk := mkd_68 hp hkf'
          rw [hmk] at hW
          have hs6 : stg f.k = 6 := by rcases hkf' with e | e <;> rw [e] <;> decide
          have hEN : EN k r f := ⟨fun hh => hAn hh.2, by omega, fun hh => by omega, fun _ => by
            by_cases hlt : js k r < stg f.k
            · exact Or.inl hlt
            · exact Or.inr ⟨by omega, by omega, by omega⟩⟩
          have h88 := (c_ends h.1 h.2.2.1 h.2.2.2.2.1 k0 k42).1 hEN
          obtain ⟨m38, m20, m3, ⟨m4, m5, m6, -⟩, -⟩ := h.2.1.top
          have m191 := (m6 hp hkf').1
          have hnJ : ¬ isJ f := fun hh => by have := hh.2; omega
          rw [jn_cons_N hnJ] at ho hro
          have jb := jn_b S2
          have e181 : f_181 τs = if f.r = r then some (0, τ) else some (5, sI τ 177 5 f.pl) := by
            unfold f_181
            rw [zb_of h177, zg_pos (by decide), if_neg (by decide), zo_of hW, zg_pos (by decide), if_pos rfl, ho, show jn S2 + 1 - 1 = jn S2 by omega, zg_pos ⟨by omega, by omega⟩, m38, show (S2.length : Int) + 2 - 1 = S2.length + 1 by omega, zg_pos ⟨by omega, by omega⟩, m191, hro]
            by_cases he : f.r = r
            · rw [if_pos he, if_pos he]
            · have e180 : f_180 (gI τ 190 (S2.length + 1)) τ = some (5, sI τ 177 5 (gI τ 190 (S2.length + 1))) := rfl
              rw [if_neg he, if_neg he, zb_of e180, m5]
          by_cases he : f.r = r
          · rw [if_pos he] at e181
            obtain ⟨σ1, τ1, D1, b1, b2, b3, b4⟩ := closed_cmp h hp hkf' hr he
            have hstep := c_turnEnd (k := k) i0 (by omega) h15 h88 b1
            have rc1 := zrch.one (B := fun (q : Int × zS) => b_87_2 k q.1 q.2) (q := (i, σ)) (q2 := (i + 1, σ1)) hstep
            have z1 : zfr 226194007503404812761105599978273022449120425491732557547507934317108896488056650297247121572430057109618425856 σ σ1 := fr_92 b1
            have z2 : zfr 9227444742034071852676962404828182565036462586850717562167356044285459712377293712977611803066712650775158784708116385828510560681984 τ τ1 := fr_182 b2
            have e176 := m176 k0 k42 hk hks e181 hW hkm
            have e302 : f_176 τs = j_176_302 68 τ := by
              rw [e176]
              have e88 := m_88d (W := 68) (τ0 := τ) (by decide) hkm k0 k42 (fun _ => by decide) (fun h => absurd h (by decide)) (y := 0) rfl (fun _ => rfl)
              by_cases c46 : km k = 46
              · rw [if_pos c46, zg_pos (by decide), if_neg (by decide), e88]
              · rw [if_neg c46, e88]
            have k1 : gI σ1 8 4 = k := by rw [z1.i rfl]; exact hkc
            have p1 : gI σ1 8 5 = pl := by rw [z1.i rfl]; exact hpc
            have q1 : gI τ1 177 27 = km k := by rw [z2.i rfl]; exact hkm
            have q2 : gI τ1 177 28 = pl := by rw [z2.i rfl]; exact hpm
            by_cases hL : 10 ≤ k ∧ k ≤ 13
            · obtain ⟨σ0, i', σ', d1, d2, d3, d4⟩ := s3_link (pl := pl) b3 (i := i + 1) (by omega) (by omega) hL (htk (by omega)) k1 p1 q1 q2
              rcases d4 with ⟨d4, -⟩ | ⟨-, τ', q', d5, d6⟩
              · omega
              · exact ⟨σ0, i', σ', (rc1.tr d1).le (by omega), d2, d3, Or.inr ⟨hnf, τ', q', by rw [e302]; exact m_302e (by decide) (by decide) b2 d5, d6⟩⟩
            · obtain ⟨σ0, i', σ', τ', q', d1, d2, d3, d5, d6⟩ := s3_other (pl := pl) b3 (by rw [b4]; exact h4) (i := i + 1) (by omega) (by omega) k0 k42 hL htk k1 p1 q1
              exact ⟨σ0, i', σ', (rc1.tr d1).le (by omega), d2, d3, Or.inr ⟨hnf, τ', q', by rw [e302]; exact m_302e (by decide) (by decide) b2 d5, d6⟩⟩
          · rw [if_neg he] at e181
            obtain ⟨σ1, b1, b2, b3⟩ := closed_cmpF h hp hkf' hr he
            have hstep := c_turnEnd (k := k) i0 (by omega) h15 h88 b1
            have rc1 := zrch.one (B := fun (q : Int × zS) => b_87_2 k q.1 q.2) (q := (i, σ)) (q2 := (i + 1, σ1)) hstep
            obtain ⟨d1, d2⟩ := c_rowRefused (k := k) (i := i + 1) (σ := σ1) (by omega) (by omega) (by omega)
            have e176 : f_176 τs = some (105, sI τ 177 5 f.pl) := by
              obtain ⟨kl, kj, kv⟩ := kt_all k0 k42
              rw [if_neg hk] at kj
              unfold f_176
              rw [hks, zo_of kj, zg_pos (by decide), if_pos rfl, zb_of e181, zg_pos (by decide), if_pos (by decide)]
              rfl
            have hpz : zR f.pl := by rw [← m5]; exact zR_gI _ _ _
            exact ⟨σ1, i + 1, σ1, rc1.le (by omega), d1, d2, Or.inr ⟨hnf, _, 105, e176, Or.inr (Or.inl ⟨5, by decide, by decide, by decide, by decide, by rw [b2, if_neg (by omega)], by rw [if_pos rfl, gI_same hpz]; exact b3⟩)⟩⟩
      · -- the domain of a binder
        have hstop : b_87_2 k i σ = some (.inr σ) := c_turnStop h.1 h.2.2.1 h.2.2.2.2.1 k0 k42 i0 i1 (fun g S3 e hE => by
          injection e with e1 e2
          rw [← e1] at hE
          exact hE.2.1 hp)
        have hmk : mkd f = 62 ∨ mkd f = 64 := by
          unfold mkd
          rw [if_pos hp]
          split <;> omega
        have hmz : zR (mkd f) := by rcases hmk with e | e <;> rw [e] <;> decide
        obtain ⟨m38, m20, m3, ⟨m4, m5, -⟩, -⟩ := h.2.1.top
        have hnJ : ¬ isJ f := fun hh => by have := hh.1; omega
        rw [jn_cons_N hnJ] at ho hro
        have jb := jn_b S2
        have e86 : j_181_86 τ = if r = 1 then some (0, τ) else some (5, sI τ 177 5 f.pl) := by
          unfold j_181_86
          rw [ho, show jn S2 + 1 - 1 = jn S2 by omega, zg_pos ⟨by omega, by omega⟩, hro]
          by_cases he : r = 1
          · rw [if_pos he, if_pos he]
          · have e180 : f_180 (gI τ 190 (S2.length + 1)) τ = some (5, sI τ 177 5 (gI τ 190 (S2.length + 1))) := rfl
            rw [if_neg he, if_neg he, m38, show (S2.length : Int) + 2 - 1 = S2.length + 1 by omega, zg_pos ⟨by omega, by omega⟩, zb_of e180, m5]
        have e181 : f_181 τs = if r = 1 then some (0, τ) else some (5, sI τ 177 5 f.pl) := by
          unfold f_181
          rw [zb_of h177, zg_pos (by decide), if_neg (by decide), zo_of hW, zg_pos hmz, if_neg (by omega), zo_of hW, zg_pos hmz]
          rcases hmk with e | e
          · rw [if_pos e, e86]
          · rw [if_neg (by omega), zo_of hW, zg_pos hmz, if_pos e, e86]
        by_cases he : r = 1
        · rw [if_pos he] at e181
          have e176 := m176 k0 k42 hk hks e181 hW hkm
          have e88 : f_176 τs = j_176_88 (mkd f) τ := by
            rw [e176]
            by_cases c46 : km k = 46
            · rw [if_pos c46, zg_pos hmz, if_neg (by omega)]
            · rw [if_neg c46]
          have hk32 : zR k := ⟨by omega, by omega⟩
          have hr10 := h.2.2.2.2.1
          by_cases h42 : k = 42
          · subst he
            obtain ⟨σ', τ', f', b1, b2, b3, b4, b5⟩ := barred h (htk (by omega)) hp
            refine ⟨σ, i, σ', (zrch.rf _).le (by omega), hstop, e33d _ (by rw [h42]; exact b1) hp, Or.inr ⟨hnf, τ', 0, ?_, Or.inl ⟨v, vLe.rf K0, Or.inl ⟨Or.inl rfl, _, _, _, b3, b5, fun _ => Or.inl b4, fun _ => rfl⟩, by omega⟩⟩⟩
            rw [e88]
            have e52 : km k = 52 := (km_inj k0 k42 (by decide) (by decide)).mpr h42
            unfold j_176_88
            rw [hkm, if_pos e52, zg_pos hmz]
            rcases hmk with e | e
            · rw [if_pos e, b2]
            · rw [if_neg (by omega), if_pos e, b2]
          · have h169 : f_169 (mkd f) = some 0 := by rcases hmk with e | e <;> rw [e] <;> rfl
            rw [m_88d hmz hkm k0 k42 (fun hh => absurd hh h42) (fun hh => by omega) h169 (fun _ => rfl), m_302n hmz (by omega) hW (by omega) (by omega)] at e88
            obtain ⟨σ', b1, b2, b3⟩ := c_refuseToken hkc hpc
            refine ⟨σ, i, σ', (zrch.rf _).le (by omega), hstop, e33d _ ?_ hp, Or.inr ⟨hnf, τ, 103, e88, OUT.refuse b2 b3⟩⟩
            unfold f_99
            rw [hr10, if_pos he, zg_pos hk32, if_neg h42, zb_of b1]
        · rw [if_neg he] at e181
          have hpz : zR f.pl := by rw [← m5]; exact zR_gI _ _ _
          obtain ⟨σ', b1, b2, b3⟩ := c_refuse (σ := σ) (why := 5) (by decide) hpz
          have e176 : f_176 τs = some (105, sI τ 177 5 f.pl) := by
            obtain ⟨kl, kj, kv⟩ := kt_all k0 k42
            rw [if_neg hk] at kj
            unfold f_176
            rw [hks, zo_of kj, zg_pos (by decide), if_pos rfl, zb_of e181, zg_pos (by decide), if_pos (by decide)]
            rfl
          have t3 : gI σ 13 S2.length = f.pl := h.1.top.2.2.1.2.2.1
          refine ⟨σ, i, σ', (zrch.rf _).le (by omega), hstop, e33d _ ?_ hp, Or.inr ⟨hnf, _, 105, e176, Or.inr (Or.inl ⟨5, by decide, by decide, by decide, by decide, by rw [b2, if_neg (by omega)], by rw [if_pos rfl, gI_same hpz]; exact b3⟩)⟩⟩
          unfold f_99
          rw [h.2.2.2.2.1, if_neg he, t8, sln, zg_pos ⟨by omega, by omega⟩, t3, zb_of b1]
end TURN
