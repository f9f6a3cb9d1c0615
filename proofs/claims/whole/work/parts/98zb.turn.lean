/-! BOTH PARSERS: a token that is no link behind a formula. -/
section TURN
variable {σ τ : zS} {c : Nat} {fm : Int} {v : Wd} {S : List Fr} {len len' r tk pl k i : Int} {D : Dn}
/-- f_100 where nothing fits -/
theorem c_noCloser {f : Fr} (h : PC σ c fm v.K (f :: S) len) (k0 : 0 ≤ k) (k42 : k ≤ 42) (hkc : gI σ 8 4 = k) (hpc : gI σ 8 5 = pl) (h31 : f.k = 31 → k ≠ 32 ∧ k ≠ 33 ∧ k ≠ 34) (h35 : f.k = 35 → k ≠ 36) (h37 : f.k = 37 → k ≠ 38) (h39 : f.k = 39 → k ≠ 40) : ∃ σ', f_100 k σ = some ((), σ') ∧ gI σ' 10 15 = (if k = 0 then 2 else 3) ∧ gI σ' 10 16 = pl := by
  obtain ⟨t8, t20, ⟨t1, t2, -⟩, -⟩ := h.top
  obtain ⟨σ', a1, a2, a3⟩ := c_refuseToken hkc hpc
  have hfz : zR f.k := by rw [← t1]; exact zR_gI _ _ _
  have hkz : zR k := ⟨by omega, by omega⟩
  have e86 : j_100_86 k f.k σ = some ((), σ') := by
    unfold j_100_86
    rw [zg_pos hfz]
    by_cases c39 : f.k = 39
    · rw [if_pos c39, zg_pos hkz, if_neg (h39 c39), zb_of a1]
    · rw [if_neg c39, zb_of a1]
  have e61 : j_100_61 k f.k σ = some ((), σ') := by
    unfold j_100_61
    rw [zg_pos hfz]
    by_cases c37 : f.k = 37
    · rw [if_pos c37, zg_pos hkz, if_neg (h37 c37), e86]
    · rw [if_neg c37, e86]
  have e49 : j_100_49 k f.k σ = some ((), σ') := by
    unfold j_100_49
    rw [zg_pos hfz]
    by_cases c35 : f.k = 35
    · rw [if_pos c35, zg_pos hkz, if_neg (h35 c35), e61]
    · rw [if_neg c35, e61]
  refine ⟨σ', ?_, a2, a3⟩
  unfold f_100
  rw [t8, sln, zg_pos ⟨by omega, by omega⟩, t1]
  by_cases c31 : f.k = 31
  · obtain ⟨x1, x2, x3⟩ := h31 c31
    rw [if_pos c31, zg_pos hkz, if_neg x1, if_neg x2, if_neg x3, e49]
  · rw [if_neg c31, e49]
/-- f_100 at ) and ] -/
theorem c_bracket {f : Fr} (h : PC σ c fm v.K (f :: S) len) (hk : (f.k = 35 ∧ k = 36) ∨ (f.k = 37 ∧ k = 38)) : f_100 k σ = some ((), sI σ 10 8 (gI σ 10 8 - 1)) := by
  obtain ⟨t8, t20, ⟨t1, t2, -⟩, -⟩ := h.top
  unfold f_100
  rw [t8, sln, zg_pos ⟨by omega, by omega⟩, t1, if_neg (by omega)]
  unfold j_100_49
  rcases hk with ⟨h1, h2⟩ | ⟨h1, h2⟩
  · rw [h1, h2, zg_pos (by decide), if_pos rfl, zg_pos (by decide), if_pos rfl, t8, sln]
  · unfold j_100_61
    rw [h1, h2, zg_pos (by decide), if_neg (by decide), zg_pos (by decide), if_pos rfl, zg_pos (by decide), if_pos rfl, t8, sln]
theorem s3_other (h : JB σ τ c fm v S len len' 0 D tk) (h4 : gI σ 10 4 = 4) (i0 : 0 ≤ i) (i1 : i + S.length ≤ 20) (k0 : 0 ≤ k) (k42 : k ≤ 42) (hk : ¬ (10 ≤ k ∧ k ≤ 13)) (htk : k ≠ 0 → tk < 200) (hkc : gI σ 8 4 = k) (hpc : gI σ 8 5 = pl) (hkm : gI τ 177 27 = km k) : ∃ σ0 i' σ' τ' q', zrch (fun (q : Int × zS) => b_87_2 k q.1 q.2) 500 (i, σ) (i', σ0) ∧ b_87_2 k i' σ0 = some (.inr σ0) ∧ j_87_33 k σ0 = some ((), σ') ∧ f_183 τ = some (q', τ') ∧ OUT k pl q' σ' τ' c fm v tk := by
  have hF := zF_big
  have hl20 := h.1.2.2.2.1.2
  have hjs : js k 0 = 0 := by
    unfold js
    rw [if_neg hk]
    split
    · rw [if_pos rfl]
    · rfl
  obtain ⟨S', v', σ0, τ0, i', l1, l1', D1, a0, a1, a2, a3, a4, a5, a6, a7⟩ := phaseD (k := k) (tk := tk) (fm := fm) (c := c) k0 k42 hjs S.length S v σ τ i len len' D (Nat.le_refl _) h i0 i1
  have hstop : b_87_2 k i' σ0 = some (.inr σ0) := by
    refine c_turnStop a3.1 a3.2.2.1 a3.2.2.2.2.1 k0 k42 a4.1 a4.2 (fun f S2 e hE => ?_)
    rcases a7 f S2 e with ⟨hp, hk'⟩ | ⟨hp, hk'⟩
    · have hs37 : stg f.k = 0 := by rw [hk']; decide
      rcases hE.2.2.2 hp with h | h <;> omega
    · exact (hE.2.2.1 hp).1 hk'
  have k8 : gI σ0 8 4 = k := by rw [a5.i rfl]; exact hkc
  have p8 : gI σ0 8 5 = pl := by rw [a5.i rfl]; exact hpc
  have km8 : gI τ0 177 27 = km k := by rw [a6.i rfl]; exact hkm
  have hMJ : ¬ MJ k 0 fm S' := fun h => h.1 hjs
  have e97 := (c_mayJoin a3.1 a3.2.2.1 a3.2.2.2.2.1 k0 k42).2 hMJ
  have h15 := a3.1.2.2.1.1
  obtain ⟨kl, kj, kv⟩ := kt_all k0 k42
  rw [if_neg hk] at kl
  have hkz : zR (km k) := zR_km k0 k42
  have e186 : f_186 τ = some ((), τ0) := by
    have hend : b_186_2 0 τ0 = some (.inr τ0) := by
      unfold b_186_2
      rw [zg_pos (by decide), if_pos rfl]
    unfold f_186
    rw [zo_of (a2.ends (n := zF) hend (by omega))]
  have hnl : ¬ ((0 : Int) ≠ 0 ∧ AW fm S') := fun h => h.1 rfl
  have hl89 := (c_lacks a3.1 a3.2.2.1 a3.2.2.2.2.1).2 hnl
  have r1 := a1.le (show 21 * S.length + 21 ≤ 500 by omega)
  -- the reference behind its row
  have e183 : ∀ x, f_178 τ0 = some x → f_183 τ = (if km k = 48 then (zg (zR x) (if x = 47 then (some (3, (sI τ0 177 38 ((gI τ0 177 38) - 1)))) else (j_183_81 x τ0))) else (j_183_81 x τ0)) := by
    intro x hx
    unfold f_183
    rw [hkm, zo_of kl, zg_pos (by decide), if_pos rfl, zb_of e186, zo_of hx, km8]
  cases S' with
  | nil =>
    have hfm : fm = 1 := (a3.2.2.2.2.2.1 rfl).1
    have hlast := m_last0 a3.2.1
    rw [if_pos hfm] at hlast
    have h8 : gI σ0 10 8 = 0 := a3.1.2.2.2.1.1
    obtain ⟨-, c2, c3⟩ := c_atEnd (pl := pl) a3.1 a3.2.2.1 a3.2.2.2.2.1 k8 p8
    have e33 : ∀ σ', f_98 k σ0 = some ((), σ') → j_87_33 k σ0 = some ((), σ') := by
      intro σ' h98
      unfold j_87_33
      rw [if_pos h15, zo_of e97, zg_pos (by decide), if_pos rfl, if_pos h8, zb_of h98]
    have e81 : f_183 τ = some (if k = 0 then 100 else 107, τ0) := by
      rw [e183 60 hlast]
      have e81 : j_183_81 60 τ0 = some (if k = 0 then 100 else 107, τ0) := by
        unfold j_183_81
        rw [km8]
        by_cases h50 : km k = 50
        · rw [if_pos h50, zg_pos (by decide), if_neg (by decide), if_pos rfl]
          by_cases h0 : k = 0
          · rw [if_pos ((km_0 k0).mpr h0), if_pos h0]
          · rw [if_neg (fun h => h0 ((km_0 k0).mp h)), if_neg h0]
        · rw [if_neg h50, zg_pos (by decide), if_pos rfl]
          by_cases h0 : k = 0
          · rw [if_pos ((km_0 k0).mpr h0), if_pos h0]
          · rw [if_neg (fun h => h0 ((km_0 k0).mp h)), if_neg h0]
      by_cases h48 : km k = 48
      · rw [if_pos h48, zg_pos (by decide), if_neg (by decide), e81]
      · rw [if_neg h48, e81]
    by_cases hk0 : k = 0
    · rw [if_pos hk0] at e81
      refine ⟨σ0, i', _, τ0, 100, r1, hstop, e33 _ (c2 hnl hk0), e81, Or.inr (Or.inr ⟨rfl, hk0, gI_same (by decide), by rw [gI_ni (by decide)]; exact h15, v', a0, a3.done (Or.inl rfl)⟩)⟩
    · rw [if_neg hk0] at e81
      obtain ⟨σ', b1, b2, b3⟩ := c3 hnl hk0
      exact ⟨σ0, i', σ', τ0, 107, r1, hstop, e33 _ b1, e81, Or.inr (Or.inl ⟨7, by decide, by decide, by decide, by decide, by rw [b2, if_neg (by omega)], by rw [if_neg (by decide)]; exact b3⟩)⟩
  | cons f S2 =>
    have hlast := m_last a3.2.1
    obtain ⟨t8, t20, ⟨t1, t2, -⟩, -⟩ := a3.1.top
    have e33 : ∀ σ', f_100 k σ0 = some ((), σ') → f.p ≠ 1 → j_87_33 k σ0 = some ((), σ') := by
      intro σ' h100 hp1
      unfold j_87_33
      rw [if_pos h15, zo_of e97, zg_pos (by decide), if_pos rfl, t8, if_neg (by omega), zo_of hl89, zg_pos (by decide), if_pos rfl, sln, zg_pos ⟨by omega, by omega⟩, t2, if_neg hp1, zb_of h100]
    rcases a7 f S2 rfl with ⟨hp, hk'⟩ | ⟨hp, hk'⟩
    · -- [ ]
      have hmk : mkd f = 47 := by rw [mkd_km hp (by omega), hk']; rfl
      rw [hmk] at hlast
      have h183 := e183 47 hlast
      by_cases h38 : k = 38
      · have e48 : km k = 48 := (km_inj k0 k42 (by decide) (by decide)).mpr h38
        rw [if_pos e48, zg_pos (by decide), if_pos rfl] at h183
        obtain ⟨b1, b2⟩ := bracketed a3 (htk (by omega)) hp (Or.inr ⟨hk', rfl⟩)
        refine ⟨σ0, i', _, _, 3, r1, hstop, e33 _ (c_bracket a3.1 (Or.inr ⟨hk', h38⟩)) (by omega), h183, Or.inl ⟨v', a0, Or.inr (Or.inr (Or.inl ⟨rfl, _, _, _, _, b1, ?_⟩)), by omega⟩⟩
        rw [b2, a5.i rfl]
        exact h4
      · have e48 : km k ≠ 48 := fun h => h38 ((km_inj (m := 38) k0 k42 (by decide) (by decide)).mp h)
        rw [if_neg e48] at h183
        have e81 : j_183_81 47 τ0 = some (103, τ0) := by
          unfold j_183_81
          rw [km8]
          by_cases h50 : km k = 50
          · rw [if_pos h50, zg_pos (by decide), if_neg (by decide), if_neg (by decide)]
          · rw [if_neg h50, zg_pos (by decide), if_neg (by decide)]
        rw [e81] at h183
        obtain ⟨σ', b1, b2, b3⟩ := c_noCloser a3.1 k0 k42 k8 p8 (fun h => by omega) (fun h => by omega) (fun _ => h38) (fun h => by omega)
        exact ⟨σ0, i', σ', τ0, 103, r1, hstop, e33 _ b1 (by omega), h183, OUT.refuse b2 b3⟩
    · -- { }
      have hmk : mkd f = 65 := by unfold mkd; rw [if_neg (by omega), if_pos hp, if_pos hk']
      rw [hmk] at hlast
      have h183 := e183 65 hlast
      have e81 : f_183 τ = j_183_81 65 τ0 := by
        rw [h183]
        by_cases h48 : km k = 48
        · rw [if_pos h48, zg_pos (by decide), if_neg (by decide)]
        · rw [if_neg h48]
      by_cases h40 : k = 40
      · have e50 : km k = 50 := (km_inj k0 k42 (by decide) (by decide)).mpr h40
        obtain ⟨σ2, τ2, v2, D2, b1, b2, ⟨b3, b3'⟩, b4, b5, b6, b7, b8, b9, b10, b11, b12⟩ := closed_body a3 hp
        rw [if_pos hk'] at b7 b8
        have jb := jn_b S2
        have n : ∀ (x : Nat) (i : Int), x ≠ 177 → x ≠ 195 → gI (sI (sI τ2 195 (jn S2) 1) 177 40 (jn S2 + 1)) x i = gI τ2 x i := fun x i h1 h2 => by rw [gI_nc h1, gI_nc h2]
        have m : ∀ i : Int, i ≠ 40 → gI (sI (sI τ2 195 (jn S2) 1) 177 40 (jn S2 + 1)) 177 i = gI τ2 177 i := fun i hi => by rw [gI_ni hi, gI_nc (by decide)]
        have hrc : rco (sI (sI τ2 195 (jn S2) 1) 177 40 (jn S2 + 1)) = rco τ2 := rco_eq (fun i => n 184 i (by decide) (by decide)) (fun i => n 185 i (by decide) (by decide)) (fun i => n 186 i (by decide) (by decide))
        have P : PMd (sI (sI τ2 195 (jn S2) 1) 177 40 (jn S2 + 1)) fm S2 (l1' + 1) := b6.keep (m 38 (by decide)) (n 189 0 (by decide) (by decide)) (fun i _ _ => ⟨n 189 i (by decide) (by decide), n 190 i (by decide) (by decide), n 191 i (by decide) (by decide), n 192 i (by decide) (by decide), n 193 i (by decide) (by decide), by rw [gJ_sI, gJ_sI]⟩) (fun i i0 i1 => by rw [gI_nc (by decide), gI_ni (by omega)]) (by rw [m 41 (by decide)]; exact b6.2.2.2.1) b6.2.2.2.2
        have e183' : f_183 τ = some (2, sI (sI τ2 195 (jn S2) 1) 177 40 (jn S2 + 1)) := by
          rw [e81]
          unfold j_183_81
          rw [km8, if_pos e50, zg_pos (by decide), if_pos rfl, zb_of b2, b10, zg_pos ⟨by omega, by omega⟩]
        have e100 : f_100 k σ0 = some ((), σ2) := by
          unfold f_100
          rw [t8, sln, zg_pos ⟨by omega, by omega⟩, t1, if_neg (by omega)]
          unfold j_100_49 j_100_61 j_100_86
          rw [hk', h40, zg_pos (by decide), if_neg (by decide), zg_pos (by decide), if_neg (by decide), zg_pos (by decide), if_pos rfl, zg_pos (by decide), if_pos rfl, zb_of b1]
        have htk' := htk (by omega)
        refine ⟨σ0, i', σ2, _, 2, r1, hstop, e33 _ e100 (by omega), e183', Or.inl ⟨v2, a0.tr b3, Or.inr (Or.inl ⟨rfl, S2, l1, l1' + 1, 1, D2, ⟨b5, P, by rw [hrc]; exact b4, by rw [hrc]; exact b7, b8, fun h => by omega, fun _ => ⟨gI_same ⟨by omega, by omega⟩, by rw [gI_nc (by decide), gI_same (by decide)]⟩, by omega, ⟨by have := b3.2.2.2.1; have := b3.2.2.2.2.1; omega, b3'⟩⟩, by decide, ?_⟩), by omega⟩⟩
        rw [b9, a5.i rfl]
        exact h4
      · have e50 : km k ≠ 50 := fun h => h40 ((km_inj (m := 40) k0 k42 (by decide) (by decide)).mp h)
        have e82 : j_183_81 65 τ0 = some (103, τ0) := by
          unfold j_183_81
          rw [km8, if_neg e50, zg_pos (by decide), if_neg (by decide)]
        obtain ⟨σ', b1, b2, b3⟩ := c_noCloser a3.1 k0 k42 k8 p8 (fun h => by omega) (fun h => by omega) (fun h => by omega) (fun _ => h40)
        exact ⟨σ0, i', σ', τ0, 103, r1, hstop, e33 _ b1 (by omega), by rw [e81, e82], OUT.refuse b2 b3⟩
end TURN
