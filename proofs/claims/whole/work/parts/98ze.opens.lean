/-! THE REFERENCE: whether one more thing is opened where twenty are. -/
section OPENS
variable {τ : zS} {fm : Int} {v : Wd} {cd : Cd} {rc : Rc} {k len : Int}
/-- loops that go down the row of open things while P holds of the top -/
theorem o_loop {B : Int → Option (Int ⊕ Int)} {P : Fr → Prop} (h0 : gI τ 189 0 = (if fm = 1 then 60 else 61) → B 1 = some (.inr 1)) (hs : ∀ (S : List Fr) (f : Fr), S.length < 20 → gI τ 189 (S.length + 1) = mkd f → fok f → (P f → B (S.length + 2) = some (.inl (S.length + 1))) ∧ (¬ P f → B (S.length + 2) = some (.inr (S.length + 2)))) (hw : gI τ 189 0 = (if fm = 1 then 60 else 61)) : ∀ S : List Fr, S.length ≤ 20 → MFr τ S → SFr v cd rc fm S → ∀ n : Nat, S.length + 1 ≤ n → ∃ S' : List Fr, zlp B n ((S.length : Int) + 1) = some ((S'.length : Int) + 1) ∧ MFr τ S' ∧ SFr v cd rc fm S' ∧ (S' = S ∨ S'.length < S.length) ∧ (∀ f S2, S' = f :: S2 → ¬ P f) ∧ (∀ f S2, S = f :: S2 → ¬ P f → S' = S)
  | [], _, hM, hF, n, hn => by
    obtain ⟨n', rfl⟩ : ∃ n', n = n' + 1 := ⟨n - 1, by omega⟩
    exact ⟨[], zlp_r (h0 hw), hM, hF, Or.inl rfl, fun f S2 e => (by cases e), fun _ _ _ _ => rfl⟩
  | f :: S, hl, hM, hF, n, hn => by
    have hlen : (f :: S).length = S.length + 1 := List.length_cons
    rw [hlen] at hl hn
    obtain ⟨n', rfl⟩ : ∃ n', n = n' + 1 := ⟨n - 1, by omega⟩
    have hi : (((f :: S).length : Nat) : Int) + 1 = S.length + 2 := by rw [hlen]; omega
    obtain ⟨s1, s2⟩ := hs S f (by omega) hM.2.1.1 hF.2.ok
    rw [hi]
    by_cases hP : P f
    · obtain ⟨S', a1, a2, a3, a4, a5, a6⟩ := o_loop h0 hs hw S (by omega) hM.1 hF.1 n' (by omega)
      refine ⟨S', by rw [zlp_l (s1 hP)]; exact a1, a2, a3, Or.inr ?_, a5, fun g S2 e hn => absurd hP (by injection e with e1 e2; rw [e1]; exact hn)⟩
      rcases a4 with e | e
      · rw [e]; omega
      · omega
    · refine ⟨f :: S, by rw [zlp_r (s2 hP), hi], hM, hF, Or.inl rfl, fun g S2 e => (by injection e with e1 e2; rw [← e1]; exact hP), fun _ _ _ _ => rfl⟩
theorem mkd_z {f : Fr} (hok : fok f) : zR (mkd f) := by
  rcases hok with ⟨hp, hk⟩ | ⟨hp, hk⟩
  · unfold mkd
    rw [if_neg (by omega), if_neg (by omega)]
    split
    · decide
    · split
      · decide
      · split
        · decide
        · exact zR_km (by omega) (by omega)
  · unfold mkd
    by_cases h1 : f.p = 1
    · rw [if_pos h1]; split <;> decide
    · rw [if_neg h1, if_pos (by omega)]; split <;> decide
theorem lvl_b {f : Fr} : 0 ≤ (if f.p = 0 ∧ 20 ≤ f.k ∧ f.k ≤ 30 then stg f.k + 4 else if f.p = 0 ∧ 9 ≤ f.k ∧ f.k ≤ 13 then stg f.k else 0) ∧ (if f.p = 0 ∧ 20 ≤ f.k ∧ f.k ≤ 30 then stg f.k + 4 else if f.p = 0 ∧ 9 ≤ f.k ∧ f.k ≤ 13 then stg f.k else 0) ≤ 16 := by
  have := stg_b f.k
  split
  · omega
  · split <;> omega
theorem isJP_iff {f : Fr} : (isJ f ∨ isP f) ↔ (f.p = 0 ∧ 20 ≤ f.k ∧ f.k ≤ 30) := by
  constructor
  · intro h
    rcases h with h | h
    · exact ⟨h.1, by have := h.2; omega⟩
    · exact ⟨h.1, by have := h.2; omega⟩
  · intro h
    by_cases h27 : f.k ≤ 27
    · exact Or.inl ⟨h.1, h.2.1, h27⟩
    · exact Or.inr ⟨h.1, by omega, h.2.2⟩
theorem lvl60 : f_166 (if fm = 1 then 60 else 61) = some 0 := by
  by_cases hf : fm = 1
  · rw [if_pos hf]; rfl
  · rw [if_neg hf]; rfl
/-- a joint behind an expression -/
theorem opens_joint {S : List Fr} (h : PMd τ fm S len) (hF : SFr v cd rc fm S) (hkm : gI τ 177 27 = km k) (hk : 20 ≤ k ∧ k ≤ 27) : ∃ x, f_165 2 τ = some x ∧ (x = 0 ∨ x = 1) ∧ (x = 1 ↔ (S.length = 20 ∧ ∀ f S2, S = f :: S2 → ¬ ((isJ f ∨ isP f) ∧ stg k + 4 ≤ stg f.k + 4))) := by
  obtain ⟨kl, kj, kv⟩ := kt_all (k := k) (by omega) (by omega)
  rw [if_pos hk] at kj
  rw [if_pos (by omega)] at kv
  have hsk := (js_joint hk (show (1 : Int) ≤ 1 by decide)).2
  have hF' := zF_big
  obtain ⟨S', a1, a2, a3, a4, a5, a6⟩ := o_loop (τ := τ) (fm := fm) (B := fun (q : Int) => b_165_167 τ q) (P := fun f => (isJ f ∨ isP f) ∧ stg k + 4 ≤ stg f.k + 4) (fun hw => by
    show b_165_167 τ 1 = _
    unfold b_165_167
    rw [show (1 : Int) - 1 = 0 from rfl, zg_pos (by decide), hw, zo_of lvl60, hkm, zo_of kv, zg_pos (by decide), zg_pos ⟨by omega, by omega⟩, if_pos (by omega)]) (fun S f hl hm hok => by
    have h1 := lvl_mkd hok
    have hb := lvl_b (f := f)
    have hs := stg_b f.k
    have hB : b_165_167 τ (S.length + 2) = if (if f.p = 0 ∧ 20 ≤ f.k ∧ f.k ≤ 30 then stg f.k + 4 else if f.p = 0 ∧ 9 ≤ f.k ∧ f.k ≤ 13 then stg f.k else 0) < stg k + 4 then some (.inr ((S.length : Int) + 2)) else (if 10 < (if f.p = 0 ∧ 20 ≤ f.k ∧ f.k ≤ 30 then stg f.k + 4 else if f.p = 0 ∧ 9 ≤ f.k ∧ f.k ≤ 13 then stg f.k else 0) then some (.inl ((S.length : Int) + 1)) else some (.inr ((S.length : Int) + 2))) := by
      unfold b_165_167
      rw [show (S.length : Int) + 2 - 1 = S.length + 1 by omega, zg_pos ⟨by omega, by omega⟩, hm, zo_of h1, hkm, zo_of kv, zg_pos ⟨by omega, by omega⟩, zg_pos ⟨by omega, by omega⟩, zo_of h1, zg_pos ⟨by omega, by omega⟩, show (S.length : Int) + 2 + -1 = S.length + 1 by omega]
    refine ⟨fun hP => ?_, fun hP => ?_⟩
    · have hj := isJP_iff.mp hP.1
      rw [hB, if_pos hj, if_neg (by have := hP.2; omega), if_pos (by have := hP.2; omega)]
    · rw [hB]
      by_cases hj : f.p = 0 ∧ 20 ≤ f.k ∧ f.k ≤ 30
      · rw [if_pos hj, if_pos (by
          by_cases hlt : stg f.k + 4 < stg k + 4
          · exact hlt
          · exact absurd ⟨isJP_iff.mpr hj, by omega⟩ hP)]
      · rw [if_neg hj]
        have h5 : (if f.p = 0 ∧ 9 ≤ f.k ∧ f.k ≤ 13 then stg f.k else 0) ≤ 5 := by
          split
          · rename_i hh
            have : f.k = 9 ∨ f.k = 10 ∨ f.k = 11 ∨ f.k = 12 ∨ f.k = 13 := by omega
            rcases this with e | e | e | e | e <;> rw [e] <;> decide
          · decide
        rw [if_pos (by omega)]) h.2.1 S h.1.2 h.2.2.1 hF zF (by have := h.1.2; omega)
  have hl := h.1.2
  have hl' : S'.length ≤ 20 := by
    rcases a4 with e | e
    · rw [e]; exact hl
    · omega
  have e165 : f_165 2 τ = some (if (S'.length : Int) = 20 then 1 else 0) := by
    unfold f_165
    rw [zg_pos (by decide), if_neg (by decide), if_pos rfl, hkm, zo_of kj, zg_pos (by decide), if_neg (by decide), h.1.1, zo_of a1, show (S'.length : Int) + 1 - 1 = S'.length by omega, zg_pos ⟨by omega, by omega⟩]
    by_cases h20 : (S'.length : Int) = 20
    · rw [if_pos h20, if_pos h20]
    · rw [if_neg h20, if_neg h20]
  refine ⟨_, e165, by split <;> omega, ?_⟩
  by_cases h20 : (S'.length : Int) = 20
  · rw [if_pos h20]
    have hSS : S' = S := by
      rcases a4 with e | e
      · exact e
      · omega
    exact ⟨fun _ => ⟨by rw [← hSS]; omega, fun f S2 e => a5 f S2 (by rw [hSS]; exact e)⟩, fun _ => rfl⟩
  · rw [if_neg h20]
    refine ⟨fun hh => by omega, fun hh => ?_⟩
    exfalso
    cases S with
    | nil => exact absurd hh.1 (by decide)
    | cons f S2 =>
      have := a6 f S2 rfl (hh.2 f S2 rfl)
      rw [this] at h20
      omega
/-- links: the loop over not, and, or, implies, iff -/
theorem o_links {S : List Fr} {least : Int} (hz : zR least) (hw : gI τ 189 0 = (if fm = 1 then 60 else 61)) (hl : S.length ≤ 20) (hM : MFr τ S) (hF : SFr v cd rc fm S) : ∃ S' : List Fr, j_165_399 ((S.length : Int) + 1) least τ = some (if (S'.length : Int) = 20 then 1 else 0) ∧ (S' = S ∨ S'.length < S.length) ∧ (∀ f S2, S' = f :: S2 → ¬ (isK f ∧ (f.k = 9 ∨ least ≤ stg f.k))) ∧ (∀ f S2, S = f :: S2 → ¬ (isK f ∧ (f.k = 9 ∨ least ≤ stg f.k)) → S' = S) := by
  have hF' := zF_big
  obtain ⟨S', a1, a2, a3, a4, a5, a6⟩ := o_loop (τ := τ) (fm := fm) (B := fun (q : Int) => b_165_401 least τ q) (P := fun f => isK f ∧ (f.k = 9 ∨ least ≤ stg f.k)) (fun hw => by
    show b_165_401 least τ 1 = _
    unfold b_165_401
    rw [show (1 : Int) - 1 = 0 from rfl, zg_pos (by decide), hw]
    by_cases hf : fm = 1
    · rw [if_pos hf, if_neg (by decide), show f_168 60 = some 0 from rfl]
      show zg (zR 0) _ = _
      rw [zg_pos (by decide), if_pos rfl]
    · rw [if_neg hf, if_neg (by decide), show f_168 61 = some 0 from rfl]
      show zg (zR 0) _ = _
      rw [zg_pos (by decide), if_pos rfl]) (fun S f hl hm hok => by
    have h1 := lvl_mkd hok
    have h3 := lnk_eq hok
    have hb := lvl_b (f := f)
    have hs := stg_b f.k
    have h15 : mkd f = 15 ↔ (isK f ∧ f.k = 9) := by
      constructor
      · intro e
        rcases hok with ⟨hp, hk⟩ | ⟨hp, hk⟩
        · by_cases h14 : f.k = 14 ∨ f.k = 32
          · rw [mkd_68 hp h14] at e; omega
          · by_cases h58 : 5 ≤ f.k ∧ f.k ≤ 8
            · rw [mkd_106 hp h58] at e; omega
            · unfold mkd at e
              rw [if_neg (by omega), if_neg (by omega), if_neg h14, if_neg h58] at e
              by_cases h31 : f.k = 31
              · rw [if_pos h31] at e; omega
              · rw [if_neg h31] at e
                by_cases h20 : 20 ≤ f.k
                · rw [km_hi h20] at e; omega
                · rw [km_lo (by omega) (by omega)] at e
                  exact ⟨⟨hp, by omega, by omega⟩, by omega⟩
        · unfold mkd at e
          by_cases h1 : f.p = 1
          · rw [if_pos h1] at e; split at e <;> omega
          · rw [if_neg h1, if_pos (by omega)] at e; split at e <;> omega
      · intro e
        rw [mkd_km e.1.1 (by omega), e.2]
        rfl
    have hB : b_165_401 least τ (S.length + 2) = if mkd f = 15 then some (.inl ((S.length : Int) + 1)) else (if (if f.p = 0 ∧ 10 ≤ f.k ∧ f.k ≤ 13 then (1 : Int) else 0) = 0 then some (.inr ((S.length : Int) + 2)) else (if (if f.p = 0 ∧ 20 ≤ f.k ∧ f.k ≤ 30 then stg f.k + 4 else if f.p = 0 ∧ 9 ≤ f.k ∧ f.k ≤ 13 then stg f.k else 0) < least then some (.inr ((S.length : Int) + 2)) else some (.inl ((S.length : Int) + 1)))) := by
      unfold b_165_401
      rw [show (S.length : Int) + 2 - 1 = S.length + 1 by omega, zg_pos ⟨by omega, by omega⟩, hm, zo_of h3, zg_pos (by split <;> decide), zo_of h1, zg_pos ⟨by omega, by omega⟩, zg_pos hz, show (S.length : Int) + 2 + -1 = S.length + 1 by omega]
    refine ⟨fun hP => ?_, fun hP => ?_⟩
    · rw [hB]
      by_cases c9 : f.k = 9
      · rw [if_pos (h15.mpr ⟨hP.1, c9⟩)]
      · have hK := hP.1
        have lv : (if f.p = 0 ∧ 20 ≤ f.k ∧ f.k ≤ 30 then stg f.k + 4 else if f.p = 0 ∧ 9 ≤ f.k ∧ f.k ≤ 13 then stg f.k else 0) = stg f.k := by rw [if_neg (fun e => by have := hK.2; omega), if_pos hK]
        have hK10 : f.p = 0 ∧ 10 ≤ f.k ∧ f.k ≤ 13 := ⟨hK.1, by have := hK.2; omega, hK.2.2⟩
        rw [lv, if_neg (fun e => c9 (h15.mp e).2), if_pos hK10, if_neg (by decide), if_neg (by have := hP.2; omega)]
    · rw [hB, if_neg (fun e => hP ⟨(h15.mp e).1, Or.inl (h15.mp e).2⟩)]
      by_cases c1 : f.p = 0 ∧ 10 ≤ f.k ∧ f.k ≤ 13
      · have lv : (if f.p = 0 ∧ 20 ≤ f.k ∧ f.k ≤ 30 then stg f.k + 4 else if f.p = 0 ∧ 9 ≤ f.k ∧ f.k ≤ 13 then stg f.k else 0) = stg f.k := by rw [if_neg (by omega), if_pos ⟨c1.1, by omega, c1.2.2⟩]
        rw [lv, if_pos c1, if_neg (by decide), if_pos (by
          by_cases hlt : stg f.k < least
          · exact hlt
          · exact absurd ⟨⟨c1.1, by omega, c1.2.2⟩, Or.inr (by omega)⟩ hP)]
      · rw [if_neg c1, if_pos rfl]) hw S hl hM hF zF (by omega)
  refine ⟨S', ?_, a4, a5, a6⟩
  unfold j_165_399
  have hl' : S'.length ≤ 20 := by
    rcases a4 with e | e
    · rw [e]; exact hl
    · omega
  rw [zo_of a1, show (S'.length : Int) + 1 - 1 = S'.length by omega, zg_pos ⟨by omega, by omega⟩]
  by_cases h20 : (S'.length : Int) = 20
  · rw [if_pos h20, if_pos h20]
  · rw [if_neg h20, if_neg h20]
/-- behind a formula -/
theorem opens_3 {S : List Fr} (h : PMd τ fm S len) (hF : SFr v cd rc fm S) (hkm : gI τ 177 27 = km k) (k0 : 0 ≤ k) (k42 : k ≤ 42) : ∃ x, f_165 3 τ = some x ∧ (x = 0 ∨ x = 1) ∧ (x = 1 ↔ ((10 ≤ k ∧ k ≤ 13) ∧ S.length = 20 ∧ ∀ f S2, S = f :: S2 → ¬ (isK f ∧ (f.k = 9 ∨ lst k ≤ stg f.k)))) := by
  obtain ⟨kl, kj, kv⟩ := kt_all (k := k) k0 k42
  have e0 : f_165 3 τ = j_165_368 3 (gI τ 177 38) (if 10 ≤ k ∧ k ≤ 13 then 1 else 0) τ := by
    unfold f_165
    rw [zg_pos (by decide), if_neg (by decide), if_neg (by decide)]
    unfold j_165_224
    rw [hkm, zo_of kl, zg_pos (by decide), if_neg (by decide)]
  by_cases hL : 10 ≤ k ∧ k ≤ 13
  · rw [if_neg (by omega), if_pos (by omega)] at kv
    have hsk : 1 ≤ stg k ∧ stg k ≤ 4 := by
      have : k = 10 ∨ k = 11 ∨ k = 12 ∨ k = 13 := by omega
      rcases this with e | e | e | e <;> rw [e] <;> decide
    have hlz : zR (lst k) := by
      show zR (if k = 12 then 3 else stg k)
      split <;> exact ⟨by omega, by omega⟩
    obtain ⟨S', a1, a4, a5, a6⟩ := o_links (least := lst k) hlz h.2.1 h.1.2 h.2.2.1 hF
    have e1 : f_165 3 τ = some (if (S'.length : Int) = 20 then 1 else 0) := by
      rw [e0, if_pos hL, h.1.1]
      unfold j_165_368
      rw [zg_pos (by decide), if_neg (by decide), zg_pos (by decide), if_neg (by decide), hkm]
      have hl : lst k = if k = 12 then 3 else stg k := rfl
      have hk6 : km k = k + 6 := km_lo (by omega) (by omega)
      by_cases h12 : k = 12
      · rw [hl, if_pos h12] at a1
        rw [if_pos (by omega)]
        exact a1
      · rw [hl, if_neg h12] at a1
        rw [if_neg (by omega), zo_of kv]
        exact a1
    have hl := h.1.2
    refine ⟨_, e1, by split <;> omega, ?_⟩
    by_cases h20 : (S'.length : Int) = 20
    · rw [if_pos h20]
      have hSS : S' = S := by
        rcases a4 with e | e
        · exact e
        · omega
      exact ⟨fun _ => ⟨hL, by rw [← hSS]; omega, fun f S2 e => a5 f S2 (by rw [hSS]; exact e)⟩, fun _ => rfl⟩
    · rw [if_neg h20]
      refine ⟨fun hh => by omega, fun hh => ?_⟩
      exfalso
      cases S with
      | nil => exact absurd hh.2.1 (by decide)
      | cons f S2 =>
        have := a6 f S2 rfl (hh.2.2 f S2 rfl)
        rw [this] at h20
        omega
  · refine ⟨0, ?_, Or.inl rfl, fun hh => by omega, fun hh => absurd hh.1 hL⟩
    rw [e0, if_neg hL]
    unfold j_165_368
    rw [zg_pos (by decide), if_neg (by decide), zg_pos (by decide), if_pos rfl]
/-- where a name, a colon or a number must come -/
theorem opens_4 {q : Int} (hq : 4 ≤ q) (hq6 : q ≤ 6) (hkm : gI τ 177 27 = km k) (k0 : 0 ≤ k) (k42 : k ≤ 42) : f_165 q τ = some 0 := by
  obtain ⟨kl, kj, kv⟩ := kt_all (k := k) k0 k42
  unfold f_165
  rw [zg_pos ⟨by omega, by omega⟩, if_neg (by omega), if_neg (by omega)]
  unfold j_165_224
  rw [hkm, zo_of kl, zg_pos ⟨by omega, by omega⟩, if_neg (by omega)]
  unfold j_165_368
  rw [zg_pos ⟨by omega, by omega⟩, if_pos (by omega)]
/-- a token that is no joint behind an expression -/
theorem opens_2 {S : List Fr} (h : PMd τ fm S len) (hF : SFr v cd rc fm S) (hkm : gI τ 177 27 = km k) (k0 : 0 ≤ k) (k42 : k ≤ 42) (hk : ¬ (20 ≤ k ∧ k ≤ 27)) : ∃ x, f_165 2 τ = some x ∧ (x = 0 ∨ x = 1) ∧ (x = 1 ↔ (S.length = 20 ∧ (k = 14 ∨ k = 32) ∧ AW fm S)) := by
  obtain ⟨kl, kj, kv⟩ := kt_all (k := k) k0 k42
  rw [if_neg hk] at kj
  have hF' := zF_big
  obtain ⟨S', a1, a2, a3, a4, a5, a6⟩ := o_loop (τ := τ) (fm := fm) (B := fun (q : Int) => b_165_237 2 (if 10 ≤ k ∧ k ≤ 13 then 1 else 0) τ q) (P := fun f => isJ f ∨ isP f) (fun hw => by
    show b_165_237 2 _ τ 1 = _
    unfold b_165_237
    rw [show (1 : Int) - 1 = 0 from rfl, zg_pos (by decide), hw, zo_of lvl60, zg_pos (by decide), if_neg (by decide)]) (fun S f hl hm hok => by
    have h1 := lvl_mkd hok
    have hb := lvl_b (f := f)
    have hB : b_165_237 2 (if 10 ≤ k ∧ k ≤ 13 then 1 else 0) τ (S.length + 2) = if 10 < (if f.p = 0 ∧ 20 ≤ f.k ∧ f.k ≤ 30 then stg f.k + 4 else if f.p = 0 ∧ 9 ≤ f.k ∧ f.k ≤ 13 then stg f.k else 0) then some (.inl ((S.length : Int) + 1)) else some (.inr ((S.length : Int) + 2)) := by
      unfold b_165_237
      rw [show (S.length : Int) + 2 - 1 = S.length + 1 by omega, zg_pos ⟨by omega, by omega⟩, hm, zo_of h1, zg_pos ⟨by omega, by omega⟩, show (S.length : Int) + 2 + -1 = S.length + 1 by omega]
    refine ⟨fun hP => ?_, fun hP => ?_⟩
    · have hj := isJP_iff.mp hP
      have := stg_JP hP
      rw [hB, if_pos hj, if_pos (by omega)]
    · rw [hB, if_neg (fun hj => hP (isJP_iff.mpr hj))]
      have h5 : (if f.p = 0 ∧ 9 ≤ f.k ∧ f.k ≤ 13 then stg f.k else 0) ≤ 5 := by
        split
        · rename_i hh
          have : f.k = 9 ∨ f.k = 10 ∨ f.k = 11 ∨ f.k = 12 ∨ f.k = 13 := by omega
          rcases this with e | e | e | e | e <;> rw [e] <;> decide
        · decide
      rw [if_neg (by omega)]) h.2.1 S h.1.2 h.2.2.1 hF zF (by have := h.1.2; omega)
  have hl := h.1.2
  have hl' : S'.length ≤ 20 := by
    rcases a4 with e | e
    · rw [e]; exact hl
    · omega
  have hAS : AW fm S → S' = S := by
    intro hA
    cases S with
    | nil =>
      rcases a4 with e | e
      · exact e
      · exact absurd e (by show ¬ S'.length < 0; omega)
    | cons f S2 =>
      refine a6 f S2 rfl (fun hP => ?_)
      have hj := isJP_iff.mp hP
      have hA' : f.p = 2 ∨ (f.p = 0 ∧ (9 ≤ f.k ∧ f.k ≤ 13 ∨ f.k = 37)) := hA
      omega
  obtain ⟨W, hW, hWz, hW169⟩ : ∃ W, gI τ 189 S'.length = W ∧ zR W ∧ ((AW fm S' → f_169 W = some 1 ∧ W ≠ 68 ∧ W ≠ 106) ∧ (¬ AW fm S' → f_169 W = some 0)) := by
    cases S' with
    | nil =>
      refine ⟨_, h.2.1, by split <;> decide, fun hA => ?_, fun hA => ?_⟩
      · have : fm = 1 := hA
        rw [if_pos this]
        exact ⟨rfl, by decide, by decide⟩
      · have : ¬ fm = 1 := hA
        rw [if_neg this]
        rfl
    | cons f S2 =>
      have hok := a3.2.ok
      refine ⟨mkd f, by have := a2.2.1.1; rw [len_cons]; exact this, mkd_z hok, fun hA => ?_, fun hA => ?_⟩
      · have := fl_place hok hA
        exact ⟨this.1, this.2.2.2.2.2.2.2.1, this.2.2.2.2.2.2.2.2⟩
      · have hA' : ¬ (f.p = 2 ∨ (f.p = 0 ∧ (9 ≤ f.k ∧ f.k ≤ 13 ∨ f.k = 37))) := hA
        have hnP := a5 f S2 rfl
        have hnj : ¬ (f.p = 0 ∧ 20 ≤ f.k ∧ f.k ≤ 30) := fun hj => hnP (isJP_iff.mpr hj)
        have : mkd f = 68 ∨ mkd f = 106 ∨ mkd f = 66 ∨ mkd f = 45 ∨ mkd f = 62 ∨ mkd f = 64 := by
          rcases hok with ⟨hp, hkf⟩ | ⟨hp, hkf⟩
          · unfold mkd
            rw [if_neg (by omega), if_neg (by omega)]
            by_cases b1 : f.k = 14 ∨ f.k = 32
            · rw [if_pos b1]; omega
            · rw [if_neg b1]
              by_cases b2 : 5 ≤ f.k ∧ f.k ≤ 8
              · rw [if_pos b2]; omega
              · rw [if_neg b2]
                by_cases b3 : f.k = 31
                · rw [if_pos b3]; omega
                · rw [if_neg b3, km_hi (by omega)]; omega
          · unfold mkd
            rw [if_pos (by omega)]
            split <;> omega
        rcases this with e | e | e | e | e | e <;> rw [e] <;> rfl
  have e224 : f_165 2 τ = (if W = 68 then (j_165_285 2 ((S'.length : Int) + 1) (if 10 ≤ k ∧ k ≤ 13 then 1 else 0) τ) else (if W = 106 then (j_165_285 2 ((S'.length : Int) + 1) (if 10 ≤ k ∧ k ≤ 13 then 1 else 0) τ) else (j_165_290 2 ((S'.length : Int) + 1) (if 10 ≤ k ∧ k ≤ 13 then 1 else 0) 0 τ))) := by
    unfold f_165
    rw [zg_pos (by decide), if_neg (by decide), if_pos rfl, hkm, zo_of kj, zg_pos (by decide), if_pos rfl, h.1.1]
    unfold j_165_224
    rw [hkm, zo_of kl, zg_pos (by decide), if_pos rfl, zo_of a1, show (S'.length : Int) + 1 - 1 = S'.length by omega, zg_pos ⟨by omega, by omega⟩, hW]
  by_cases hL : 10 ≤ k ∧ k ≤ 13
  · -- a link: what it ends makes room
    have hx : f_165 2 τ = some 0 := by
      rw [e224, if_pos hL]
      have e285 : W = 68 ∨ W = 106 → j_165_285 2 ((S'.length : Int) + 1) 1 τ = some 0 := by
        intro hWe
        -- one thing less
        cases hS' : S' with
        | nil =>
          exfalso
          rw [hS'] at hW
          have h60 : gI τ 189 0 = W := hW
          rw [h.2.1] at h60
          by_cases hf : fm = 1
          · rw [if_pos hf] at h60; omega
          · rw [if_neg hf] at h60; omega
        | cons f S2 =>
          rw [hS'] at a2 a3 hl'
          rw [List.length_cons] at hl'
          rw [if_neg (by omega), if_pos (by omega)] at kv
          have hlz : zR (lst k) := by
            have := stg_b k
            show zR (if k = 12 then 3 else stg k)
            split <;> exact ⟨by omega, by omega⟩
          obtain ⟨S3, b1, b4, -, -⟩ := o_links (least := lst k) hlz h.2.1 (show S2.length ≤ 20 by omega) a2.1 a3.1
          have hn20 : ¬ (S3.length : Int) = 20 := by
            rcases b4 with e | e
            · rw [e]; omega
            · omega
          rw [if_neg hn20] at b1
          unfold j_165_285 j_165_290
          rw [zg_pos (by decide), if_neg (by decide), zg_pos (by decide), if_neg (by decide)]
          unfold j_165_303
          rw [zg_pos (by decide), if_neg (by decide), len_cons, show (S2.length : Int) + 1 + 1 + -1 = S2.length + 1 by omega]
          unfold j_165_368
          rw [zg_pos (by decide), if_neg (by decide), zg_pos (by decide), if_neg (by decide), hkm]
          have hl : lst k = if k = 12 then 3 else stg k := rfl
          have hk6 : km k = k + 6 := km_lo (by omega) (by omega)
          by_cases h12 : k = 12
          · rw [hl, if_pos h12] at b1
            rw [if_pos (by omega)]
            exact b1
          · rw [hl, if_neg h12] at b1
            rw [if_neg (by omega), zo_of kv]
            exact b1
      by_cases c1 : W = 68
      · rw [if_pos c1]; exact e285 (Or.inl c1)
      · rw [if_neg c1]
        by_cases c2 : W = 106
        · rw [if_pos c2]; exact e285 (Or.inr c2)
        · rw [if_neg c2]
          unfold j_165_290
          rw [zg_pos (by decide), if_neg (by decide), zg_pos (by decide), if_pos rfl]
    exact ⟨0, hx, Or.inl rfl, fun hh => by omega, fun hh => by omega⟩
  · have e303 : f_165 2 τ = j_165_303 2 ((S'.length : Int) + 1) 0 τ := by
      rw [e224, if_neg hL]
      have e290 : ∀ t0, j_165_290 2 ((S'.length : Int) + 1) 0 t0 τ = j_165_303 2 ((S'.length : Int) + 1) 0 τ := by
        intro t0
        unfold j_165_290
        rw [zg_pos (by decide), if_pos rfl]
      by_cases c1 : W = 68
      · rw [if_pos c1]; exact e290 1
      · rw [if_neg c1]
        by_cases c2 : W = 106
        · rw [if_pos c2]; exact e290 1
        · rw [if_neg c2]; exact e290 0
    have e325 : j_165_325 ((S'.length : Int) + 1) τ = some (if (S'.length : Int) = 20 ∧ f_169 W = some 1 then 1 else 0) := by
      unfold j_165_325
      rw [show (S'.length : Int) + 1 - 1 = S'.length by omega, zg_pos ⟨by omega, by omega⟩, hW]
      by_cases hA : AW fm S'
      · have h1 := (hW169.1 hA).1
        rw [zo_of h1, zg_pos (by decide), if_neg (by decide), zg_pos ⟨by omega, by omega⟩]
        by_cases h20 : (S'.length : Int) = 20
        · rw [if_pos h20, if_pos ⟨h20, h1⟩]
        · rw [if_neg h20, if_neg (fun hh => h20 hh.1)]
      · have h1 := hW169.2 hA
        rw [zo_of h1, zg_pos (by decide), if_pos rfl, if_neg (fun hh => by rw [h1] at hh; exact absurd hh.2 (by decide))]
    have i20 : km k = 20 ↔ k = 14 := by
      unfold km
      repeat' split
      all_goals omega
    have i42 : km k = 42 ↔ k = 32 := km_inj (m := 32) k0 k42 (by decide) (by decide)
    by_cases hc : k = 14 ∨ k = 32
    · have ex : f_165 2 τ = some (if (S'.length : Int) = 20 ∧ f_169 W = some 1 then 1 else 0) := by
        rw [e303]
        unfold j_165_303
        rw [zg_pos (by decide), if_pos rfl, hkm]
        by_cases c1 : km k = 20
        · rw [if_pos c1, e325]
        · have c2 : km k = 42 := by
            rcases hc with e | e
            · exact absurd (i20.mpr e) c1
            · exact i42.mpr e
          rw [if_neg c1, if_pos c2, e325]
      refine ⟨_, ex, by split <;> omega, ?_⟩
      by_cases hcond : (S'.length : Int) = 20 ∧ f_169 W = some 1
      · rw [if_pos hcond]
        have hSS : S' = S := by
          rcases a4 with e | e
          · exact e
          · omega
        refine ⟨fun _ => ⟨by rw [← hSS]; omega, hc, ?_⟩, fun _ => rfl⟩
        by_cases hA : AW fm S'
        · rw [← hSS]; exact hA
        · rw [hW169.2 hA] at hcond
          exact absurd hcond.2 (by decide)
      · rw [if_neg hcond]
        refine ⟨fun hh => by omega, fun hh => ?_⟩
        exfalso
        have hSS := hAS hh.2.2
        apply hcond
        rw [hSS]
        refine ⟨by omega, (hW169.1 ?_).1⟩
        rw [hSS]
        exact hh.2.2
    · refine ⟨0, ?_, Or.inl rfl, fun hh => by omega, fun hh => absurd hh.2.1 hc⟩
      rw [e303]
      unfold j_165_303
      rw [zg_pos (by decide), if_pos rfl, hkm, if_neg (fun h => hc (Or.inl (i20.mp h))), if_neg (fun h => hc (Or.inr (i42.mp h)))]
end OPENS
