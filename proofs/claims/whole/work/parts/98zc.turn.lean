/-! BOTH PARSERS: a token behind an expression. -/
section TURN
variable {σ τ : zS} {c : Nat} {fm : Int} {v : Wd} {S : List Fr} {len len' r tk pl k i : Int} {D : Dn}
/-- refused in a row of endings -/
theorem c_rowRefused (i0 : 0 ≤ i) (i1 : i ≤ 20) (h : gI σ 10 15 ≠ 0) : b_87_2 k i σ = some (.inr σ) ∧ j_87_33 k σ = some ((), σ) := by
  constructor
  · unfold b_87_2
    rw [zg_pos ⟨by omega, by omega⟩]
    by_cases hi : i < 20
    · rw [if_pos hi, if_neg h]
    · rw [if_neg hi]
  · unfold j_87_33
    rw [if_neg h]
theorem js_le {k r : Int} (hk : ¬ (20 ≤ k ∧ k ≤ 27)) : js k r ≤ 6 := by
  unfold js
  by_cases h1 : 10 ≤ k ∧ k ≤ 13
  · rw [if_pos h1]
    have : k = 10 ∨ k = 11 ∨ k = 12 ∨ k = 13 := by omega
    rcases this with e | e | e | e <;> rw [e] <;> decide
  · rw [if_neg h1]
    by_cases h2 : k = 14 ∨ k = 32 ∨ (20 ≤ k ∧ k ≤ 27)
    · rw [if_pos h2]
      by_cases h0 : r = 0
      · rw [if_pos h0]; decide
      · rw [if_neg h0]
        have : k = 14 ∨ k = 32 := by omega
        rcases this with e | e <;> rw [e] <;> decide
    · rw [if_neg h2]; decide
theorem js_joint {k r : Int} (hk : 20 ≤ k ∧ k ≤ 27) (hr : 1 ≤ r) : js k r = stg k ∧ 7 ≤ stg k ∧ stg k ≤ 11 := by
  have hs : 7 ≤ stg k ∧ stg k ≤ 11 := by
    have : k = 20 ∨ k = 21 ∨ k = 22 ∨ k = 23 ∨ k = 24 ∨ k = 25 ∨ k = 26 ∨ k = 27 := by omega
    rcases this with e | e | e | e | e | e | e | e <;> rw [e] <;> decide
  refine ⟨?_, hs⟩
  unfold js
  rw [if_neg (by omega), if_pos (by omega), if_neg (by omega)]
theorem stg_JP {f : Fr} (h : isJ f ∨ isP f) : 7 ≤ stg f.k := by
  have : f.k = 20 ∨ f.k = 21 ∨ f.k = 22 ∨ f.k = 23 ∨ f.k = 24 ∨ f.k = 25 ∨ f.k = 26 ∨ f.k = 27 ∨ f.k = 28 ∨ f.k = 29 ∨ f.k = 30 := by
    rcases h with h | h <;> have := h.2 <;> omega
  rcases this with e | e | e | e | e | e | e | e | e | e | e <;> rw [e] <;> decide
/-- a joint behind an expression -/
theorem s2_joint (h : JB σ τ c fm v S len len' r D tk) (hr : 1 ≤ r) (hk : 20 ≤ k ∧ k ≤ 27) (htk : tk < 200) (hkc : gI σ 8 4 = k) (hpc : gI σ 8 5 = pl) (hkm : gI τ 177 27 = km k) (hpm : gI τ 177 28 = pl) : ∃ σ', f_87 k σ = some ((), σ') ∧ ((S.length = 20 ∧ (∀ f S2, S = f :: S2 → ¬ ((isJ f ∨ isP f) ∧ stg k + 4 ≤ stg f.k + 4)) ∧ gI σ' 10 15 = 6 ∧ gI σ' 10 16 = pl) ∨ ((S.length < 20 ∨ ∃ f S2, S = f :: S2 ∧ ((isJ f ∨ isP f) ∧ stg k + 4 ≤ stg f.k + 4)) ∧ ∃ τ' q', f_176 τ = some (q', τ') ∧ OUT k pl q' σ' τ' c fm v tk)) := by
  have hF := zF_big
  have hl20 := h.1.2.2.2.1.2
  have hjk := fun r hr => js_joint (r := r) hk hr
  have hsk := (hjk 1 (by decide)).2
  have hle : ∀ (f : Fr) (r : Int), isJ f ∨ isP f → 1 ≤ r → (js k r ≤ stg f.k ↔ stg k + 4 ≤ stg f.k + 4) := fun f r _ hr => by rw [(hjk r hr).1]; omega
  obtain ⟨kl, kj, kv⟩ := kt_all (k := k) (by omega) (by omega)
  rw [if_pos hk] at kj
  rw [if_pos (by omega)] at kv
  have hkm10 : km k = k + 10 := km_hi (by omega)
  have e87 : ∀ (n : Nat) (i' : Int) (σ0 σ' : zS), zrch (fun (q : Int × zS) => b_87_2 k q.1 q.2) n (0, σ) (i', σ0) → n ≤ 20 → b_87_2 k i' σ0 = some (.inr σ0) → j_87_33 k σ0 = some ((), σ') → f_87 k σ = some ((), σ') := by
    intro n i' σ0 σ' h1 hn h2 h3
    unfold f_87
    rw [zo_of (h1.ends (n := zF) h2 (by omega)), h3]
  rcases phaseA (k := k) (tk := tk) (c := c) (fm := fm) (v := v) (least := stg k + 4) (by omega) (by omega) (by omega) (by omega) hle S σ τ 0 len len' r D h hr (by decide) (by omega) with ⟨σ', τ1, τ', i', P, a1, a2, a3, a4, a5, a6, a7⟩ | ⟨S', σ0, τ0, i', l1, l1', r1, D1, a1, a2, a3, a4, a5, a6, a7, a8, a9, a10, a11⟩
  · obtain ⟨b1, b2⟩ := c_rowRefused (k := k) (i := i') (σ := σ') a2.1 a2.2 (by omega)
    refine ⟨σ', e87 _ _ _ _ a1 (by omega) b1 b2, ?_⟩
    have e177 : f_177 (stg k + 4) τ = some (5, τ') := by
      unfold f_177
      rw [zo_of (a4.ends (n := zF) a5 (by omega))]
      rfl
    have e176 : f_176 τ = some (105, τ') := by
      unfold f_176
      rw [hkm, zo_of kj, zg_pos (by decide), if_neg (by decide), zo_of kv, zb_of e177, zg_pos (by decide), if_pos (by decide)]
      rfl
    right
    refine ⟨?_, τ', 105, e176, Or.inr (Or.inl ⟨5, by decide, by decide, by decide, by decide, by rw [a3.1, if_neg (by omega)], by rw [if_pos rfl, a6]; exact a3.2⟩)⟩
    by_cases hS : S.length < 20
    · exact Or.inl hS
    · right
      cases S with
      | nil => exact absurd (show (0 : Nat) < 20 by decide) hS
      | cons f S2 =>
        refine ⟨f, S2, rfl, ?_⟩
        by_cases hc : (isJ f ∨ isP f) ∧ stg k + 4 ≤ stg f.k + 4
        · exact hc
        · exfalso
          have hst := m_jointStop (least := stg k + 4) h.2.1 h.2.2.1.2.ok (by omega) (by omega) hc
          obtain ⟨m, hm, e⟩ := a4
          cases m with
          | zero =>
            have := e 1
            rw [Nat.add_zero, zlp_r hst, zlp_r a5] at this
            injection this with this
            cases this
          | succ m =>
            have := e 1
            rw [show 1 + (m + 1) = (m + 1) + 1 by omega, zlp_r hst, zlp_r a5] at this
            injection this with this
            cases this
  · have hstop : b_87_2 k i' σ0 = some (.inr σ0) := by
      refine c_turnStop a4.1 a4.2.2.1 a4.2.2.2.2.1 (by omega) (by omega) a6.1 a6.2 (fun f S2 e hE => ?_)
      have hj := (hjk r1 a5).1
      have hok : fok f := by
        have := a4.2.2.1
        rw [e] at this
        exact this.2.ok
      have hn := a9 f S2 e
      have hjs := hle f r1
      obtain ⟨x1, x2, x3, x4⟩ := hE
      rcases hok with ⟨hp, hkf⟩ | ⟨hp, hkf⟩
      · by_cases hJP : isJ f ∨ isP f
        · apply hn
          refine ⟨hJP, (hjs hJP a5).mp ?_⟩
          rcases x4 hp with h | h <;> omega
        · have hnr : ¬ (20 ≤ f.k ∧ f.k ≤ 30) := fun hh => hJP (by
            by_cases h27 : f.k ≤ 27
            · exact Or.inl ⟨hp, hh.1, h27⟩
            · exact Or.inr ⟨hp, by omega, hh.2⟩)
          have hs6 : stg f.k ≤ 6 := by
            have hff : f.k = 5 ∨ f.k = 6 ∨ f.k = 7 ∨ f.k = 8 ∨ f.k = 9 ∨ f.k = 10 ∨ f.k = 11 ∨ f.k = 12 ∨ f.k = 13 ∨ f.k = 14 ∨ f.k = 31 ∨ f.k = 32 ∨ f.k = 35 ∨ f.k = 37 := by omega
            rcases hff with e | e | e | e | e | e | e | e | e | e | e | e | e | e <;> rw [e] <;> decide
          rcases x4 hp with h | h <;> omega
      · rcases hp with hp | hp
        · exact x2 hp
        · exact x1 ⟨by omega, Or.inl hp⟩
    have k8 : gI σ0 8 4 = k := by rw [a7.i rfl]; exact hkc
    have p8 : gI σ0 8 5 = pl := by rw [a7.i rfl]; exact hpc
    have km8 : gI τ0 177 27 = km k := by rw [a8.i rfl]; exact hkm
    have pm8 : gI τ0 177 28 = pl := by rw [a8.i rfl]; exact hpm
    have hj1 := (hjk r1 a5).1
    have hMJ : MJ k r1 fm S' := ⟨by omega, fun h => by omega, fun h => Or.inl (by omega)⟩
    have e97 := (c_mayJoin a4.1 a4.2.2.1 a4.2.2.2.2.1 (k := k) (by omega) (by omega)).1 hMJ
    have h15 := a4.1.2.2.1.1
    have e177 : f_177 (stg k + 4) τ = some (0, τ0) := by
      unfold f_177
      rw [zo_of (a2.ends (n := zF) a3 (by omega))]
      rfl
    by_cases hfull : S'.length = 20
    · have hSS : S' = S := by
        rcases a10 with e | e
        · exact e
        · omega
      obtain ⟨σ', b1, b2, b3⟩ := c_openFull (k := k) a4.1 hfull p8
      refine ⟨σ', e87 _ _ _ _ a1 (by omega) hstop ?_, Or.inl ⟨by rw [← hSS]; exact hfull, fun f S2 e => a9 f S2 (by rw [hSS]; exact e), b2, b3⟩⟩
      unfold j_87_33
      rw [if_pos h15, zo_of e97, zg_pos (by decide), if_neg (by decide), zb_of b1]
    · have hl20' := a4.1.2.2.2.1.2
      have hnf : S.length < 20 ∨ ∃ f S2, S = f :: S2 ∧ ((isJ f ∨ isP f) ∧ stg k + 4 ≤ stg f.k + 4) := by
        by_cases hS : S.length < 20
        · exact Or.inl hS
        · right
          cases S with
          | nil => exact absurd (show (0 : Nat) < 20 by decide) hS
          | cons f S2 =>
            refine ⟨f, S2, rfl, ?_⟩
            by_cases hc : (isJ f ∨ isP f) ∧ stg k + 4 ≤ stg f.k + 4
            · exact hc
            · exfalso
              have e := a11 f S2 rfl hc
              rw [e] at hfull
              omega
      obtain ⟨σ', τ', f, b1, b2, b3, b4, b5, b6⟩ := opened_joint a4 a5 (by omega) htk p8 pm8 hk
      have e176 : f_176 τ = some (1, τ') := by
        unfold f_176
        rw [hkm, zo_of kj, zg_pos (by decide), if_neg (by decide), zo_of kv, zb_of e177, zg_pos (by decide), if_neg (by decide), km8, hkm10, zb_of b2]
      refine ⟨σ', e87 _ _ _ _ a1 (by omega) hstop ?_, Or.inr ⟨hnf, τ', 1, e176, Or.inl ⟨v, vLe.rf h.2.2.2.2.2.2.2.2.1, Or.inl ⟨Or.inr rfl, _, _, _, b3, b4, fun h => by omega, fun hA => ?_⟩, by omega⟩⟩⟩
      · unfold j_87_33
        rw [if_pos h15, zo_of e97, zg_pos (by decide), if_neg (by decide), zb_of b1]
      · have hA' : f.p = 2 ∨ (f.p = 0 ∧ (9 ≤ f.k ∧ f.k ≤ 13 ∨ f.k = 37)) := hA
        omega
end TURN
