/-! bound. -/
theorem zeq_self {M c : Nat} {s : zS} {i : Int} : zeq M s (sI s c i (gI s c i)) := fun x y _ => by
  refine ⟨?_, rfl, rfl⟩
  show (if x = c then (if y = i then Int32.ofInt (gI s c i) else s.1 x y) else s.1 x y) = _
  by_cases h : x = c
  · rw [if_pos h]
    by_cases h2 : y = i
    · rw [if_pos h2, h, h2]
      exact Int32.ofInt_toInt _
    · rw [if_neg h2]
  · rw [if_neg h]
theorem c_dropFree {s : zS} {key p : Int} (hk : zR key) (hF : gI s 1 8 ≤ 12) (p0 : 0 ≤ p) (pF : p < gI s 1 8) (hp : gI s 7 p = key) (hu : ∀ i, 0 ≤ i → i < gI s 1 8 → i ≠ p → gI s 7 i ≠ key) : ∃ s', f_57 key s = some ((), s') ∧ gI s' 1 8 = gI s 1 8 - 1 ∧ ∀ i, 0 ≤ i → i < gI s 1 8 - 1 → gI s' 7 i = if i < p then gI s 7 i else gI s 7 (i + 1) := by
  have hloop := zlp_F (B := fun (q : Int × Int × zS) => b_57_4 key q.1 q.2.1 q.2.2) (I := fun q => 0 ≤ q.2.1 ∧ q.2.1 ≤ gI s 1 8 ∧ q.1 = (if q.2.1 ≤ p then q.2.1 else q.2.1 - 1) ∧ gI q.2.2 1 8 = gI s 1 8 ∧ ∀ j, 0 ≤ j → j < 12 → gI q.2.2 7 j = if p ≤ j ∧ j < q.1 then gI s 7 (j + 1) else gI s 7 j) (μ := fun q => (gI s 1 8 - q.2.1).toNat) (Q := fun t => t.1 = gI s 1 8 - 1 ∧ ∀ j, 0 ≤ j → j < gI s 1 8 - 1 → gI t.2 7 j = if j < p then gI s 7 j else gI s 7 (j + 1)) (by
    rintro ⟨k, i, σ⟩ ⟨a1, a2, a3, a4, a5⟩
    dsimp only at a1 a2 a3 a4 a5 ⊢
    have hki : k ≤ i ∧ 0 ≤ k := by by_cases h : i ≤ p <;> simp only [h, if_true, if_false] at a3 <;> omega
    unfold b_57_4
    rw [zg_pos ⟨by omega, by omega⟩, a4]
    by_cases hc : i < gI s 1 8
    · left
      have hri : gI σ 7 i = gI s 7 i := by rw [a5 i a1 (by omega), if_neg (by omega)]
      rw [if_pos hc, zg_pos ⟨by omega, by omega⟩, zg_pos hk, hri]
      by_cases he : i = p
      · have h1 : gI s 7 i = key := by rw [he]; exact hp
        rw [if_pos h1]
        refine ⟨_, rfl, ⟨by dsimp only; omega, by dsimp only; omega, ?_, a4, a5⟩, by dsimp only; omega⟩
        dsimp only
        rw [if_pos (by omega)] at a3
        rw [if_neg (by omega)]
        omega
      · rw [if_neg (hu i a1 hc he), zg_pos ⟨by omega, by omega⟩]
        refine ⟨_, rfl, ⟨by dsimp only; omega, by dsimp only; omega, ?_, ?_, ?_⟩, by dsimp only; omega⟩
        · dsimp only
          by_cases h : i ≤ p
          · rw [if_pos h] at a3
            rw [if_pos (by omega)]
            omega
          · rw [if_neg h] at a3
            rw [if_neg (by omega)]
            omega
        · dsimp only
          rw [gI_nc (by decide)]
          exact a4
        · intro j hj hj2
          dsimp only
          rw [gI_if (zR_gI _ _ _)]
          by_cases h : i ≤ p
          · rw [if_pos h] at a3
            by_cases e : j = k
            · rw [if_pos e, if_neg (by omega)]
              congr 1
              omega
            · rw [if_neg e, a5 j hj hj2, if_neg (by omega), if_neg (by omega)]
          · rw [if_neg h] at a3
            by_cases e : j = k
            · rw [if_pos e, if_pos (by omega)]
              congr 1
              omega
            · rw [if_neg e, a5 j hj hj2]
              by_cases h3 : p ≤ j ∧ j < k
              · rw [if_pos h3, if_pos (by omega)]
              · rw [if_neg h3, if_neg (by omega)]
    · right
      rw [if_neg hc, ]
      have e : i = gI s 1 8 := by omega
      rw [if_neg (by omega)] at a3
      refine ⟨_, rfl, by dsimp only; omega, fun j hj hj2 => ?_⟩
      dsimp only
      rw [a5 j hj (by omega)]
      by_cases h3 : j < p
      · rw [if_neg (by omega), if_pos h3]
      · rw [if_pos (by omega), if_neg h3]) (s := (0, 0, s)) (by
    refine ⟨by dsimp only; omega, by dsimp only; omega, by dsimp only; rw [if_pos p0], rfl, fun j hj hj2 => ?_⟩
    dsimp only
    rw [if_neg (by omega)]) (by dsimp only; omega)
  obtain ⟨t, ht, h1, h2⟩ := hloop
  refine ⟨_, by unfold f_57; rw [zo_of ht], ?_, ?_⟩
  · rw [gI_same ⟨by omega, by omega⟩, h1]
  · intro i hi hi2
    rw [gI_nc (by decide)]
    exact h2 i hi hi2
theorem c_addFree {s : zS} {key : Int} (hk : zR key) (hF0 : 0 ≤ gI s 1 8) (hF : gI s 1 8 < 12) (hinc : ∀ i j, 0 ≤ i → i < j → j < gI s 1 8 → gI s 7 i < gI s 7 j) (hu : ∀ i, 0 ≤ i → i < gI s 1 8 → gI s 7 i ≠ key) : ∃ s' p, f_58 key s = some ((), s') ∧ 0 ≤ p ∧ p ≤ gI s 1 8 ∧ gI s' 1 8 = gI s 1 8 + 1 ∧ (∀ j, 0 ≤ j → j < p → gI s 7 j < key) ∧ (∀ j, p ≤ j → j < gI s 1 8 → key < gI s 7 j) ∧ ∀ j, 0 ≤ j → j ≤ gI s 1 8 → gI s' 7 j = if j < p then gI s 7 j else if j = p then key else gI s 7 (j - 1) := by
  have hloop := zlp_F (B := fun (q : Int × zS) => b_58_5 key q.1 q.2) (I := fun q => 0 ≤ q.1 ∧ q.1 ≤ gI s 1 8 ∧ gI q.2 1 8 = gI s 1 8 ∧ (∀ j, q.1 ≤ j → j < gI s 1 8 → key < gI s 7 j) ∧ ∀ j, 0 ≤ j → j ≤ gI s 1 8 → gI q.2 7 j = if j ≤ q.1 then gI s 7 j else gI s 7 (j - 1)) (μ := fun q => q.1.toNat) (Q := fun t => 0 ≤ t.1 ∧ t.1 ≤ gI s 1 8 ∧ gI t.2 1 8 = gI s 1 8 ∧ (∀ j, 0 ≤ j → j < t.1 → gI s 7 j < key) ∧ (∀ j, t.1 ≤ j → j < gI s 1 8 → key < gI s 7 j) ∧ ∀ j, 0 ≤ j → j ≤ gI s 1 8 → gI t.2 7 j = if j ≤ t.1 then gI s 7 j else gI s 7 (j - 1)) (by
    rintro ⟨k, σ⟩ ⟨a1, a2, a3, a4, a5⟩
    dsimp only at a1 a2 a3 a4 a5 ⊢
    unfold b_58_5
    rw [zg_pos ⟨by omega, by omega⟩]
    by_cases hc : 0 < k
    · have hrk : gI σ 7 (k - 1) = gI s 7 (k - 1) := by rw [a5 (k - 1) (by omega) (by omega), if_pos (by omega)]
      rw [if_pos hc, zg_pos ⟨by omega, by omega⟩, zg_pos hk, hrk]
      by_cases hl : key < gI s 7 (k - 1)
      · left
        rw [if_pos hl, zg_pos ⟨by omega, by omega⟩]
        refine ⟨_, rfl, ⟨by dsimp only; omega, by dsimp only; omega, ?_, ?_, ?_⟩, by dsimp only; omega⟩
        · dsimp only
          rw [gI_nc (by decide)]
          exact a3
        · intro j hj hj2
          dsimp only at hj
          by_cases e : j = k - 1
          · rw [e]; exact hl
          · exact a4 j (by omega) hj2
        · intro j hj hj2
          dsimp only
          rw [gI_if (zR_gI _ _ _)]
          by_cases e : j = k
          · rw [if_pos e, if_neg (by omega), e]
          · rw [if_neg e, a5 j hj hj2]
            by_cases h3 : j ≤ k
            · rw [if_pos h3, if_pos (by omega)]
            · rw [if_neg h3, if_neg (by omega)]
      · right
        rw [if_neg hl]
        refine ⟨_, rfl, a1, a2, a3, fun j hj hj2 => ?_, a4, a5⟩
        dsimp only at hj2
        have h1 := hu (k - 1) (by omega) (by omega)
        by_cases e : j = k - 1
        · rw [e]; omega
        · have := hinc j (k - 1) hj (by omega) (by omega)
          omega
    · right
      rw [if_neg hc]
      exact ⟨_, rfl, a1, a2, a3, fun j hj hj2 => by dsimp only at hj2; omega, a4, a5⟩) (s := (gI s 1 8, s)) (by
    refine ⟨hF0, by dsimp only; omega, rfl, fun j hj hj2 => by dsimp only at hj; omega, fun j hj hj2 => ?_⟩
    dsimp only
    rw [if_pos hj2]) (by dsimp only; omega)
  obtain ⟨t, ht, h1, h2, h3, h4, h5, h6⟩ := hloop
  refine ⟨_, t.1, by unfold f_58; rw [zo_of ht, zg_pos ⟨by omega, by omega⟩], h1, h2, ?_, h4, h5, ?_⟩
  · rw [h3, gI_same ⟨by omega, by omega⟩]
  · intro j hj hj2
    rw [gI_nc (by decide), gI_if hk]
    by_cases e : j = t.1
    · rw [if_pos e, if_neg (by omega), if_pos e]
    · rw [if_neg e, h6 j hj hj2]
      by_cases h7 : j < t.1
      · rw [if_pos (by omega), if_pos h7]
      · rw [if_neg (by omega), if_neg h7, if_neg e]
/-- what change does -/
theorem c_change {s : zS} {key how : Int} (hW : IW s) (k0 : 0 ≤ key) (k1 : key < 1000) (h0 : 0 ≤ how) (h2 : how ≤ 2) (hne : gI s 5 key ≠ how) (hroom : how = 1 → gI s 1 8 < 12) : ∃ s', f_56 key how s = some ((), s') ∧ (∀ k, gI s' 5 k = if k = key then how else gI s 5 k) ∧ (∀ k, gJ s' 6 k = if k = key then (if how = 2 then 18446744073709551615#64 else 0#64) else gJ s 6 k) ∧ (0 ≤ gI s' 1 8 ∧ gI s' 1 8 ≤ 12) ∧ (∀ i, 0 ≤ i → i < gI s' 1 8 → 0 ≤ gI s' 7 i ∧ gI s' 7 i < 1000 ∧ gI s' 5 (gI s' 7 i) = 1) ∧ (∀ i j, 0 ≤ i → i < j → j < gI s' 1 8 → gI s' 7 i < gI s' 7 j) ∧ (∀ k, 0 ≤ k → k < 1000 → gI s' 5 k = 1 → ∃ i, 0 ≤ i ∧ i < gI s' 1 8 ∧ gI s' 7 i = k) := by
  have hW0 := hW
  obtain ⟨-, -, -, -, -, ⟨f0, f12⟩, hfr, hinc, hall⟩ := hW
  have hR : zR how := ⟨by omega, by omega⟩
  -- the last two writes
  have hlast : ∀ σ : zS, ∃ s', j_56_25 key how σ = some ((), s') ∧ (∀ k, gI s' 5 k = if k = key then how else gI σ 5 k) ∧ (∀ k, gJ s' 6 k = if k = key then (if how = 2 then 18446744073709551615#64 else 0#64) else gJ σ 6 k) ∧ gI s' 1 8 = gI σ 1 8 ∧ ∀ i, gI s' 7 i = gI σ 7 i := by
    intro σ
    unfold j_56_25
    rw [zg_pos ⟨k0, k1⟩, zg_pos hR]
    by_cases hh : how = 2
    · rw [if_pos hh]
      refine ⟨_, rfl, fun k => ?_, fun k => ?_, gI_nc (by decide), fun i => gI_nc (by decide)⟩
      · show gI (sI σ 5 key how) 5 k = _
        rw [gI_if hR]
      · rw [gJ_if, if_pos hh]
        rfl
    · rw [if_neg hh]
      refine ⟨_, rfl, fun k => ?_, fun k => ?_, gI_nc (by decide), fun i => gI_nc (by decide)⟩
      · show gI (sI σ 5 key how) 5 k = _
        rw [gI_if hR]
      · rw [gJ_if, if_neg hh]
        rfl
  by_cases hb : gI s 5 key = 1
  · -- it was FREE
    have hh1 : how ≠ 1 := fun h => hne (by omega)
    obtain ⟨p, p0, pF, hp⟩ := hall key k0 k1 hb
    obtain ⟨s1, e1, g1, g2⟩ := c_dropFree (s := s) (key := key) (p := p) ⟨by omega, by omega⟩ f12 p0 pF hp (fun i hi hi2 hne h => hne (fr_inj hW0 hi hi2 p0 pF (by omega)))
    obtain ⟨s2, e2, q1, q2, q3, q4⟩ := hlast s1
    have F := fr_57 e1
    have c5 := F.ia (c := 5) rfl rfl
    have c6 := F.ja (c := 6) rfl rfl
    refine ⟨s2, ?_, fun k => by rw [q1, c5], fun k => by rw [q2, c6], ⟨by omega, by omega⟩, ?_, ?_, ?_⟩
    · unfold f_56 j_56_15
      rw [zg_pos ⟨k0, k1⟩, if_pos hb, zb_of e1, zg_pos hR, if_neg hh1, e2]
    · intro i hi hi2
      rw [q4, g2 i hi (by omega)]
      by_cases h : i < p
      · rw [if_pos h, q1, c5]
        obtain ⟨x1, x2, x3⟩ := hfr i hi (by omega)
        have x4 := hinc i p hi h pF
        rw [if_neg (by omega)]
        exact ⟨x1, x2, x3⟩
      · rw [if_neg h, q1, c5]
        obtain ⟨x1, x2, x3⟩ := hfr (i + 1) (by omega) (by omega)
        have x4 := hinc p (i + 1) p0 (by omega) (by omega)
        rw [if_neg (by omega)]
        exact ⟨x1, x2, x3⟩
    · intro i j hi hij hj
      rw [q4, q4, g2 i hi (by omega), g2 j (by omega) (by omega)]
      by_cases h : j < p
      · rw [if_pos h, if_pos (by omega)]
        exact hinc i j hi hij (by omega)
      · rw [if_neg h]
        by_cases h3 : i < p
        · rw [if_pos h3]
          exact hinc i (j + 1) hi (by omega) (by omega)
        · rw [if_neg h3]
          exact hinc (i + 1) (j + 1) (by omega) (by omega) (by omega)
    · intro k hk hk2 h
      rw [q1, c5] at h
      by_cases e : k = key
      · rw [if_pos e] at h; omega
      · rw [if_neg e] at h
        obtain ⟨i, i0, iF, hi⟩ := hall k hk hk2 h
        have hip : i ≠ p := fun e2 => e (by rw [← hi, e2, hp])
        by_cases h4 : i < p
        · refine ⟨i, i0, by omega, ?_⟩
          rw [q4, g2 i i0 (by omega), if_pos h4, hi]
        · refine ⟨i - 1, by omega, by omega, ?_⟩
          rw [q4, g2 (i - 1) (by omega) (by omega), if_neg (by omega), show i - 1 + 1 = i by omega, hi]
  · by_cases hh1 : how = 1
    · -- it becomes FREE
      obtain ⟨s1, p, e1, p0, pF, g1, g3, g4, g2⟩ := c_addFree (s := s) (key := key) ⟨by omega, by omega⟩ f0 (hroom hh1) hinc (fun i hi hi2 h => by have := (hfr i hi hi2).2.2; rw [h] at this; exact hb this)
      obtain ⟨s2, e2, q1, q2, q3, q4⟩ := hlast s1
      have F := fr_58 e1
      have c5 := F.ia (c := 5) rfl rfl
      have c6 := F.ja (c := 6) rfl rfl
      have hro := hroom hh1
      refine ⟨s2, ?_, fun k => by rw [q1, c5], fun k => by rw [q2, c6], ⟨by omega, by omega⟩, ?_, ?_, ?_⟩
      · unfold f_56 j_56_15
        rw [zg_pos ⟨k0, k1⟩, if_neg hb, zg_pos hR, if_pos hh1, zb_of e1, e2]
      · intro i hi hi2
        rw [q4, g2 i hi (by omega)]
        by_cases h : i < p
        · rw [if_pos h, q1, c5]
          obtain ⟨x1, x2, x3⟩ := hfr i hi (by omega)
          have x4 := g3 i hi h
          rw [if_neg (by omega)]
          exact ⟨x1, x2, x3⟩
        · rw [if_neg h]
          by_cases h3 : i = p
          · rw [if_pos h3, q1, if_pos rfl]
            exact ⟨k0, k1, hh1⟩
          · rw [if_neg h3, q1, c5]
            obtain ⟨x1, x2, x3⟩ := hfr (i - 1) (by omega) (by omega)
            have x4 := g4 (i - 1) (by omega) (by omega)
            rw [if_neg (by omega)]
            exact ⟨x1, x2, x3⟩
      · intro i j hi hij hj
        rw [q4, q4, g2 i hi (by omega), g2 j (by omega) (by omega)]
        by_cases h : j < p
        · rw [if_pos h, if_pos (by omega)]
          exact hinc i j hi hij (by omega)
        · rw [if_neg h]
          by_cases h5 : j = p
          · rw [if_pos h5, if_pos (by omega)]
            exact g3 i hi (by omega)
          · rw [if_neg h5]
            have y1 := g4 (j - 1) (by omega) (by omega)
            by_cases h3 : i < p
            · rw [if_pos h3]
              have y2 := g3 i hi h3
              omega
            · rw [if_neg h3]
              by_cases h6 : i = p
              · rw [if_pos h6]
                exact y1
              · rw [if_neg h6]
                exact hinc (i - 1) (j - 1) (by omega) (by omega) (by omega)
      · intro k hk hk2 h
        rw [q1, c5] at h
        by_cases e : k = key
        · refine ⟨p, p0, by omega, ?_⟩
          rw [q4, g2 p p0 pF, if_neg (by omega), if_pos rfl, e]
        · rw [if_neg e] at h
          obtain ⟨i, i0, iF, hi⟩ := hall k hk hk2 h
          by_cases h4 : i < p
          · refine ⟨i, i0, by omega, ?_⟩
            rw [q4, g2 i i0 (by omega), if_pos h4, hi]
          · refine ⟨i + 1, by omega, by omega, ?_⟩
            rw [q4, g2 (i + 1) (by omega) (by omega), if_neg (by omega), if_neg (by omega), show i + 1 - 1 = i by omega, hi]
    · -- neither
      obtain ⟨s2, e2, q1, q2, q3, q4⟩ := hlast s
      refine ⟨s2, ?_, q1, q2, ⟨by omega, by omega⟩, ?_, ?_, ?_⟩
      · unfold f_56 j_56_15
        rw [zg_pos ⟨k0, k1⟩, if_neg hb, zg_pos hR, if_neg hh1, e2]
      · intro i hi hi2
        rw [q4, q1]
        obtain ⟨x1, x2, x3⟩ := hfr i hi (by omega)
        rw [if_neg (fun h => by rw [h] at x3; exact hb x3)]
        exact ⟨x1, x2, x3⟩
      · intro i j hi hij hj
        rw [q4, q4]
        exact hinc i j hi hij (by omega)
      · intro k hk hk2 h
        rw [q1] at h
        by_cases e : k = key
        · rw [if_pos e] at h; exact absurd h hh1
        · rw [if_neg e] at h
          obtain ⟨i, i0, iF, hi⟩ := hall k hk hk2 h
          exact ⟨i, i0, by omega, by rw [q4, hi]⟩
theorem c_fillKnown {s : zS} : ∃ s', f_270_174 (0#64) s = some ((), s') ∧ ∀ i, 0 ≤ i → i < 17 → gJ s' 174 i = 0#64 := by
  have hloop := zlp_F (B := fun (q : Int × zS) => b_270_174_6 (0#64) 17 q.1 q.2) (I := fun q => 0 ≤ q.1 ∧ q.1 ≤ 17 ∧ ∀ i, 0 ≤ i → i < q.1 → gJ q.2 174 i = 0#64) (μ := fun q => (17 - q.1).toNat) (Q := fun t => ∀ i, 0 ≤ i → i < 17 → gJ t 174 i = 0#64) (by
    rintro ⟨k, σ⟩ ⟨a1, a2, a3⟩
    dsimp only at a1 a2 a3 ⊢
    unfold b_270_174_6
    rw [zg_pos ⟨by omega, by omega⟩, zg_pos (by decide)]
    by_cases hc : k < 17
    · left
      rw [if_pos hc, zg_pos ⟨by omega, by omega⟩]
      refine ⟨_, rfl, ⟨by dsimp only; omega, by dsimp only; omega, fun i hi hi2 => ?_⟩, by dsimp only; omega⟩
      dsimp only at hi2 ⊢
      rw [gJ_if]
      by_cases e : i = k
      · rw [if_pos e]
      · rw [if_neg e]
        exact a3 i hi (by omega)
    · right
      rw [if_neg hc]
      exact ⟨_, rfl, fun i hi hi2 => a3 i hi (by omega)⟩) (s := (0, s)) ⟨by dsimp only; omega, by dsimp only; omega, fun i hi hi2 => by dsimp only at hi2; omega⟩ (by dsimp only; omega)
  obtain ⟨t, ht, hq⟩ := hloop
  exact ⟨t, by unfold f_270_174; rw [zo_of ht], hq⟩
