/-! THE INVARIANT: the world (atoms, relations, bounds); told, fault, isIn, isInCore. -/
/-- of class and reference: atoms, sizes, relations, states of tuples, and the class's row of FREE keys -/
def IW (s : zS) : Prop :=
  (1 ≤ gI s 1 0 ∧ gI s 1 0 ≤ 5 ∧ gI s 177 1 = gI s 1 0) ∧
  (∀ a, 0 ≤ a → a ≤ 3 → gI s 2 a = gI s 1 0 ^ a.toNat) ∧
  (0 ≤ gI s 1 4 ∧ gI s 1 4 ≤ 8 ∧ gI s 177 10 = gI s 1 4) ∧
  (∀ i, 0 ≤ i → i < gI s 1 4 → gJ s 3 i = gJ s 179 i ∧ gI s 4 i = gI s 180 i ∧ 1 ≤ gI s 4 i ∧ gI s 4 i ≤ 3) ∧
  (∀ k, 0 ≤ k → k < 1000 → gI s 5 k = gI s 181 k ∧ 0 ≤ gI s 5 k ∧ gI s 5 k ≤ 2 ∧ (gI s 5 k ≠ 0 → k / 125 < gI s 1 4 ∧ k % 125 < gI s 1 0 ^ (gI s 4 (k / 125)).toNat)) ∧
  (0 ≤ gI s 1 8 ∧ gI s 1 8 ≤ 12) ∧
  (∀ i, 0 ≤ i → i < gI s 1 8 → 0 ≤ gI s 7 i ∧ gI s 7 i < 1000 ∧ gI s 5 (gI s 7 i) = 1) ∧
  (∀ i j, 0 ≤ i → i < j → j < gI s 1 8 → gI s 7 i < gI s 7 j) ∧
  (∀ k, 0 ≤ k → k < 1000 → gI s 5 k = 1 → ∃ i, 0 ≤ i ∧ i < gI s 1 8 ∧ gI s 7 i = k)
theorem IW.cong {s s2 : zS} (h : zeq 2649388374917168212986973653599550989470730637283709108451983786349044427289878291843379322146001579250249476299616304496828 s s2) (hI : IW s) : IW s2 := by
  have e1 : gI s2 1 0 = gI s 1 0 := h.i rfl
  have e2 : gI s2 1 4 = gI s 1 4 := h.i rfl
  have e3 : gI s2 1 8 = gI s 1 8 := h.i rfl
  have e4 : gI s2 177 1 = gI s 177 1 := h.i rfl
  have e5 : gI s2 177 10 = gI s 177 10 := h.i rfl
  have e6 := h.ia (c := 2) rfl rfl
  have e7 := h.ja (c := 3) rfl rfl
  have e8 := h.ia (c := 4) rfl rfl
  have e9 := h.ia (c := 5) rfl rfl
  have e10 := h.ia (c := 7) rfl rfl
  have e11 := h.ja (c := 179) rfl rfl
  have e12 := h.ia (c := 180) rfl rfl
  have e13 := h.ia (c := 181) rfl rfl
  unfold IW at hI ⊢
  simp only [e1, e2, e3, e4, e5, e6, e7, e8, e9, e10, e11, e12, e13]
  exact hI
theorem npw_b {n a : Int} (h1 : 1 ≤ n) (h5 : n ≤ 5) (h0 : 0 ≤ a) (h3 : a ≤ 3) : 1 ≤ n ^ a.toNat ∧ n ^ a.toNat ≤ 125 := by
  have hn : n = 1 ∨ n = 2 ∨ n = 3 ∨ n = 4 ∨ n = 5 := by omega
  have ha : a = 0 ∨ a = 1 ∨ a = 2 ∨ a = 3 := by omega
  rcases hn with rfl | rfl | rfl | rfl | rfl <;> rcases ha with rfl | rfl | rfl | rfl <;> decide
/-- the reference's power -/
theorem m_power {s : zS} {a : Int} (h0 : 0 ≤ a) (h3 : a ≤ 3) : f_153 a s = some (gI s 177 1 ^ a.toNat) := by
  have hloop := zlp_F (B := fun (q : Int × Int) => b_153_4 a s q.1 q.2) (I := fun q => 0 ≤ q.2 ∧ q.2 ≤ a ∧ q.1 = gI s 177 1 ^ q.2.toNat) (μ := fun q => (a - q.2).toNat) (Q := fun t => t = gI s 177 1 ^ a.toNat) (by
    rintro ⟨v, i⟩ ⟨a1, a2, a3⟩
    dsimp only at a1 a2 a3 ⊢
    unfold b_153_4
    rw [zg_pos ⟨by omega, by omega⟩, zg_pos ⟨by omega, by omega⟩]
    by_cases hc : i < a
    · left
      rw [if_pos hc]
      refine ⟨_, rfl, ⟨by omega, by omega, ?_⟩, by omega⟩
      have e : (i + 1).toNat = i.toNat + 1 := by omega
      rw [a3, e, Int.pow_succ]
    · right
      rw [if_neg hc]
      have e : i = a := by omega
      exact ⟨_, rfl, by rw [a3, e]⟩) (s := (1, 0)) ⟨by decide, h0, by simp⟩ (by dsimp only; omega)
  obtain ⟨t, ht, hq⟩ := hloop
  unfold f_153
  rw [zo_of ht, hq]
theorem c_sizeOf {s : zS} (hW : IW s) {a : Int} (h0 : 0 ≤ a) (h3 : a ≤ 3) : f_52 a s = some (gI s 1 0 ^ a.toNat) := by
  unfold f_52
  rw [zg_pos ⟨by omega, by omega⟩, if_neg (by omega), if_neg (by omega), zg_pos ⟨by omega, by omega⟩, hW.2.1 a h0 h3]
/-- there is such a tuple -/
abbrev tok (s : zS) (r t : Int) : Prop := 0 ≤ r ∧ r < gI s 1 4 ∧ 0 ≤ t ∧ t < gI s 1 0 ^ (gI s 4 r).toNat
theorem tok_b {s : zS} (hW : IW s) {r t : Int} (h : tok s r t) : 0 ≤ r ∧ r < 8 ∧ 0 ≤ t ∧ t < 125 := by
  have h1 := (hW.2.2.2.1 r h.1 h.2.1)
  have h2 := npw_b hW.1.1 hW.1.2.1 (by omega) h1.2.2.2
  have h3 := hW.2.2.1
  exact ⟨h.1, by have := h.2.1; omega, h.2.2.1, by have := h.2.2.2; omega⟩
theorem c_hasTuple {s : zS} (hW : IW s) {r t : Int} (hr : zR r) (ht : zR t) : f_55 r t s = some (if tok s r t then 1 else 0) := by
  have h3 := hW.2.2.1
  unfold f_55
  rw [zg_pos hr]
  by_cases h1 : r < 0
  · rw [if_pos h1, if_neg (fun h => by have := h.1; omega)]
  · rw [if_neg h1]
    by_cases h2 : r < gI s 1 4
    · rw [if_pos h2, zg_pos ht]
      by_cases h4 : t < 0
      · rw [if_pos h4, if_neg (fun h => by have := h.2.2.1; omega)]
      · have ha := hW.2.2.2.1 r (by omega) h2
        have hb := npw_b hW.1.1 hW.1.2.1 (show 0 ≤ gI s 4 r by omega) ha.2.2.2
        rw [if_neg h4, zg_pos ⟨by omega, by omega⟩, c_sizeOf hW (by omega) ha.2.2.2, zo_of rfl, zg_pos ⟨by omega, by omega⟩]
        by_cases h5 : t < gI s 1 0 ^ (gI s 4 r).toNat
        · rw [if_pos h5, if_pos ⟨by omega, h2, by omega, h5⟩]
        · rw [if_neg h5, if_neg (fun h => h5 h.2.2.2)]
    · rw [if_neg h2, if_neg (fun h => h2 h.2.1)]
theorem m_noTuple {s : zS} (hW : IW s) {r t : Int} (hr : zR r) (ht : zR t) : f_152 r t s = some (if tok s r t then 0 else 1) := by
  have h3 := hW.2.2.1
  unfold f_152
  rw [zg_pos hr]
  by_cases h1 : r < 0
  · rw [if_pos h1, if_neg (fun h => by have := h.1; omega)]
  · rw [if_neg h1]
    by_cases h2 : r < gI s 1 4
    · rw [if_pos (by omega), zg_pos ht]
      by_cases h4 : t < 0
      · rw [if_pos h4, if_neg (fun h => by have := h.2.2.1; omega)]
      · have ha := hW.2.2.2.1 r (by omega) h2
        have hb := npw_b hW.1.1 hW.1.2.1 (show 0 ≤ gI s 4 r by omega) ha.2.2.2
        rw [if_neg h4, zg_pos ⟨by omega, by omega⟩, ← ha.2.1, m_power (by omega) ha.2.2.2, zo_of rfl, hW.1.2.2, zg_pos ⟨by omega, by omega⟩]
        by_cases h5 : t < gI s 1 0 ^ (gI s 4 r).toNat
        · rw [if_pos h5, if_pos ⟨by omega, h2, by omega, h5⟩]
        · rw [if_neg h5, if_neg (fun h => h5 h.2.2.2)]
    · rw [if_neg (by omega), if_neg (fun h => h2 h.2.1)]
/-- the reference's row of FREE tuples -/
theorem m_listFree {s : zS} (hW : IW s) : ∃ s', f_154 s = some ((), s') ∧ gI s' 177 13 = gI s 1 8 ∧ ∀ i, 0 ≤ i → i < gI s 1 8 → gI s' 182 i = gI s 7 i / 125 ∧ gI s' 183 i = gI s 7 i % 125 := by
  obtain ⟨-, -, ⟨r0, r8, rr⟩, -, hst, ⟨f0, f12⟩, hfr, hinc, hall⟩ := hW
  have hloop := zlp_F (B := fun (q : Int × zS) => b_154_7 q.1 q.2) (I := fun q => 0 ≤ q.1 ∧ q.1 ≤ 125 * gI s 1 4 ∧ gI q.2 177 10 = gI s 177 10 ∧ (∀ k, gI q.2 181 k = gI s 181 k) ∧ 0 ≤ gI q.2 177 13 ∧ gI q.2 177 13 ≤ gI s 1 8 ∧ (∀ i, 0 ≤ i → i < gI s 1 8 → (gI s 7 i < q.1 ↔ i < gI q.2 177 13)) ∧ ∀ i, 0 ≤ i → i < gI q.2 177 13 → gI q.2 182 i = gI s 7 i / 125 ∧ gI q.2 183 i = gI s 7 i % 125) (μ := fun q => (125 * gI s 1 4 - q.1).toNat) (Q := fun t => gI t 177 13 = gI s 1 8 ∧ ∀ i, 0 ≤ i → i < gI s 1 8 → gI t 182 i = gI s 7 i / 125 ∧ gI t 183 i = gI s 7 i % 125) (by
    rintro ⟨k, σ⟩ ⟨a1, a2, a3, a4, a5, a6, a7, a8⟩
    dsimp only at a1 a2 a3 a4 a5 a6 a7 a8 ⊢
    unfold b_154_7
    rw [zg_pos ⟨by omega, by omega⟩, a3, rr, zg_pos ⟨by omega, by omega⟩]
    by_cases hc : k < 125 * gI s 1 4
    · left
      rw [if_pos hc, zg_pos ⟨by omega, by omega⟩, a4 k, ← (hst k a1 (by omega)).1]
      by_cases h1 : gI s 5 k = 1
      · obtain ⟨i0, i1, i2, i3⟩ := hall k a1 (by omega) h1
        have hj : i0 = gI σ 177 13 := by
          have u1 := (a7 i0 i1 i2)
          have u2 : ¬ i0 < gI σ 177 13 := fun h => by have := u1.mpr h; omega
          by_cases u3 : gI σ 177 13 < i0
          · have u4 := hinc (gI σ 177 13) i0 a5 u3 i2
            have u5 := (a7 (gI σ 177 13) a5 (by omega)).mp (by omega)
            omega
          · omega
        rw [if_pos h1, zg_pos ⟨by omega, ⟨by omega, by omega⟩, by decide, by decide⟩, zg_pos ⟨by omega, by omega⟩]
        refine ⟨_, rfl, ⟨by omega, by omega, ?_, ?_, ?_, ?_, ?_, ?_⟩, by omega⟩
        · rw [gI_ni (by decide), gI_nc (by decide), gI_nc (by decide)]; exact a3.trans rr
        · intro m; rw [gI_nc (by decide), gI_nc (by decide), gI_nc (by decide)]; exact a4 m
        · rw [gI_same ⟨by omega, by omega⟩]; omega
        · rw [gI_same ⟨by omega, by omega⟩]; omega
        · intro i hi hi2
          rw [gI_same ⟨by omega, by omega⟩]
          constructor
          · intro hlt
            by_cases u : i = gI σ 177 13
            · omega
            · by_cases u2 : i < gI σ 177 13
              · omega
              · have := hinc (gI σ 177 13) i a5 (by omega) hi2
                rw [← hj, i3] at this
                omega
          · intro hlt
            by_cases u : i = gI σ 177 13
            · rw [u, ← hj, i3]; omega
            · have := (a7 i hi hi2).mpr (by omega)
              omega
        · intro i hi hi2
          rw [gI_same ⟨by omega, by omega⟩] at hi2
          rw [gI_nc (by decide), gI_nc (c := 177) (by decide)]
          by_cases u : i = gI σ 177 13
          · rw [gI_nc (by decide), u, gI_same ⟨by omega, by omega⟩, gI_same ⟨by omega, by omega⟩, ← hj, i3]
            exact ⟨rfl, rfl⟩
          · rw [gI_nc (by decide), gI_ni u, gI_ni u, gI_nc (by decide)]
            exact a8 i hi (by omega)
      · rw [if_neg h1]
        refine ⟨_, rfl, ⟨by omega, by omega, a3.trans rr, a4, a5, a6, ?_, a8⟩, by omega⟩
        intro i hi hi2
        rw [← a7 i hi hi2]
        have u := (hfr i hi hi2).2.2
        constructor
        · intro hlt
          by_cases v : gI s 7 i = k
          · rw [v] at u; exact absurd u h1
          · omega
        · intro hlt; omega
    · right
      rw [if_neg hc]
      have hlast : gI σ 177 13 = gI s 1 8 := by
        by_cases u : gI σ 177 13 < gI s 1 8
        · have v := hfr (gI σ 177 13) a5 u
          have w := (hst _ v.1 v.2.1).2.2.2 (by omega)
          have y := (a7 (gI σ 177 13) a5 u).mp (by omega)
          omega
        · omega
      exact ⟨σ, rfl, hlast, fun i hi hi2 => a8 i hi (by omega)⟩) (s := (0, sI s 177 13 0)) (by
    refine ⟨by dsimp only; omega, by dsimp only; omega, gI_ni (by decide), fun k => gI_nc (by decide), ?_, ?_, ?_, ?_⟩
    · rw [gI_same (by decide)]; decide
    · rw [gI_same (by decide)]; exact f0
    · intro i hi hi2
      rw [gI_same (by decide)]
      have := (hfr i hi hi2).1
      dsimp only
      omega
    · intro i hi hi2
      rw [gI_same (by decide)] at hi2
      omega) (by dsimp only; omega)
  obtain ⟨t, ht, hq⟩ := hloop
  exact ⟨t, by unfold f_154; rw [zo_of ht], hq⟩
