/-! BOTH PARSERS: a token where an operand is awaited. -/
theorem t75_tab : ∀ k : Fin 43, t_75_1 (k.val : Int) = if (28 ≤ (k.val : Int) ∧ (k.val : Int) ≤ 30) ∨ (k.val : Int) = 35 then 84 else if (k.val : Int) = 39 then 93 else if (k.val : Int) = 2 then 101 else if (k.val : Int) = 15 ∨ (k.val : Int) = 16 then 108 else if (k.val : Int) = 17 then 118 else 128 := by decide +kernel
theorem t82_tab : ∀ k : Fin 43, t_82_1 (k.val : Int) = if (k.val : Int) = 9 ∨ (k.val : Int) = 31 ∨ (k.val : Int) = 37 then 152 else if (k.val : Int) = 18 ∨ (k.val : Int) = 19 then 161 else if (k.val : Int) = 4 then 171 else if 5 ≤ (k.val : Int) ∧ (k.val : Int) ≤ 8 then 179 else 206 := by decide +kernel
theorem t75_eq {k : Int} (k0 : 0 ≤ k) (k42 : k ≤ 42) : t_75_1 k = (if (28 ≤ k ∧ k ≤ 30) ∨ k = 35 then 84 else if k = 39 then 93 else if k = 2 then 101 else if k = 15 ∨ k = 16 then 108 else if k = 17 then 118 else 128) ∧ t_82_1 k = (if k = 9 ∨ k = 31 ∨ k = 37 then 152 else if k = 18 ∨ k = 19 then 161 else if k = 4 then 171 else if 5 ≤ k ∧ k ≤ 8 then 179 else 206) := by
  have h1 := t75_tab ⟨k.toNat, by omega⟩
  have h2 := t82_tab ⟨k.toNat, by omega⟩
  dsimp only at h1 h2
  rw [show ((k.toNat : Nat) : Int) = k by omega] at h1 h2
  exact ⟨h1, h2⟩
section TURN
variable {σ τ : zS} {c : Nat} {fm : Int} {v : Wd} {S : List Fr} {len len' r tk pl k q : Int} {D : Dn} {w : BitVec 64} {nm : Int → BitVec 64}
/-- one more thing would be opened -/
theorem opens_01 {n : Int} (h38 : gI τ 177 38 = n + 1) (n0 : 0 ≤ n) (n20 : n ≤ 20) (hkm : gI τ 177 27 = km k) (k0 : 0 ≤ k) (k42 : k ≤ 42) (hq : q = 0 ∨ q = 1) : f_165 q τ = some (if n = 20 ∧ (((28 ≤ k ∧ k ≤ 30) ∨ k = 35 ∨ k = 39) ∨ (q = 0 ∧ ((4 ≤ k ∧ k ≤ 9) ∨ k = 31 ∨ k = 37))) then 1 else 0) := by
  obtain ⟨kl, kj, kv⟩ := kt_all k0 k42
  have hsb := stg_b k
  -- the last question
  have e123 : ∀ x y : Int, (x = 0 ∨ x = 1) → (y = 0 ∨ y = 1) → j_165_123 q (n + 1) x y τ = some (if n = 20 ∧ (x = 1 ∨ (q = 0 ∧ y = 1)) then 1 else 0) := by
    intro x y hx hy
    unfold j_165_123
    rw [zg_pos ⟨by omega, by omega⟩, show n + 1 - 1 = n by omega]
    rcases hx with rfl | rfl
    · rw [if_pos rfl, zg_pos ⟨by omega, by omega⟩]
      by_cases q0 : q = 0
      · rw [if_pos q0, zg_pos ⟨by omega, by omega⟩]
        rcases hy with rfl | rfl
        · rw [if_pos rfl, if_neg (by omega)]
        · rw [if_neg (by decide), zg_pos ⟨by omega, by omega⟩]
          by_cases h20 : n = 20
          · rw [if_pos h20, if_pos ⟨h20, Or.inr ⟨q0, rfl⟩⟩]
          · rw [if_neg h20, if_neg (fun h => h20 h.1)]
      · rw [if_neg q0, if_neg (by omega)]
    · rw [if_neg (by decide), zg_pos ⟨by omega, by omega⟩]
      by_cases h20 : n = 20
      · rw [if_pos h20, if_pos ⟨h20, Or.inl rfl⟩]
      · rw [if_neg h20, if_neg (fun h => h20 h.1)]
  have hli : (km k = 15 ∨ km k = 47 ∨ km k = 41 ∨ km k = 10 ∨ km k = 11 ∨ km k = 12 ∨ km k = 13 ∨ km k = 14) ↔ ((4 ≤ k ∧ k ≤ 9) ∨ k = 31 ∨ k = 37) := by
    unfold km
    repeat' split
    all_goals omega
  have e45 : ∀ x : Int, j_165_45 q (n + 1) x τ = j_165_123 q (n + 1) x (if (4 ≤ k ∧ k ≤ 9) ∨ k = 31 ∨ k = 37 then 1 else 0) τ := by
    intro x
    unfold j_165_45 j_165_118
    rw [hkm]
    by_cases hc : (4 ≤ k ∧ k ≤ 9) ∨ k = 31 ∨ k = 37
    · rw [if_pos hc]
      rcases hli.mpr hc with e | e | e | e | e | e | e | e <;> rw [e] <;> rfl
    · rw [if_neg hc]
      have hn : ∀ y : Int, (y = 15 ∨ y = 47 ∨ y = 41 ∨ y = 10 ∨ y = 11 ∨ y = 12 ∨ y = 13 ∨ y = 14) → km k ≠ y := fun y hy e => hc (hli.mp (by omega))
      rw [if_neg (hn 15 (by omega)), if_neg (hn 47 (by omega)), if_neg (hn 41 (by omega)), if_neg (hn 10 (by omega)), if_neg (hn 11 (by omega)), if_neg (hn 12 (by omega)), if_neg (hn 13 (by omega)), if_neg (hn 14 (by omega))]
  have i45 : km k = 45 ↔ k = 35 := km_inj (m := 35) k0 k42 (by decide) (by decide)
  have i49 : km k = 49 ↔ k = 39 := km_inj (m := 39) k0 k42 (by decide) (by decide)
  have i16 : (if 20 ≤ k ∧ k ≤ 30 then stg k + 4 else if 9 ≤ k ∧ k ≤ 13 then stg k else 0) = 16 ↔ (28 ≤ k ∧ k ≤ 30) := by
    by_cases hc : 20 ≤ k ∧ k ≤ 30
    · rw [if_pos hc]
      have : k = 20 ∨ k = 21 ∨ k = 22 ∨ k = 23 ∨ k = 24 ∨ k = 25 ∨ k = 26 ∨ k = 27 ∨ k = 28 ∨ k = 29 ∨ k = 30 := by omega
      rcases this with e | e | e | e | e | e | e | e | e | e | e <;> rw [e] <;> decide
    · rw [if_neg hc]
      split <;> omega
  have fin : ∀ x : Int, (x = 0 ∨ x = 1) → (x = 1 ↔ ((28 ≤ k ∧ k ≤ 30) ∨ k = 35 ∨ k = 39)) → j_165_45 q (n + 1) x τ = some (if n = 20 ∧ (((28 ≤ k ∧ k ≤ 30) ∨ k = 35 ∨ k = 39) ∨ (q = 0 ∧ ((4 ≤ k ∧ k ≤ 9) ∨ k = 31 ∨ k = 37))) then 1 else 0) := by
    intro x hx hxi
    rw [e45 x]
    by_cases hc : (4 ≤ k ∧ k ≤ 9) ∨ k = 31 ∨ k = 37
    · rw [if_pos hc, e123 x 1 hx (Or.inr rfl)]
      congr 1
      by_cases hg : n = 20 ∧ (x = 1 ∨ (q = 0 ∧ (1 : Int) = 1))
      · rw [if_pos hg, if_pos (by omega)]
      · rw [if_neg hg, if_neg (by omega)]
    · rw [if_neg hc, e123 x 0 hx (Or.inl rfl)]
      congr 1
      by_cases hg : n = 20 ∧ (x = 1 ∨ (q = 0 ∧ (0 : Int) = 1))
      · rw [if_pos hg, if_pos (by omega)]
      · rw [if_neg hg, if_neg (by omega)]
  unfold f_165 j_165_40
  rw [zg_pos ⟨by omega, by omega⟩, if_pos (by omega), hkm, h38, zo_of kv]
  by_cases c1 : km k = 45
  · rw [if_pos c1]
    exact fin 1 (Or.inr rfl) ⟨fun _ => Or.inr (Or.inl (i45.mp c1)), fun _ => rfl⟩
  · rw [if_neg c1]
    by_cases c2 : km k = 49
    · rw [if_pos c2]
      exact fin 1 (Or.inr rfl) ⟨fun _ => Or.inr (Or.inr (i49.mp c2)), fun _ => rfl⟩
    · rw [if_neg c2, zg_pos (by repeat' split
                                all_goals exact ⟨by omega, by omega⟩)]
      by_cases c3 : (if 20 ≤ k ∧ k ≤ 30 then stg k + 4 else if 9 ≤ k ∧ k ≤ 13 then stg k else 0) = 16
      · rw [if_pos c3]
        exact fin 1 (Or.inr rfl) ⟨fun _ => Or.inl (i16.mp c3), fun _ => rfl⟩
      · rw [if_neg c3]
        refine fin 0 (Or.inl rfl) ⟨fun h => by omega, fun h => ?_⟩
        rcases h with h | h | h
        · exact absurd (i16.mpr h) c3
        · exact absurd (i45.mpr h) c1
        · exact absurd (i49.mpr h) c2
/-- f_171 where f_174 is asked -/
theorem m171 (hkm : gI τ 177 27 = km k) (k0 : 0 ≤ k) (k42 : k ≤ 42) (hn : ¬ ((4 ≤ k ∧ k ≤ 9) ∨ k = 18 ∨ k = 19 ∨ k = 31 ∨ k = 37)) {x : Int} {τ' : zS} (h : f_174 τ = some (x, τ')) : f_171 τ = some (x, τ') := by
  have hv : km k ≠ 15 ∧ km k ≠ 47 ∧ km k ≠ 24 ∧ km k ≠ 25 ∧ km k ≠ 41 ∧ ¬ (10 ≤ km k ∧ km k ≤ 14) := by
    unfold km
    repeat' split
    all_goals omega
  have e82 : j_171_82 0 τ = some (x, τ') := by
    unfold j_171_82
    rw [hkm, if_neg (by omega), zg_pos (by decide), if_pos rfl]
    unfold j_171_118
    rw [zg_pos (by decide), if_pos rfl, hkm, if_neg hv.2.2.2.2.1, zb_of h]
  unfold f_171 j_171_81
  rw [hkm, if_neg hv.1, if_neg hv.2.1, if_neg hv.2.2.1, if_neg hv.2.2.2.1]
  by_cases c1 : km k < 10
  · rw [if_pos c1, e82]
  · rw [if_neg c1, if_pos (by omega), e82]
/-- nothing fits -/
theorem m174n (hkm : gI τ 177 27 = km k) (k0 : 0 ≤ k) (k42 : k ≤ 42) (hn : ¬ ((28 ≤ k ∧ k ≤ 30) ∨ k = 35 ∨ k = 39 ∨ k = 2 ∨ (15 ≤ k ∧ k ≤ 17))) : f_174 τ = some (103, τ) := by
  obtain ⟨kl, kj, kv⟩ := kt_all k0 k42
  have hsb := stg_b k
  have hv : km k ≠ 45 ∧ km k ≠ 49 ∧ km k ≠ 1 ∧ km k ≠ 21 ∧ km k ≠ 22 ∧ km k ≠ 23 := by
    unfold km
    repeat' split
    all_goals omega
  have i16 : (if 20 ≤ k ∧ k ≤ 30 then stg k + 4 else if 9 ≤ k ∧ k ≤ 13 then stg k else 0) ≠ 16 := by
    by_cases hc : 20 ≤ k ∧ k ≤ 30
    · rw [if_pos hc]
      have : k = 20 ∨ k = 21 ∨ k = 22 ∨ k = 23 ∨ k = 24 ∨ k = 25 ∨ k = 26 ∨ k = 27 := by omega
      rcases this with e | e | e | e | e | e | e | e <;> rw [e] <;> decide
    · rw [if_neg hc]
      split <;> omega
  unfold f_174
  rw [hkm, zo_of kv, zg_pos (by repeat' split
                                all_goals exact ⟨by omega, by omega⟩), if_neg i16, if_neg hv.1, if_neg hv.2.1, if_neg hv.2.2.1, if_neg hv.2.2.2.1, if_neg hv.2.2.2.2.1, if_neg hv.2.2.2.2.2]
theorem m170 (hq : q = 0 ∨ q = 1) (hkm : gI τ 177 27 = km k) (k0 : 0 ≤ k) (k42 : k ≤ 42) (hn : ¬ ((4 ≤ k ∧ k ≤ 9) ∨ k = 18 ∨ k = 19 ∨ k = 31 ∨ k = 37) ∨ q = 1) {x : Int} {τ' : zS} (h : f_174 τ = some (x, τ')) : f_170 q τ = some (x, τ') := by
  unfold f_170
  rcases hq with rfl | rfl
  · rw [zg_pos (by decide), show t_170_1 0 = 32 from rfl, if_pos rfl, zb_of (m171 hkm k0 k42 (by omega) h)]
  · rw [zg_pos (by decide), show t_170_1 1 = 37 from rfl, if_neg (by decide), if_pos rfl, zb_of h]
theorem m170_0 {x : Int} {τ' : zS} (h : f_171 τ = some (x, τ')) : f_170 0 τ = some (x, τ') := by
  unfold f_170
  rw [zg_pos (by decide), show t_170_1 0 = 32 from rfl, if_pos rfl, zb_of h]
end TURN
