/-! BOTH PARSERS: what the class asks of what is open. -/
/-- how strongly a kind binds -/
def stg (k : Int) : Int := if k = 13 then 1 else if k = 12 then 2 else if k = 11 then 3 else if k = 10 then 4 else if k = 9 then 5 else if k = 14 ∨ k = 32 ∨ (5 ≤ k ∧ k ≤ 8) then 6 else if k = 24 ∨ k = 25 then 7 else if k = 26 then 8 else if k = 20 then 9 else if 21 ≤ k ∧ k ≤ 23 then 10 else if k = 27 then 11 else if 28 ≤ k ∧ k ≤ 30 then 12 else 0
theorem stg_tab : ∀ k : Fin 43, f_91 (k.val : Int) = some (stg (k.val : Int)) := by decide +kernel
theorem stg_eq {k : Int} (h0 : 0 ≤ k) (h1 : k ≤ 42) : f_91 k = some (stg k) := by
  have := stg_tab ⟨k.toNat, by omega⟩
  dsimp only at this
  rw [show ((k.toNat : Nat) : Int) = k by omega] at this
  exact this
theorem stg_b (k : Int) : 0 ≤ stg k ∧ stg k ≤ 12 := by
  unfold stg
  repeat' split
  all_goals omega
/-- how strongly a token binds that joins behind an operand of arity r -/
def js (k r : Int) : Int := if 10 ≤ k ∧ k ≤ 13 then stg k else if k = 14 ∨ k = 32 ∨ (20 ≤ k ∧ k ≤ 27) then (if r = 0 then 0 else stg k) else 0
theorem t90_tab : ∀ k : Fin 43, t_90_1 (k.val : Int) = if 10 ≤ (k.val : Int) ∧ (k.val : Int) ≤ 13 then 108 else if (k.val : Int) = 14 ∨ (k.val : Int) = 32 ∨ (20 ≤ (k.val : Int) ∧ (k.val : Int) ≤ 27) then 113 else 129 := by decide +kernel
theorem t90_eq {k : Int} (h0 : 0 ≤ k) (h1 : k ≤ 42) : t_90_1 k = if 10 ≤ k ∧ k ≤ 13 then 108 else if k = 14 ∨ k = 32 ∨ (20 ≤ k ∧ k ≤ 27) then 113 else 129 := by
  have := t90_tab ⟨k.toNat, by omega⟩
  dsimp only at this
  rw [show ((k.toNat : Nat) : Int) = k by omega] at this
  exact this
theorem c_js {σ : zS} {k r : Int} (h0 : 0 ≤ k) (h1 : k ≤ 42) (hr : gI σ 10 6 = r) : f_90 k σ = some (js k r) := by
  unfold f_90 js
  rw [zg_pos ⟨by omega, by omega⟩, t90_eq h0 h1, hr]
  by_cases c1 : 10 ≤ k ∧ k ≤ 13
  · rw [if_pos c1, if_pos rfl, zo_of (stg_eq h0 h1), if_pos c1]
  · rw [if_neg c1, if_neg c1]
    by_cases c2 : k = 14 ∨ k = 32 ∨ (20 ≤ k ∧ k ≤ 27)
    · rw [if_pos c2, if_neg (by decide), if_pos rfl, if_pos c2]
      by_cases c3 : r = 0
      · rw [if_pos c3, if_pos c3]
      · rw [if_neg c3, if_neg c3, zo_of (stg_eq h0 h1)]
    · rw [if_neg c2, if_neg (by decide), if_neg (by decide), if_pos rfl, if_neg c2]
theorem js_b (k r : Int) : 0 ≤ js k r ∧ js k r ≤ 12 := by
  have := stg_b k
  unfold js
  repeat' split
  all_goals omega
theorem t81_tab : ∀ k : Fin 43, t_81_58 (k.val : Int) = if 9 ≤ (k.val : Int) ∧ (k.val : Int) ≤ 13 ∨ (k.val : Int) = 37 then 116 else 118 := by decide +kernel
theorem t81_eq {k : Int} (h0 : 0 ≤ k) (h1 : k ≤ 42) : t_81_58 k = if 9 ≤ k ∧ k ≤ 13 ∨ k = 37 then 116 else 118 := by
  have := t81_tab ⟨k.toNat, by omega⟩
  dsimp only at this
  rw [show ((k.toNat : Nat) : Int) = k by omega] at this
  exact this
section COND
variable {σ : zS} {c : Nat} {fm K len r k : Int} {S : List Fr} {f : Fr} {v : Wd} {cd : Cd} {rc : Rc}
/-- kinds and parts as they may be -/
def fok (f : Fr) : Prop := (f.p = 0 ∧ (5 ≤ f.k ∧ f.k ≤ 14 ∨ 20 ≤ f.k ∧ f.k ≤ 32 ∨ f.k = 35 ∨ f.k = 37)) ∨ ((f.p = 1 ∨ f.p = 2) ∧ bk f.k)
theorem FS.ok (h : FS v cd rc fm S f) : fok f := by
  unfold fok
  rcases h.2 with h | h | h | h | h | h | h
  · exact Or.inl ⟨h.1, by omega⟩
  · exact Or.inl ⟨h.1, by omega⟩
  · exact Or.inl ⟨h.1, by omega⟩
  · exact Or.inl ⟨h.1, by omega⟩
  · exact Or.inl ⟨h.1, by omega⟩
  · exact Or.inr ⟨Or.inl h.1, h.2.1⟩
  · exact Or.inr ⟨Or.inr h.1, h.2.1⟩
theorem c_awaits (h : PC σ c fm K S len) (hF : SFr v cd rc fm S) : (AW fm S → f_81 σ = some 1) ∧ (¬ AW fm S → f_81 σ = some 0) := by
  obtain ⟨-, ⟨h3, h01⟩, -, ⟨h8, h20⟩, -⟩ := id h
  cases S with
  | nil =>
    have e : gI σ 10 8 = 0 := h8
    unfold f_81
    rw [if_pos e, h3]
    refine ⟨fun ha => ?_, fun ha => ?_⟩
    · have : fm = 1 := ha
      rw [zg_pos (by omega), this]
    · have : ¬ fm = 1 := ha
      rw [zg_pos (by omega), show fm = 0 by omega]
  | cons f S =>
    obtain ⟨t8, t20, ⟨t1, t2, -⟩, -⟩ := h.top
    have hok := hF.2.ok
    unfold f_81
    rw [t8, if_neg (by omega), sln, zg_pos ⟨by omega, by omega⟩, t2, t1]
    rcases hok with ⟨hp, hk⟩ | ⟨hp, hk⟩
    · rw [if_pos hp, t81_eq (by omega) (by omega)]
      by_cases c1 : 9 ≤ f.k ∧ f.k ≤ 13 ∨ f.k = 37
      · rw [if_pos c1, if_pos rfl]
        exact ⟨fun _ => rfl, fun ha => absurd (Or.inr ⟨hp, c1⟩) ha⟩
      · rw [if_neg c1, if_neg (by decide), if_pos rfl]
        refine ⟨fun ha => ?_, fun _ => rfl⟩
        rcases ha with ha | ha
        · omega
        · exact absurd ha.2 c1
    · rw [if_neg (by omega)]
      by_cases c2 : f.p = 2
      · rw [if_pos c2]
        exact ⟨fun _ => rfl, fun ha => absurd (Or.inl c2) ha⟩
      · rw [if_neg c2]
        refine ⟨fun ha => ?_, fun _ => rfl⟩
        rcases ha with ha | ha
        · exact absurd ha c2
        · omega
theorem c_lacks (h : PC σ c fm K S len) (hF : SFr v cd rc fm S) (hr : gI σ 10 6 = r) : ((r ≠ 0 ∧ AW fm S) → f_89 σ = some 1) ∧ (¬ (r ≠ 0 ∧ AW fm S) → f_89 σ = some 0) := by
  obtain ⟨h1, h2⟩ := c_awaits h hF
  unfold f_89
  rw [hr]
  by_cases c0 : r = 0
  · rw [if_pos c0]
    exact ⟨fun h => absurd c0 h.1, fun _ => rfl⟩
  · rw [if_neg c0]
    by_cases ha : AW fm S
    · rw [zo_of (h1 ha), zg_pos (by decide), if_neg (by decide)]
      exact ⟨fun _ => rfl, fun h => absurd ⟨c0, ha⟩ h⟩
    · rw [zo_of (h2 ha), zg_pos (by decide), if_pos rfl]
      exact ⟨fun h => absurd h.2 ha, fun _ => rfl⟩
/-- the token ends the top -/
def EN (k r : Int) (f : Fr) : Prop := ¬ (r ≠ 0 ∧ (f.p = 2 ∨ (f.p = 0 ∧ (9 ≤ f.k ∧ f.k ≤ 13 ∨ f.k = 37)))) ∧ f.p ≠ 1 ∧ (f.p = 2 → f.k ≠ 39 ∧ js k r = 0) ∧ (f.p = 0 → js k r < stg f.k ∨ (stg f.k = js k r ∧ stg f.k ≠ 0 ∧ f.k ≠ 12))
theorem c_ends0 (h : PC σ c fm K [] len) : f_88 k σ = some 0 := by
  have e : gI σ 10 8 = 0 := h.2.2.2.1.1
  unfold f_88
  rw [if_pos e]
theorem c_ends (h : PC σ c fm K (f :: S) len) (hF : SFr v cd rc fm (f :: S)) (hr : gI σ 10 6 = r) (h0 : 0 ≤ k) (h1 : k ≤ 42) : (EN k r f → f_88 k σ = some 1) ∧ (¬ EN k r f → f_88 k σ = some 0) := by
  obtain ⟨t8, t20, ⟨t1, t2, -⟩, -⟩ := h.top
  obtain ⟨l1, l2⟩ := c_lacks h hF hr
  have hok := hF.2.ok
  have hj := js_b k r
  unfold f_88
  rw [t8, if_neg (by omega)]
  by_cases hl : r ≠ 0 ∧ AW fm (f :: S)
  · rw [zo_of (l1 hl), zg_pos (by decide), if_neg (by decide)]
    exact ⟨fun h => absurd hl h.1, fun _ => rfl⟩
  · rw [zo_of (l2 hl), zg_pos (by decide), if_pos rfl, sln, zg_pos ⟨by omega, by omega⟩, t2, t1]
    by_cases p1 : f.p = 1
    · rw [if_pos p1]
      exact ⟨fun h => absurd p1 h.2.1, fun _ => rfl⟩
    · rw [if_neg p1, zo_of (c_js h0 h1 hr)]
      by_cases p2 : f.p = 2
      · rw [if_pos p2]
        by_cases h39 : f.k = 39
        · rw [if_pos h39]
          exact ⟨fun h => absurd h39 (h.2.2.1 p2).1, fun _ => rfl⟩
        · rw [if_neg h39, zg_pos ⟨by omega, by omega⟩]
          by_cases hj0 : js k r = 0
          · rw [if_pos hj0]
            exact ⟨fun _ => rfl, fun h => absurd ⟨hl, p1, fun _ => ⟨h39, hj0⟩, fun h0 => by omega⟩ h⟩
          · rw [if_neg hj0]
            exact ⟨fun h => absurd (h.2.2.1 p2).2 hj0, fun _ => rfl⟩
      · have p0 : f.p = 0 := by unfold fok at hok; omega
        have hkr : 0 ≤ f.k ∧ f.k ≤ 42 := by unfold fok at hok; omega
        have hs := stg_b f.k
        rw [if_neg p2, zo_of (stg_eq hkr.1 hkr.2), zg_pos ⟨by omega, by omega⟩, zg_pos ⟨by omega, by omega⟩]
        by_cases c1 : js k r < stg f.k
        · rw [if_pos c1]
          exact ⟨fun _ => rfl, fun h => absurd ⟨hl, p1, fun h2 => absurd h2 p2, fun _ => Or.inl c1⟩ h⟩
        · rw [if_neg c1]
          by_cases c2 : stg f.k = js k r
          · rw [if_pos c2]
            by_cases c3 : stg f.k = 0
            · rw [if_pos c3]
              refine ⟨fun h => ?_, fun _ => rfl⟩
              rcases h.2.2.2 p0 with h | h
              · exact absurd h c1
              · exact absurd c3 h.2.1
            · rw [if_neg c3]
              by_cases c4 : f.k = 12
              · rw [if_pos c4]
                refine ⟨fun h => ?_, fun _ => rfl⟩
                rcases h.2.2.2 p0 with h | h
                · exact absurd h c1
                · exact absurd c4 h.2.2
              · rw [if_neg c4]
                exact ⟨fun _ => rfl, fun h => absurd ⟨hl, p1, fun h2 => absurd h2 p2, fun _ => Or.inr ⟨c2, c3, c4⟩⟩ h⟩
          · rw [if_neg c2]
            refine ⟨fun h => ?_, fun _ => rfl⟩
            rcases h.2.2.2 p0 with h | h
            · exact absurd h c1
            · exact absurd h.1 c2
/-- the token joins two operands here -/
def MJ (k r fm : Int) (S : List Fr) : Prop := js k r ≠ 0 ∧ (js k r ≤ 4 → r = 0) ∧ (4 < js k r → 6 < js k r ∨ AW fm S)
theorem c_mayJoin (h : PC σ c fm K S len) (hF : SFr v cd rc fm S) (hr : gI σ 10 6 = r) (h0 : 0 ≤ k) (h1 : k ≤ 42) : (MJ k r fm S → f_97 k σ = some 1) ∧ (¬ MJ k r fm S → f_97 k σ = some 0) := by
  obtain ⟨a1, a2⟩ := c_awaits h hF
  have hj := js_b k r
  unfold f_97
  rw [zo_of (c_js h0 h1 hr), zg_pos ⟨by omega, by omega⟩]
  by_cases c0 : js k r = 0
  · rw [if_pos c0]
    exact ⟨fun h => absurd c0 h.1, fun _ => rfl⟩
  · rw [if_neg c0]
    by_cases c4 : 4 < js k r
    · rw [if_pos c4]
      by_cases c6 : 6 < js k r
      · rw [if_pos c6]
        exact ⟨fun _ => rfl, fun h => absurd ⟨c0, fun h => by omega, fun _ => Or.inl c6⟩ h⟩
      · rw [if_neg c6]
        by_cases ha : AW fm S
        · rw [zo_of (a1 ha), zg_pos (by decide), if_neg (by decide)]
          exact ⟨fun _ => rfl, fun h => absurd ⟨c0, fun h => by omega, fun _ => Or.inr ha⟩ h⟩
        · rw [zo_of (a2 ha), zg_pos (by decide), if_pos rfl]
          refine ⟨fun h => ?_, fun _ => rfl⟩
          rcases h.2.2 c4 with h | h
          · exact absurd h c6
          · exact absurd h ha
    · rw [if_neg c4, hr]
      by_cases cr : r = 0
      · rw [if_pos cr]
        exact ⟨fun _ => rfl, fun h => absurd ⟨c0, fun _ => cr, fun h => absurd h c4⟩ h⟩
      · rw [if_neg cr]
        exact ⟨fun h => absurd (h.2.1 (by omega)) cr, fun _ => rfl⟩
end COND
