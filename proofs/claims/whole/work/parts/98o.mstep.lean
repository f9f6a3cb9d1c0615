/-! THE REFERENCE'S PARSER: what ends, further. -/
section MSTEP
variable {τ : zS} {fm len : Int} {S : List Fr} {f : Fr}
/-- the number of open things falls by one -/
theorem m_popAll (h : PMd τ fm (f :: S) len) : PMd (sI τ 177 38 (gI τ 177 38 - 1)) fm S len ∧ rco (sI τ 177 38 (gI τ 177 38 - 1)) = rco τ ∧ (∀ i, i ≠ 38 → gI (sI τ 177 38 (gI τ 177 38 - 1)) 177 i = gI τ 177 i) ∧ (∀ x i, x ≠ 177 → gI (sI τ 177 38 (gI τ 177 38 - 1)) x i = gI τ x i) ∧ gI (sI τ 177 38 (gI τ 177 38 - 1)) 177 38 = S.length + 1 := by
  obtain ⟨t38, t20, -⟩ := h.top
  have n : ∀ (x : Nat) (i : Int), x ≠ 177 → gI (sI τ 177 38 (gI τ 177 38 - 1)) x i = gI τ x i := fun x i hx => gI_nc hx
  have e38 : gI (sI τ 177 38 (gI τ 177 38 - 1)) 177 38 = S.length + 1 := by rw [gI_same ⟨by omega, by omega⟩]; omega
  exact ⟨h.pop e38 (n 189 0 (by decide)) (fun i _ _ => ⟨n 189 i (by decide), n 190 i (by decide), n 191 i (by decide), n 192 i (by decide), n 193 i (by decide), rfl⟩) (fun i _ _ => n 195 i (by decide)) (by rw [gI_ni (by decide)]; exact h.2.2.2.1) h.2.2.2.2, rco_eq (fun i => n 184 i (by decide)) (fun i => n 185 i (by decide)) (fun i => n 186 i (by decide)), fun i hi => gI_ni hi, n, e38⟩
theorem mkd_km (hp : f.p = 0) (hk : (28 ≤ f.k ∧ f.k ≤ 30) ∨ (9 ≤ f.k ∧ f.k ≤ 13) ∨ f.k = 35 ∨ f.k = 37) : mkd f = km f.k := by
  unfold mkd
  rw [if_neg (by omega), if_neg (by omega), if_neg (by omega), if_neg (by omega), if_neg (by omega)]
theorem km_hi {k : Int} (h : 20 ≤ k) : km k = k + 10 := by
  unfold km
  rw [if_neg (by omega), if_neg (by omega), if_neg (by omega), if_neg (by omega), if_neg (by omega)]
theorem km_lo {k : Int} (h : 4 ≤ k) (h2 : k < 20) : km k = k + 6 := by
  unfold km
  rw [if_neg (by omega), if_neg (by omega), if_neg (by omega), if_neg (by omega), if_pos h2]
/-- ~, ^ or * ends -/
theorem m_closeT {r2 : Int} (h : PMd τ fm (f :: S) len) (hp : f.p = 0) (hk : 28 ≤ f.k ∧ f.k ≤ 30) (l1 : len < 320) (ho : gI τ 177 40 = jn S + 1) (h2 : gI τ 195 (jn S) = r2) : ∃ τ', f_179 τ = some (if r2 = 2 then 0 else 5, τ') ∧ (r2 ≠ 2 → gI τ' 177 5 = f.pl) ∧ (r2 = 2 → PMd τ' fm S (len + 1) ∧ mAdd τ τ' len (f.k + 10) 0 0 ∧ gI τ' 177 40 = jn S + 1 ∧ gI τ' 195 (jn S) = 2) := by
  obtain ⟨t38, t20, t3, ⟨t4, t5, -⟩, -⟩ := h.top
  have jb := jn_b S
  rw [mkd_km hp (by omega), km_hi (by omega)] at t4
  have hlv : f_166 (f.k + 10) = some 16 := by
    have ht := lv_tab ⟨(f.k - 20).toNat, by omega⟩
    dsimp only at ht
    rw [show (30 : Int) + ((f.k - 20).toNat : Nat) = f.k + 10 by omega, if_neg (by omega), if_neg (by omega), if_neg (by omega), if_neg (by omega), if_neg (by omega)] at ht
    exact ht
  obtain ⟨p1, p2, p3, p4, p5⟩ := m_popAll h
  obtain ⟨τ', a1, a2, a3, a4⟩ := m_lay (len := len) (op := f.k + 10) (a := 0) (b := 0) p1.2.2.2.1 h.2.2.2.2 l1 ⟨by omega, by omega⟩ (by decide) (by decide)
  have m38 : gI τ' 177 38 = S.length + 1 := by rw [a4.1 177 38 (by decide) (by decide) (by decide) (fun _ => by decide)]; exact p5
  unfold f_179
  rw [p5, zg_pos ⟨by omega, by omega⟩, ho, show jn S + 1 - 1 = jn S by omega, zg_pos ⟨by omega, by omega⟩, t4, zo_of hlv, zg_pos (by decide), if_pos rfl, zb_of a1, h2]
  by_cases hr : r2 = 2
  · rw [if_pos hr, if_pos hr]
    refine ⟨τ', rfl, fun h => absurd hr h, fun _ => ⟨p1.same a4 a2 (by have := h.2.2.2.2; omega), ?_, ?_, ?_⟩⟩
    · unfold mAdd at a3 ⊢
      rw [p2] at a3
      exact a3
    · rw [a4.1 177 40 (by decide) (by decide) (by decide) (fun _ => by decide), p3 40 (by decide)]; exact ho
    · rw [a4.1 195 _ (by decide) (by decide) (by decide) (fun h => absurd h (by decide)), p4 195 _ (by decide), h2]; exact hr
  · rw [if_neg hr, if_neg hr, m38, zg_pos ⟨by omega, by omega⟩]
    have e180 : f_180 (gI τ' 190 (S.length + 1)) τ' = some (5, sI τ' 177 5 (gI τ' 190 (S.length + 1))) := rfl
    rw [zb_of e180]
    refine ⟨_, rfl, fun _ => ?_, fun h => absurd h hr⟩
    rw [gI_same (zR_gI _ _ _), a4.1 190 _ (by decide) (by decide) (by decide) (fun h => absurd h (by decide)), p4 190 _ (by decide)]
    exact t5
/-- not, and, or, implies, iff end -/
theorem m_closeK (h : PMd τ fm (f :: S) len) (hp : f.p = 0) (hk : 9 ≤ f.k ∧ f.k ≤ 13) (l1 : len < 320) : ∃ τ', f_185 τ = some ((), τ') ∧ PMd τ' fm S (len + 1) ∧ mAdd τ τ' len (f.k + 6) 0 0 ∧ gI τ' 177 40 = gI τ 177 40 ∧ mSame (sI τ 177 38 (gI τ 177 38 - 1)) τ' := by
  obtain ⟨t38, t20, t3, ⟨t4, t5, -⟩, -⟩ := h.top
  rw [mkd_km hp (by omega), km_lo (by omega) (by omega)] at t4
  obtain ⟨p1, p2, p3, p4, p5⟩ := m_popAll h
  obtain ⟨τ', a1, a2, a3, a4⟩ := m_lay (len := len) (op := f.k + 6) (a := 0) (b := 0) p1.2.2.2.1 h.2.2.2.2 l1 ⟨by omega, by omega⟩ (by decide) (by decide)
  refine ⟨τ', ?_, p1.same a4 a2 (by have := h.2.2.2.2; omega), ?_, ?_, a4⟩
  · unfold f_185
    rw [p5, zg_pos ⟨by omega, by omega⟩, t4, zb_of a1]
  · unfold mAdd at a3 ⊢
    rw [p2] at a3
    exact a3
  · rw [a4.1 177 40 (by decide) (by decide) (by decide) (fun _ => by decide), p3 40 (by decide)]
theorem mkd_68 (hp : f.p = 0) (hk : f.k = 14 ∨ f.k = 32) : mkd f = 68 := by
  unfold mkd
  rw [if_neg (by omega), if_neg (by omega), if_pos hk]
theorem mkd_106 (hp : f.p = 0) (hk : 5 ≤ f.k ∧ f.k ≤ 8) : mkd f = 106 := by
  unfold mkd
  rw [if_neg (by omega), if_neg (by omega), if_neg (by omega), if_pos hk]
/-- in, = end -/
theorem m_closeC (h : PMd τ fm (f :: S) len) (hp : f.p = 0) (hk : f.k = 14 ∨ f.k = 32) (l1 : len < 320) (ho : gI τ 177 40 = jn S + 1) : ∃ τ', f_182 τ = some (1, τ') ∧ PMd τ' fm S (len + 1) ∧ mAdd τ τ' len (km f.k) 0 0 ∧ gI τ' 177 40 = jn S ∧ (∀ i, i ≠ 38 → i ≠ 40 → i ≠ 41 → gI τ' 177 i = gI τ 177 i) := by
  have hl := m_last h
  rw [mkd_68 hp hk] at hl
  obtain ⟨t38, t20, t3, ⟨t4, t5, t6, -⟩, -⟩ := h.top
  have jb := jn_b S
  have t193 := (t6 hp hk).2
  have hkm : km f.k = if gI τ 193 (S.length + 1) = 20 then 20 else 42 := by
    rw [t193]
    rcases hk with e | e
    · rw [e]; decide
    · rw [e]; decide
  obtain ⟨τ1, a1, a2, a3, a4⟩ := m_lay (τ := τ) (len := len) (op := km f.k) (a := 0) (b := 0) h.2.2.2.1 h.2.2.2.2 l1 (by rcases hk with e | e <;> rw [e] <;> decide) (by decide) (by decide)
  have P1 : PMd τ1 fm (f :: S) (len + 1) := h.same a4 a2 (by have := h.2.2.2.2; omega)
  have o1 : gI τ1 177 40 = jn S + 1 := by rw [a4.1 177 40 (by decide) (by decide) (by decide) (fun _ => by decide)]; exact ho
  have o38 : gI τ1 177 38 = S.length + 2 := by rw [a4.1 177 38 (by decide) (by decide) (by decide) (fun _ => by decide)]; exact t38
  have e33 : j_182_33 (km f.k) τ = some (1, sI (sI τ1 177 40 (gI τ1 177 40 - 1)) 177 38 (gI τ1 177 38 - 1)) := by
    unfold j_182_33
    rw [zb_of a1]
  have n : ∀ (x : Nat) (i : Int), x ≠ 177 → gI (sI (sI τ1 177 40 (gI τ1 177 40 - 1)) 177 38 (gI τ1 177 38 - 1)) x i = gI τ1 x i := fun x i hx => by rw [gI_nc hx, gI_nc hx]
  refine ⟨sI (sI τ1 177 40 (gI τ1 177 40 - 1)) 177 38 (gI τ1 177 38 - 1), ?_, P1.pop ?_ (n 189 0 (by decide)) (fun i _ _ => ⟨n 189 i (by decide), n 190 i (by decide), n 191 i (by decide), n 192 i (by decide), n 193 i (by decide), rfl⟩) (fun i _ _ => n 195 i (by decide)) (by rw [gI_ni (by decide), gI_ni (by decide)]; exact a2) (by have := h.2.2.2.2; omega), ?_, ?_, fun i h1 h2 h3 => ?_⟩
  · unfold f_182
    rw [zo_of hl, zg_pos (by decide), if_pos rfl, t38, show (S.length : Int) + 2 - 1 = S.length + 1 by omega, zg_pos ⟨by omega, by omega⟩]
    by_cases h20 : gI τ 193 (S.length + 1) = 20
    · rw [if_pos h20] at hkm ⊢
      rw [← hkm]
      exact e33
    · rw [if_neg h20] at hkm ⊢
      rw [← hkm]
      exact e33
  · rw [gI_same ⟨by omega, by omega⟩, o38]; omega
  · unfold mAdd at a3 ⊢
    rw [show rco (sI (sI τ1 177 40 (gI τ1 177 40 - 1)) 177 38 (gI τ1 177 38 - 1)) = rco τ1 from rco_eq (fun i => n 184 i (by decide)) (fun i => n 185 i (by decide)) (fun i => n 186 i (by decide))]
    exact a3
  · rw [gI_ni (by decide), gI_same ⟨by omega, by omega⟩, o1]; omega
  · rw [gI_ni h1, gI_ni h2, a4.1 177 i (by decide) (by decide) (by decide) (fun _ => h3)]
/-- some, no, lone, one end -/
theorem m_closeM (h : PMd τ fm (f :: S) len) (hp : f.p = 0) (hk : 5 ≤ f.k ∧ f.k ≤ 8) (l1 : len < 320) (ho : gI τ 177 40 = jn S + 1) : ∃ τ', f_182 τ = some (1, τ') ∧ PMd τ' fm S (len + 1) ∧ mAdd τ τ' len 6 (f.k - 4) 0 ∧ gI τ' 177 40 = jn S ∧ (∀ i, i ≠ 38 → i ≠ 40 → i ≠ 41 → gI τ' 177 i = gI τ 177 i) := by
  have hl := m_last h
  rw [mkd_106 hp hk] at hl
  obtain ⟨t38, t20, t3, ⟨t4, t5, -, t7, -⟩, -⟩ := h.top
  have jb := jn_b S
  have t193 := t7 hp hk.1 hk.2
  obtain ⟨τ1, a1, a2, a3, a4⟩ := m_lay (τ := τ) (len := len) (op := 6) (a := f.k - 4) (b := 0) h.2.2.2.1 h.2.2.2.2 l1 (by decide) ⟨by omega, by omega⟩ (by decide)
  have P1 : PMd τ1 fm (f :: S) (len + 1) := h.same a4 a2 (by have := h.2.2.2.2; omega)
  have o1 : gI τ1 177 40 = jn S + 1 := by rw [a4.1 177 40 (by decide) (by decide) (by decide) (fun _ => by decide)]; exact ho
  have o38 : gI τ1 177 38 = S.length + 2 := by rw [a4.1 177 38 (by decide) (by decide) (by decide) (fun _ => by decide)]; exact t38
  have n : ∀ (x : Nat) (i : Int), x ≠ 177 → gI (sI (sI τ1 177 40 (gI τ1 177 40 - 1)) 177 38 (gI τ1 177 38 - 1)) x i = gI τ1 x i := fun x i hx => by rw [gI_nc hx, gI_nc hx]
  refine ⟨sI (sI τ1 177 40 (gI τ1 177 40 - 1)) 177 38 (gI τ1 177 38 - 1), ?_, P1.pop ?_ (n 189 0 (by decide)) (fun i _ _ => ⟨n 189 i (by decide), n 190 i (by decide), n 191 i (by decide), n 192 i (by decide), n 193 i (by decide), rfl⟩) (fun i _ _ => n 195 i (by decide)) (by rw [gI_ni (by decide), gI_ni (by decide)]; exact a2) (by have := h.2.2.2.2; omega), ?_, ?_, fun i h1 h2 h3 => ?_⟩
  · unfold f_182
    rw [zo_of hl, zg_pos (by decide), if_neg (by decide), zo_of hl, zg_pos (by decide), if_pos rfl, t38, show (S.length : Int) + 2 - 1 = S.length + 1 by omega, zg_pos ⟨by omega, by omega⟩, t193, zb_of a1]
  · rw [gI_same ⟨by omega, by omega⟩, o38]; omega
  · unfold mAdd at a3 ⊢
    rw [show rco (sI (sI τ1 177 40 (gI τ1 177 40 - 1)) 177 38 (gI τ1 177 38 - 1)) = rco τ1 from rco_eq (fun i => n 184 i (by decide)) (fun i => n 185 i (by decide)) (fun i => n 186 i (by decide))]
    exact a3
  · rw [gI_ni (by decide), gI_same ⟨by omega, by omega⟩, o1]; omega
  · rw [gI_ni h1, gI_ni h2, a4.1 177 i (by decide) (by decide) (by decide) (fun _ => h3)]
/-- a binder ends -/
theorem m_closeQ {q : Int} (h : PMd τ fm (f :: S) len) (hp : f.p = 2) (hq : q = if f.k = 39 then 5 else f.k - 4) (hk : bk f.k) (l1 : len < 320) (r1 : 1 ≤ f.re) (r2 : f.re ≤ len) : ∃ τ', f_187 τ = some ((), τ') ∧ PMd τ' fm S (len + 1) ∧ (∀ k, k ≠ len → k ≠ f.re - 1 → rcE (rco τ) (rco τ') k) ∧ ((rco τ').1 len = 4 ∧ (rco τ').2.1 len = q) ∧ ((rco τ').1 (f.re - 1) = (rco τ).1 (f.re - 1) ∧ (rco τ').2.1 (f.re - 1) = len + 1) ∧ (∀ i, i ≠ 38 → i ≠ 41 → gI τ' 177 i = gI τ 177 i) ∧ (∀ i, gI τ' 195 i = gI τ 195 i) := by
  obtain ⟨t38, t20, t3, ⟨t4, t5, -, -, t7, t8, -⟩, -⟩ := h.top
  have t193 := t7 (by omega)
  rw [← hq] at t193
  have t192 := t8 hp
  obtain ⟨p1, p2, p3, p4, p5⟩ := m_popAll h
  have hqz : 0 ≤ q ∧ q ≤ 5 := by rw [hq]; split <;> omega
  obtain ⟨τ1, a1, a2, a3, a4⟩ := m_lay (len := len) (op := 4) (a := q) (b := 0) p1.2.2.2.1 h.2.2.2.2 l1 (by decide) ⟨by omega, by omega⟩ (by decide)
  have m38 : gI τ1 177 38 = S.length + 1 := by rw [a4.1 177 38 (by decide) (by decide) (by decide) (fun _ => by decide)]; exact p5
  have m192 : gI τ1 192 (S.length + 1) = f.re - 1 := by rw [a4.1 192 _ (by decide) (by decide) (by decide) (fun h => absurd h (by decide)), p4 192 _ (by decide)]; exact t192
  have n : ∀ (x : Nat) (i : Int), x ≠ 185 → gI (sI τ1 185 (5440 + (f.re - 1)) (len + 1)) x i = gI τ1 x i := fun x i hx => gI_nc hx
  have P1 : PMd τ1 fm S (len + 1) := p1.same a4 a2 (by have := h.2.2.2.2; omega)
  unfold mAdd at a3
  rw [p2] at a3
  refine ⟨sI τ1 185 (5440 + (f.re - 1)) (len + 1), ?_, P1.keep (n 177 38 (by decide)) (n 189 0 (by decide)) (fun i _ _ => ⟨n 189 i (by decide), n 190 i (by decide), n 191 i (by decide), n 192 i (by decide), n 193 i (by decide), rfl⟩) (fun i _ _ => n 195 i (by decide)) (by rw [n 177 41 (by decide)]; exact a2) (by have := h.2.2.2.2; omega), fun k k1 k2 => ?_, ⟨?_, ?_⟩, ⟨?_, ?_⟩, fun i i1 i2 => ?_, fun i => ?_⟩
  · unfold f_187
    rw [p5, zg_pos ⟨by omega, by omega⟩, t193, zb_of a1, m38, zg_pos ⟨by omega, by omega⟩, m192, zg_pos ⟨by omega, by omega⟩, a2]
  · obtain ⟨r1, r2, r3⟩ := a3.1 k k1
    refine ⟨(n 184 _ (by decide)).trans r1, Eq.trans ?_ r2, (n 186 _ (by decide)).trans r3⟩
    show gI (sI τ1 185 (5440 + (f.re - 1)) (len + 1)) 185 (5440 + k) = gI τ1 185 (5440 + k)
    exact gI_ni (by omega)
  · exact (n 184 _ (by decide)).trans a3.2.1
  · refine Eq.trans ?_ a3.2.2.1
    show gI (sI τ1 185 (5440 + (f.re - 1)) (len + 1)) 185 (5440 + len) = gI τ1 185 (5440 + len)
    exact gI_ni (by omega)
  · exact (n 184 _ (by decide)).trans (a3.1 (f.re - 1) (by omega)).1
  · show gI (sI τ1 185 (5440 + (f.re - 1)) (len + 1)) 185 (5440 + (f.re - 1)) = len + 1
    exact gI_same ⟨by omega, by omega⟩
  · rw [n 177 i (by decide), a4.1 177 i (by decide) (by decide) (by decide) (fun _ => i2), p3 i i1]
  · rw [n 195 i (by decide), a4.1 195 i (by decide) (by decide) (by decide) (fun h => absurd h (by decide)), p4 195 i (by decide)]
end MSTEP
