/-! BOTH PARSERS: what is open ends in both alike: formulas. -/
theorem Sg.down {v : Wd} {cd : Cd} {rc : Rc} {dp L a b a' b' r : Int} {D : Dn} (h : Sg v cd rc (dp + 1) L a b a' b' r D) (K0 : 0 ≤ v.K) : Sg v cd rc dp L a b a' b' r D := by
  obtain ⟨x1, x2, x3, x4, x5, x6, x7⟩ := h
  refine ⟨x1, x2, x3.mono rfl (Int.le_refl _) (fun _ _ _ => rfl) (fun _ _ _ => rfl) K0 (Int.le_refl _) (fun _ _ _ => ⟨rfl, rfl⟩) (fun k _ _ => cdE.rf _ k) (by omega), x4.mono (by omega) (Int.le_refl _) (fun _ _ _ => rfl) (fun _ _ _ => ⟨rfl, rfl, rfl⟩), x5, fun k k0 k1 k2 => ?_, x7⟩
  obtain ⟨y1, y2, y3⟩ := x6 k k0 k1 k2
  exact ⟨y1, y2, fun h => y3 (by omega)⟩
section CLOSE
variable {σ τ σ' τ' : zS} {c : Nat} {fm : Int} {v : Wd} {S : List Fr} {f : Fr} {len len' r tk : Int} {D : Dn}
theorem closed_cmpF (h : JB σ τ c fm v (f :: S) len len' r D tk) (hp0 : f.p = 0) (hk : f.k = 14 ∨ f.k = 32) (hr : 1 ≤ r) (hne : f.r ≠ r) : ∃ σ', f_92 σ = some ((), σ') ∧ gI σ' 10 15 = 5 ∧ gI σ' 10 16 = f.pl := by
  have hp : f.p ≠ 2 := by omega
  have hl0 := h.lift hp (cd' := cdo σ c) (rc' := rco τ) (fun k _ _ => cdE.rf _ k) (fun k _ => rcE.rf _ k)
  obtain ⟨g1, g2, g3, g4, g5, g6, g7, g8, g9⟩ := id h
  have hFS := hl0.2.2.2.2.2.2.2.2.2.2.1 (by omega)
  obtain ⟨hr1, hSgL⟩ : 1 ≤ f.r ∧ Sg (vv v S) (cdo σ c) (rco τ) S.length (Lv S) f.ca f.ce f.ra f.re f.r f.D := by
    rcases hFS.2 with h | h | h | h | h | h | h
    · exact ⟨h.2.2.1, h.2.2.2.1⟩
    all_goals exfalso; have := h.2.1; omega
  have hb1 := hSgL.r_b
  have hr3 : r ≤ 3 := hl0.2.2.2.2.2.2.2.2.2.1
  have t14 : gI σ 14 S.length = f.r := by
    obtain ⟨-, -, ⟨-, -, -, t4, -⟩, -⟩ := g1.top
    exact t4 hp0 (Or.inr hk)
  have hfit := fit_eq (k := f.k) (l := f.r) (r := r) (by omega) (by omega) (by omega) (by omega) (by omega) (by omega)
  have hv : fitv f.k f.r r = -1 := by unfold fitv; rw [if_pos hk, if_neg hne]
  exact c_closeF g1 hp0 (by omega) g5 (by rw [t14, hfit, hv])
theorem closed_cmp (h : JB σ τ c fm v (f :: S) len len' r D tk) (hp0 : f.p = 0) (hk : f.k = 14 ∨ f.k = 32) (hr : 1 ≤ r) (he : f.r = r) : ∃ σ' τ' D', f_92 σ = some ((), σ') ∧ f_182 τ = some (1, τ') ∧ JB σ' τ' c fm v S (len + 1) (len' + 1) 0 D' tk ∧ gI σ' 10 4 = gI σ 10 4 := by
  have hp : f.p ≠ 2 := by omega
  have hl0 := h.lift hp (cd' := cdo σ c) (rc' := rco τ) (fun k _ _ => cdE.rf _ k) (fun k _ => rcE.rf _ k)
  obtain ⟨g1, g2, g3, g4, g5, g6, g7, g8, g9⟩ := id h
  have hFS := hl0.2.2.2.2.2.2.2.2.2.2.1 (by omega)
  obtain ⟨hr1, hSgL, hAW⟩ : 1 ≤ f.r ∧ Sg (vv v S) (cdo σ c) (rco τ) S.length (Lv S) f.ca f.ce f.ra f.re f.r f.D ∧ AW fm S := by
    rcases hFS.2 with h | h | h | h | h | h | h
    · exact ⟨h.2.2.1, h.2.2.2.1, h.2.2.2.2 hk⟩
    all_goals exfalso; have := h.2.1; omega
  have hb1 := hSgL.r_b
  obtain ⟨ho, hro⟩ := g7 hr
  have hnJ : ¬ isJ f := fun h => by have := h.2; omega
  rw [jn_cons_N hnJ] at ho hro
  have e1 : pnC (f :: S) = pnC S + 1 := by rw [pnC, if_pos ⟨hp0, by omega⟩]
  have e2 : pnM (f :: S) = pnM S + 1 := by rw [pnM, if_neg (by omega)]
  have hpn := pn_b S
  rw [e1, e2] at g8
  have t20 := g1.top.2.1
  have t14 : gI σ 14 S.length = f.r := by
    obtain ⟨-, -, ⟨-, -, -, t4, -⟩, -⟩ := g1.top
    exact t4 hp0 (Or.inr hk)
  have hfit := fit_eq (k := f.k) (l := f.r) (r := r) (by omega) (by omega) (by omega) (by omega) (by omega) (by omega)
  have hv : fitv f.k f.r r = 0 := by unfold fitv; rw [if_pos hk, if_pos he]
  obtain ⟨σ', c1, c2, c3, c4, c5⟩ := c_closeP g1 hp0 (by omega) g5 (by rw [t14, hfit, hv]) (by decide) (by decide) (by omega)
  obtain ⟨τ', m1, q1, q2, q3, -⟩ := m_closeC g2 hp0 hk (by omega) ho
  have hl := h.lift hp (cd' := cdo σ' c) (rc' := rco τ') (fun k hk _ => c3.1 k hk) q2.1
  have hL : Sg (vv v S) (cdo σ' c) (rco τ') S.length (Lv S) f.ca f.ce f.ra f.re r f.D := by
    rw [← he]
    exact hSgL.up (vLe.rf g9.1) (fun k _ k1 => c3.1 k (by omega)) (fun k _ k1 => q2.1 k (by omega))
  have hR := hl.2.2.2.2.2.2.2.2.2.2.2
  have hD : ∃ D', Sg (vv v S) (cdo σ' c) (rco τ') S.length (Lv S) (cE S) (len + 1) (rE S) (len' + 1) 0 D' := by
    rw [← hl.2.1, ← hl.2.2.1]
    rcases hk with e | e
    · exact ⟨_, sg_in hL hR (by omega) (by omega) (by rw [c3.2.1, e]) (by rw [q2.2.1, e]; rfl)⟩
    · exact ⟨_, sg_eq hL hR (by omega) (by omega) (by rw [c3.2.1, e]) (by rw [q2.2.1, e]; rfl)⟩
  obtain ⟨D', hD⟩ := hD
  exact ⟨σ', τ', D', c1, m1, ⟨c2, q1, hl.1, hD, c4, fun _ => ⟨hAW, q3⟩, fun h => by omega, by omega, g9⟩, c5⟩
theorem closed_mult (h : JB σ τ c fm v (f :: S) len len' r D tk) (hp0 : f.p = 0) (hk : 5 ≤ f.k ∧ f.k ≤ 8) (hr : 1 ≤ r) : ∃ σ' τ' D', f_92 σ = some ((), σ') ∧ f_182 τ = some (1, τ') ∧ JB σ' τ' c fm v S (len + 1) (len' + 1) 0 D' tk ∧ gI σ' 10 4 = gI σ 10 4 := by
  have hp : f.p ≠ 2 := by omega
  have hl0 := h.lift hp (cd' := cdo σ c) (rc' := rco τ) (fun k _ _ => cdE.rf _ k) (fun k _ => rcE.rf _ k)
  obtain ⟨g1, g2, g3, g4, g5, g6, g7, g8, g9⟩ := id h
  have hFS := hl0.2.2.2.2.2.2.2.2.2.2.1 (by omega)
  obtain ⟨hce, hAW⟩ : (f.ce = f.ca ∧ f.re = f.ra) ∧ AW fm S := by
    rcases hFS.2 with h | h | h | h | h | h | h
    · omega
    · omega
    · omega
    · omega
    · exact h.2.2
    all_goals omega
  obtain ⟨ho, hro⟩ := g7 hr
  have hnJ : ¬ isJ f := fun h => by have := h.2; omega
  rw [jn_cons_N hnJ] at ho hro
  have e1 : pnC (f :: S) = pnC S + 1 := by rw [pnC, if_pos ⟨hp0, by omega⟩]
  have e2 : pnM (f :: S) = pnM S + 1 := by rw [pnM, if_neg (by omega)]
  have hpn := pn_b S
  rw [e1, e2] at g8
  have t20 := g1.top.2.1
  obtain ⟨σ', c1, c2, c3, c4, c5⟩ := c_closeP g1 hp0 (by omega) g5 (fit_0 (by omega) (by omega)) (by decide) (by decide) (by omega)
  obtain ⟨τ', m1, q1, q2, q3, -⟩ := m_closeM g2 hp0 hk (by omega) ho
  have hl := h.lift hp (cd' := cdo σ' c) (rc' := rco τ') (fun k hk _ => c3.1 k hk) q2.1
  have hS := (hl.2.2.2.2.2.2.2.2.2.2.2).down g9.1
  rw [hce.1, hce.2, hl.2.1, hl.2.2.1] at hS
  have hD := sg_mult (q := f.k - 4) hS (by omega) (by omega) (by rw [c3.2.1]; omega) q2.2.1 q2.2.2.1
  exact ⟨σ', τ', _, c1, m1, ⟨c2, q1, hl.1, hD, c4, fun _ => ⟨hAW, q3⟩, fun h => by omega, by omega, g9⟩, c5⟩
theorem closed_not (h : JB σ τ c fm v (f :: S) len len' 0 D tk) (hp0 : f.p = 0) (hk : f.k = 9) : ∃ σ' τ' D', f_92 σ = some ((), σ') ∧ f_185 τ = some ((), τ') ∧ JB σ' τ' c fm v S (len + 1) (len' + 1) 0 D' tk ∧ gI σ' 10 4 = gI σ 10 4 := by
  have hp : f.p ≠ 2 := by omega
  have hl0 := h.lift hp (cd' := cdo σ c) (rc' := rco τ) (fun k _ _ => cdE.rf _ k) (fun k _ => rcE.rf _ k)
  obtain ⟨g1, g2, g3, g4, g5, g6, g7, g8, g9⟩ := id h
  have hFS := hl0.2.2.2.2.2.2.2.2.2.2.1 (by omega)
  obtain ⟨hce, hAW⟩ : (f.ce = f.ca ∧ f.re = f.ra) ∧ AW fm S := by
    rcases hFS.2 with h | h | h | h | h | h | h
    · omega
    · omega
    · omega
    · omega
    · exact h.2.2
    all_goals omega
  obtain ⟨-, ho⟩ := g6 rfl
  have hnJ : ¬ isJ f := fun h => by have := h.2; omega
  rw [jn_cons_N hnJ] at ho
  have e1 : pnC (f :: S) = pnC S + 1 := by rw [pnC, if_pos ⟨hp0, by omega⟩]
  have e2 : pnM (f :: S) = pnM S + 1 := by rw [pnM, if_neg (by omega)]
  have hpn := pn_b S
  rw [e1, e2] at g8
  have t20 := g1.top.2.1
  obtain ⟨σ', c1, c2, c3, c4, c5⟩ := c_closeP g1 hp0 (by omega) g5 (fit_0 (by omega) (by omega)) (by decide) (by decide) (by omega)
  obtain ⟨τ', m1, q1, q2, q3, -⟩ := m_closeK g2 hp0 (by omega) (by omega)
  have hl := h.lift hp (cd' := cdo σ' c) (rc' := rco τ') (fun k hk _ => c3.1 k hk) q2.1
  have hS := (hl.2.2.2.2.2.2.2.2.2.2.2).down g9.1
  rw [hce.1, hce.2, hl.2.1, hl.2.2.1] at hS
  have hD := sg_not hS (by rw [c3.2.1]; exact hk) (by rw [q2.2.1, hk]; rfl)
  exact ⟨σ', τ', _, c1, m1, ⟨c2, q1, hl.1, hD, c4, fun _ => ⟨hAW, by rw [q3]; exact ho⟩, fun h => by omega, by omega, g9⟩, c5⟩
theorem closed_iff (h : JB σ τ c fm v (f :: S) len len' 0 D tk) (hp0 : f.p = 0) (hk : f.k = 13) : ∃ σ' τ' D', f_92 σ = some ((), σ') ∧ f_185 τ = some ((), τ') ∧ JB σ' τ' c fm v S (len + 1) (len' + 1) 0 D' tk ∧ gI σ' 10 4 = gI σ 10 4 := by
  have hp : f.p ≠ 2 := by omega
  have hl0 := h.lift hp (cd' := cdo σ c) (rc' := rco τ) (fun k _ _ => cdE.rf _ k) (fun k _ => rcE.rf _ k)
  obtain ⟨g1, g2, g3, g4, g5, g6, g7, g8, g9⟩ := id h
  have hFS := hl0.2.2.2.2.2.2.2.2.2.2.1 (by omega)
  obtain ⟨hSgL, hAW⟩ : Sg (vv v S) (cdo σ c) (rco τ) S.length (Lv S) f.ca f.ce f.ra f.re 0 f.D ∧ AW fm S := by
    rcases hFS.2 with h | h | h | h | h | h | h
    · omega
    · exact h.2.2.2
    all_goals omega
  obtain ⟨-, ho⟩ := g6 rfl
  have hnJ : ¬ isJ f := fun h => by have := h.2; omega
  rw [jn_cons_N hnJ] at ho
  have e1 : pnC (f :: S) = pnC S + 1 := by rw [pnC, if_pos ⟨hp0, by omega⟩]
  have e2 : pnM (f :: S) = pnM S + 1 := by rw [pnM, if_neg (by omega)]
  have hpn := pn_b S
  rw [e1, e2] at g8
  have t20 := g1.top.2.1
  obtain ⟨σ', c1, c2, c3, c4, c5⟩ := c_closeP g1 hp0 (by omega) g5 (fit_0 (by omega) (by omega)) (by decide) (by decide) (by omega)
  obtain ⟨τ', m1, q1, q2, q3, -⟩ := m_closeK g2 hp0 (by omega) (by omega)
  have hl := h.lift hp (cd' := cdo σ' c) (rc' := rco τ') (fun k hk _ => c3.1 k hk) q2.1
  have hL := hSgL.up (cd' := cdo σ' c) (rc' := rco τ') (vLe.rf g9.1) (fun k _ k1 => c3.1 k (by omega)) (fun k _ k1 => q2.1 k (by omega))
  have hD := sg_iff hL hl.2.2.2.2.2.2.2.2.2.2.2 (by omega) (by omega) (by rw [c3.2.1]; exact hk) (by rw [q2.2.1, hk]; rfl)
  rw [hl.2.1, hl.2.2.1] at hD
  exact ⟨σ', τ', _, c1, m1, ⟨c2, q1, hl.1, hD, c4, fun _ => ⟨hAW, by rw [q3]; exact ho⟩, fun h => by omega, by omega, g9⟩, c5⟩
theorem closed_link (h : JB σ τ c fm v (f :: S) len len' 0 D tk) (hp0 : f.p = 0) (hk : 10 ≤ f.k ∧ f.k ≤ 12) : ∃ σ' τ' D', f_92 σ = some ((), σ') ∧ f_185 τ = some ((), τ') ∧ JB σ' τ' c fm v S len (len' + 1) 0 D' tk ∧ gI σ' 10 4 = gI σ 10 4 := by
  have hp : f.p ≠ 2 := by omega
  obtain ⟨g1, g2, g3, g4, g5, g6, g7, g8, g9⟩ := id h
  have hl0 := h.lift hp (cd' := cdo σ c) (rc' := rco τ) (fun k _ _ => cdE.rf _ k) (fun k _ => rcE.rf _ k)
  obtain ⟨hco, hSgL, hAW⟩ : (f.ca < f.ce ∧ (cdo σ c).op (f.ce - 1) = f.k) ∧ Sg (vv v S) (cdo σ c) (rco τ) S.length (Lv S) f.ca (f.ce - 1) f.ra f.re 0 f.D ∧ AW fm S := by
    rcases g3.2.2 with h | h | h | h | h | h | h
    · omega
    · omega
    · exact h.2.2
    all_goals omega
  have hb1 := hSgL.r_b
  obtain ⟨-, ho⟩ := g6 rfl
  have hnJ : ¬ isJ f := fun h => by have := h.2; omega
  rw [jn_cons_N hnJ] at ho
  have e1 : pnC (f :: S) = pnC S := by rw [pnC, if_neg (by omega)]; omega
  have e2 : pnM (f :: S) = pnM S + 1 := by rw [pnM, if_neg (by omega)]
  have hpn := pn_b S
  rw [e1, e2] at g8
  have t20 := g1.top.2.1
  obtain ⟨σ', c1, c2, c3, c4, c5, c6, c7⟩ := c_closeL g1 hp0 hk (by omega) (by omega) (by omega)
  obtain ⟨τ', m1, q1, q2, q3, -⟩ := m_closeK g2 hp0 (by omega) (by omega)
  have hl := h.lift hp (cd' := cdo σ' c) (rc' := rco τ') (fun k _ hk' => c5 k (by omega)) q2.1
  have hL := hSgL.up (cd' := cdo σ' c) (rc' := rco τ') (vLe.rf g9.1) (fun k _ k1 => c5 k (by omega)) (fun k _ k1 => q2.1 k (by omega))
  have hR := hl.2.2.2.2.2.2.2.2.2.2.2
  rw [show f.ce = f.ce - 1 + 1 by omega] at hR
  have hD := sg_link (op := f.k) (by omega) hL hR (by omega) (by omega) (by rw [c3]; exact hco.2) c4 q2.2.1
  rw [hl.2.1, hl.2.2.1] at hD
  exact ⟨σ', τ', _, c1, m1, ⟨c2, q1, hl.1, hD, by rw [c6]; exact g5, fun _ => ⟨hAW, by rw [q3]; exact ho⟩, fun h => by omega, by omega, g9⟩, c7⟩
/-- a binder ends, in both -/
theorem closed_body (h : JB σ τ c fm v (f :: S) len len' 0 D tk) (hp2 : f.p = 2) : ∃ σ' τ' v' D', f_93 σ = some ((), σ') ∧ f_187 τ = some ((), τ') ∧ (vLe v v' ∧ v'.K ≤ 40) ∧ SFr v' (cdo σ' c) (rco τ') fm S ∧ PC σ' c fm v'.K S len ∧ PMd τ' fm S (len' + 1) ∧ Sg (vv v' S) (cdo σ' c) (rco τ') S.length (Lv S) (cE S) len (rE S) (len' + 1) (if f.k = 39 then 1 else 0) D' ∧ gI σ' 10 6 = (if f.k = 39 then 1 else 0) ∧ gI σ' 10 4 = gI σ 10 4 ∧ gI τ' 177 40 = jn S ∧ (f.k ≠ 39 → AW fm S) ∧ (len + pnC S ≤ tk ∧ len' + 1 + pnM S ≤ tk) := by
  obtain ⟨g1, g2, g3, g4, g5, g6, g7, g8, g9⟩ := id h
  obtain ⟨h0, hbk, hlt, ⟨⟨b1, b2, b3, b4, b5⟩, bmd⟩, hSgD, hrc3, hAW⟩ : ((f.ca = cE S ∧ f.ra = rE S ∧ f.ca ≤ f.ce ∧ f.ra ≤ f.re)) ∧ bk f.k ∧ (f.ca < f.ce ∧ f.ra < f.re) ∧ (BC (cdo σ c) f S ∧ (cdo σ c).md f.ca = f.ce) ∧ Sg (vv v S) (cdo σ c) (rco τ) (S.length + 1) (Lv S) (f.ca + 1) f.ce f.ra (f.re - 1) 1 f.D ∧ (rco τ).1 (f.re - 1) = 3 ∧ (f.k ≠ 39 → AW fm S) := by
    refine ⟨g3.2.1, ?_⟩
    rcases g3.2.2 with h | h | h | h | h | h | h
    · omega
    · omega
    · omega
    · omega
    · omega
    · omega
    · exact h.2
  have hpos := g3.1.pos
  have hb1 := hSgD.r_b
  have eL : Lv (f :: S) = Lv S + 1 := by rw [Lv, if_pos hp2]
  rw [eL, len_cons] at g4
  have hb2 : f.ce < len ∧ f.re < len' := ⟨g4.r_b.2.2.2.1, g4.r_b.2.2.2.2.2.1⟩
  obtain ⟨-, ho⟩ := g6 rfl
  have hnJ : ¬ isJ f := fun h => by have := h.1; omega
  rw [jn_cons_N hnJ] at ho
  have e1 : pnC (f :: S) = pnC S := by rw [pnC, if_neg (by omega)]; omega
  have e2 : pnM (f :: S) = pnM S + 1 := by rw [pnM, if_neg (by omega)]
  have hpn := pn_b S
  rw [e1, e2] at g8
  have t20 := g1.top.2.1
  have LvB := Lv_b S
  -- variables in the binder
  have hsc : ∀ k, f.ca < k → k < len → (cdo σ c).op k = 43 → 0 ≤ (cdo σ c).arg k ∧ (cdo σ c).arg k < 20 := by
    intro k k0 k1 k2
    by_cases hk : k < f.ce
    · obtain ⟨y1, y2, -⟩ := hSgD.2.2.2.2.2.1 k (by omega) hk k2
      exact ⟨y1, y2⟩
    · obtain ⟨y1, y2, -⟩ := g4.2.2.2.2.2.1 k (by show f.ce ≤ k; omega) k1 k2
      exact ⟨y1, y2⟩
  obtain ⟨σ', U, K', c1, c2, c3, c4, ⟨c5, c6, c7, c8, c9, c10⟩, c11, c12, c13⟩ := c_closeB g1 hp2 (by omega) (by omega) (by omega) g9.1 g9.2 b4 b5 hsc
  obtain ⟨q, hq⟩ : ∃ q, q = if f.k = 39 then 5 else f.k - 4 := ⟨_, rfl⟩
  have hq5 : 0 ≤ q ∧ q ≤ 5 ∧ (f.k = 39 → q = 5) ∧ (f.k ≠ 39 → q = f.k - 4 ∧ q ≠ 5) := by
    rw [hq]
    by_cases h39 : f.k = 39
    · rw [if_pos h39]; omega
    · rw [if_neg h39]; omega
  obtain ⟨τ', m1, q1, q2, ⟨q3, q4⟩, ⟨q5, q6⟩, q7, q8⟩ := m_closeQ (q := q) g2 hp2 hq hbk (by omega) (by omega) (by omega)
  -- the slots
  have hslL : slo (f :: S) (Lv S) = S.length := by
    rw [slo]; dsimp only; rw [if_pos ⟨hp2, rfl⟩]
  have hslo : ∀ j, j < Lv S → slo (f :: S) j = slo S j := fun j hj => by
    rw [slo]; dsimp only; rw [if_neg (by omega)]
  have hsb := slo_b S
  -- denotations as they stand, before the memo
  have key : ∀ v' : Wd, vLe v v' → MOk (vv v' (f :: S)) (cdo σ' c) f.ca (Lv S) q (dQ v.n q (Lv S) f.D D) → Sg (vv v' S) (cdo σ' c) (rco τ') S.length (Lv S) (cE S) len (rE S) (len' + 1) (bR q) (dQ v.n q (Lv S) f.D D) := by
    intro v' hv hM
    have hn : v'.n = v.n := hv.1
    have A1 : Sg (vv v' (f :: S)) (cdo σ' c) (rco τ') (S.length + 1) (Lv S) (f.ca + 1) f.ce f.ra (f.re - 1) 1 f.D := (hSgD.up (cd' := cdo σ' c) (rc' := rco τ') hv (fun k k0 k1 => c4 k (by omega)) (fun k k0 k1 => q2 k (by omega) (by omega))).mono rfl rfl rfl (fun j _ j1 => hslo j j1) (by have := hv.2.2.2.1; have := hv.2.2.2.2.1; show 0 ≤ v'.K; omega) (Int.le_refl _) (fun _ _ _ => ⟨rfl, rfl⟩) (fun k _ _ => cdE.rf _ k) (fun k _ _ => rcE.rf _ k)
    have A2 : Sg (vv v' (f :: S)) (cdo σ' c) (rco τ') (S.length + 1) (Lv S + 1) f.ce len (f.re - 1 + 1) len' 0 D := by
      rw [show f.re - 1 + 1 = f.re by omega]
      exact g4.up (cd' := cdo σ' c) (rc' := rco τ') hv (fun k k0 k1 => c4 k (by have : f.ce ≤ k := k0; omega)) (fun k k0 k1 => q2 k (by omega) (by have : f.re ≤ k := k0; omega))
    have := sg_bind (q := q) (v := vv v' (f :: S)) A1 A2 (by omega) LvB.1 (by omega) (by omega) hslL (fun j j0 j1 => by show slo (f :: S) j < _; rw [hslo j j1]; exact (hsb j j0 j1).2) (by rw [c5]; exact b1) (by rw [c6]; exact b2) (by rw [c8]; exact bmd) c9 (by rw [c7, b3, hq]; split <;> (try split) <;> omega) hq5.1 hq5.2.1 (by rw [q5]; exact hrc3) q6 q3 q4 (by show MOk (vv v' (f :: S)) (cdo σ' c) f.ca (Lv S) q (dQ v'.n q (Lv S) f.D D); rw [hn]; exact hM)
    have h3 : Sg (vv v' (f :: S)) (cdo σ' c) (rco τ') S.length (Lv S) f.ca len f.ra (len' + 1) (bR q) (dQ v'.n q (Lv S) f.D D) := this
    rw [hn, h0.1, h0.2.1] at h3
    exact h3.mono rfl rfl rfl (fun j _ j1 => (hslo j j1).symm) (by have := hv.2.2.2.1; have := hv.2.2.2.2.1; show 0 ≤ v'.K; omega) (Int.le_refl _) (fun _ _ _ => ⟨rfl, rfl⟩) (fun k _ _ => cdE.rf _ k) (fun k _ _ => rcE.rf _ k)
  have hbR : bR q = if f.k = 39 then 1 else 0 := by
    rw [bR]
    by_cases h39 : f.k = 39
    · rw [if_pos (hq5.2.2.1 h39), if_pos h39]
    · rw [if_neg (hq5.2.2.2 h39).2, if_neg h39]
  have fin : ∀ v' : Wd, vLe v v' → v'.K = K' → v'.K ≤ 40 → MOk (vv v' (f :: S)) (cdo σ' c) f.ca (Lv S) q (dQ v.n q (Lv S) f.D D) → ∃ σ' τ' v' D', f_93 σ = some ((), σ') ∧ f_187 τ = some ((), τ') ∧ (vLe v v' ∧ v'.K ≤ 40) ∧ SFr v' (cdo σ' c) (rco τ') fm S ∧ PC σ' c fm v'.K S len ∧ PMd τ' fm S (len' + 1) ∧ Sg (vv v' S) (cdo σ' c) (rco τ') S.length (Lv S) (cE S) len (rE S) (len' + 1) (if f.k = 39 then 1 else 0) D' ∧ gI σ' 10 6 = (if f.k = 39 then 1 else 0) ∧ gI σ' 10 4 = gI σ 10 4 ∧ gI τ' 177 40 = jn S ∧ (f.k ≠ 39 → AW fm S) ∧ (len + pnC S ≤ tk ∧ len' + 1 + pnM S ≤ tk) := by
    intro v' hv hK' hK40 hM
    refine ⟨σ', τ', v', _, c1, m1, ⟨hv, hK40⟩, g3.1.up hv (fun k hk => c4 k (by omega)) (fun k hk => q2 k (by omega) (by omega)), by rw [hK']; exact c2, q1, by rw [← hbR]; exact key v' hv hM, c12, c13, by rw [q7 40 (by decide) (by decide)]; exact ho, hAW, by omega⟩
  rcases c11 with ⟨mm, hK⟩ | ⟨mm, hK, hK40, hcb⟩
  · exact fin v (vLe.rf g9.1) hK.symm g9.2 (Or.inl mm)
  · -- a new memo
    have hDep : Dep v.n (slo (f :: S)) (cdo σ c) f.ca len (Lv S) (bR q) (dQ v.n q (Lv S) f.D D) := by
      have B1 : Dep v.n (slo (f :: S)) (cdo σ c) (f.ca + 1) f.ce (Lv S) 1 f.D := fun e e' A he => hSgD.2.2.2.2.1 e e' A (fun j j0 j1 ⟨k, k0, k1, k2, k3⟩ => he j j0 j1 ⟨k, k0, k1, k2, by rw [hslo j j1]; exact k3⟩)
      exact Dep.quant (v := vv v (f :: S)) g4.1.1 B1 g4.2.2.2.2.1 (by omega) hb2.1
    have hSco : Sco (slo (f :: S)) (cdo σ c) f.ca len (Lv S) S.length := by
      intro k k0 k1 k2
      by_cases ka : k = f.ca
      · rw [ka, b1] at k2; omega
      · by_cases kc : k < f.ce
        · obtain ⟨y1, y2, y3⟩ := hSgD.2.2.2.2.2.1 k (by omega) kc k2
          refine ⟨y1, y2, fun h => ?_⟩
          obtain ⟨j, j0, j1, j2⟩ := y3 (by omega)
          exact ⟨j, j0, j1, by rw [hslo j j1]; exact j2⟩
        · obtain ⟨y1, y2, y3⟩ := g4.2.2.2.2.2.1 k (by show f.ce ≤ k; omega) k1 k2
          refine ⟨y1, y2, fun h => ?_⟩
          obtain ⟨j, j0, j1, j2⟩ := y3 (by omega)
          have j2' : (cdo σ c).arg k = slo (f :: S) j := j2
          refine ⟨j, j0, ?_, j2'⟩
          by_cases hj : j = Lv S
          · rw [hj, hslL] at j2'; omega
          · omega
    obtain ⟨Fm, hFm⟩ := memo_new (v := vv v (f :: S)) (q := q) (dp := S.length) (L := Lv S) (U := U) g4.1 hDep hSco (fun i hi => by
      rw [c3.2.2 i hi]
      constructor
      · rintro ⟨k, k0, k1, k2⟩
        exact ⟨k, by omega, k1, k2⟩
      · rintro ⟨k, k0, k1, k2, k3⟩
        refine ⟨k, ?_, k1, k2, k3⟩
        by_cases ka : k = f.ca
        · rw [ka, b1] at k2; omega
        · omega) (fun j j0 j1 => by
      have := hsb j j0 j1
      show 0 ≤ slo (f :: S) j ∧ slo (f :: S) j < 20 ∧ slo (f :: S) j < S.length
      rw [hslo j j1]
      omega) hcb
    have hv : vLe v ((v.n, v.R, v.ra, v.sl, v.K + 1, fun k => if k = v.K then bW v.n q else v.W k, fun k => if k = v.K then Fm else v.F k) : Wd) := by
      refine ⟨rfl, rfl, rfl, g9.1, ?_, fun k k0 k1 => ⟨?_, ?_⟩⟩
      · show v.K ≤ v.K + 1
        omega
      · show (if k = v.K then bW v.n q else v.W k) = v.W k
        rw [if_neg (by omega)]
      · show (if k = v.K then Fm else v.F k) = v.F k
        rw [if_neg (by omega)]
    refine fin _ hv ?_ ?_ (Or.inr ⟨?_, ?_, ?_, ?_, ?_⟩)
    · show v.K + 1 = K'
      omega
    · show v.K + 1 ≤ 40
      omega
    · rw [mm]; exact g9.1
    · rw [mm]
      show v.K < v.K + 1
      omega
    · rw [c10]; exact c3.1
    · rw [mm]
      show (if v.K = v.K then bW v.n q else v.W v.K) = bW v.n q
      rw [if_pos rfl]
    · intro bd e A he
      have := hFm bd e A he
      rw [mm, c10]
      show 0 ≤ plc U bd 20 ∧ plc U bd 20 < 25 ∧ ∀ i, 0 ≤ i → i < bW v.n q → (if v.K = v.K then Fm else v.F v.K) (plc U bd 20) A i = dQ v.n q (Lv S) f.D D e A i
      rw [if_pos rfl]
      exact this
end CLOSE
