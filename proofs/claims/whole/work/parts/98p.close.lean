/-! BOTH PARSERS: what is open ends in both alike. -/
theorem sg_joint {v : Wd} {cd : Cd} {rc : Rc} {dp L a b c a' b' c' r1 r2 k : Int} {D1 D2 : Dn} (h1 : Sg v cd rc dp L a c a' c' r1 D1) (h2 : Sg v cd rc (dp + 1) L c b c' b' r2 D2) (d0 : 0 ≤ dp) (d20 : dp < 20) (hk : 20 ≤ k ∧ k ≤ 27) (x1 : 1 ≤ r1) (y1 : 1 ≤ r2) (hf : fitv k r1 r2 ≠ -1) (hc : cd.op b = k) (hd : rc.1 b' = k + 10) (hw : rc.2.1 b' = r1) (ha : rc.2.2 b' = r2) : 1 ≤ fitv k r1 r2 ∧ ∃ D, Sg v cd rc dp L a (b + 1) a' (b' + 1) (fitv k r1 r2) D := by
  have : k = 20 ∨ k = 21 ∨ k = 22 ∨ k = 23 ∨ k = 24 ∨ k = 25 ∨ k = 26 ∨ k = 27 := by omega
  rcases this with rfl | rfl | rfl | rfl | rfl | rfl | rfl | rfl
  · have e : fitv 20 r1 r2 = if 3 < r1 + r2 then -1 else r1 + r2 := rfl
    by_cases h3 : 3 < r1 + r2
    · rw [e, if_pos h3] at hf; exact absurd rfl hf
    · rw [e, if_neg h3]
      exact ⟨by omega, _, sg_arrow h1 h2 d0 d20 x1 y1 (by omega) hc hd hw ha⟩
  · have e : fitv 21 r1 r2 = if r1 = 2 ∧ r2 = 2 then 2 else -1 := rfl
    by_cases h3 : r1 = 2 ∧ r2 = 2
    · rw [e, if_pos h3]
      obtain ⟨rfl, rfl⟩ := h3
      exact ⟨by omega, _, sg_over h1 h2 d0 d20 hc hd⟩
    · rw [e, if_neg h3] at hf; exact absurd rfl hf
  · have e : fitv 22 r1 r2 = if r1 = 1 then r2 else -1 := rfl
    by_cases h3 : r1 = 1
    · rw [e, if_pos h3]
      subst h3
      exact ⟨by omega, _, sg_first h1 h2 d0 d20 y1 hc hd ha⟩
    · rw [e, if_neg h3] at hf; exact absurd rfl hf
  · have e : fitv 23 r1 r2 = if r2 = 1 then r1 else -1 := rfl
    by_cases h3 : r2 = 1
    · rw [e, if_pos h3]
      subst h3
      exact ⟨by omega, _, sg_last h1 h2 d0 d20 x1 hc hd hw⟩
    · rw [e, if_neg h3] at hf; exact absurd rfl hf
  · have e : fitv 24 r1 r2 = if r1 = r2 then r1 else -1 := rfl
    by_cases h3 : r1 = r2
    · rw [e, if_pos h3]
      subst h3
      exact ⟨by omega, _, sg_plus h1 h2 d0 d20 hc hd⟩
    · rw [e, if_neg h3] at hf; exact absurd rfl hf
  · have e : fitv 25 r1 r2 = if r1 = r2 then r1 else -1 := rfl
    by_cases h3 : r1 = r2
    · rw [e, if_pos h3]
      subst h3
      exact ⟨by omega, _, sg_minus h1 h2 d0 d20 hc hd⟩
    · rw [e, if_neg h3] at hf; exact absurd rfl hf
  · have e : fitv 26 r1 r2 = if r1 = r2 then r1 else -1 := rfl
    by_cases h3 : r1 = r2
    · rw [e, if_pos h3]
      subst h3
      exact ⟨by omega, _, sg_meet h1 h2 d0 d20 hc hd⟩
    · rw [e, if_neg h3] at hf; exact absurd rfl hf
  · have e : fitv 27 r1 r2 = if r1 + r2 < 3 ∨ 5 < r1 + r2 then -1 else r1 + r2 - 2 := rfl
    by_cases h3 : r1 + r2 < 3 ∨ 5 < r1 + r2
    · rw [e, if_pos h3] at hf; exact absurd rfl hf
    · rw [e, if_neg h3]
      exact ⟨by omega, _, sg_dot h1 h2 d0 d20 x1 y1 (by omega) hc hd hw ha⟩
/-- both behind an operand: arity r, denotation D; tk: how many tokens were read -/
def JB (σ τ : zS) (c : Nat) (fm : Int) (v : Wd) (S : List Fr) (len len' r : Int) (D : Dn) (tk : Int) : Prop :=
  PC σ c fm v.K S len ∧ PMd τ fm S len' ∧ SFr v (cdo σ c) (rco τ) fm S ∧ Sg (vv v S) (cdo σ c) (rco τ) S.length (Lv S) (cE S) len (rE S) len' r D ∧ gI σ 10 6 = r ∧ (r = 0 → AW fm S ∧ gI τ 177 40 = jn S) ∧ (1 ≤ r → gI τ 177 40 = jn S + 1 ∧ gI τ 195 (jn S) = r) ∧ (len + pnC S ≤ tk ∧ len' + pnM S ≤ tk ∧ tk ≤ 200) ∧ (0 ≤ v.K ∧ v.K ≤ 40)
section CLOSE
variable {σ τ σ' τ' : zS} {c : Nat} {fm : Int} {v : Wd} {S : List Fr} {f : Fr} {len len' r tk : Int} {D : Dn}
theorem vv_cons (h : f.p ≠ 2) : vv v (f :: S) = vv v S ∧ Lv (f :: S) = Lv S := by
  have e1 : slo (f :: S) = slo S := by
    funext j
    rw [slo]
    dsimp only
    rw [if_neg (fun h' => h h'.1)]
  refine ⟨?_, ?_⟩
  · unfold vv
    rw [e1]
  · rw [Lv, if_neg h]
    omega
theorem len_cons : ((f :: S).length : Int) = S.length + 1 := by rw [List.length_cons]; omega
/-- what was there stays when one instruction is written in both codes -/
theorem JB.lift (h : JB σ τ c fm v (f :: S) len len' r D tk) (hp : f.p ≠ 2) {cd' : Cd} {rc' : Rc} (hc : ∀ k, k < len → k ≠ f.ce - 1 ∨ ¬ (10 ≤ f.k ∧ f.k ≤ 12) → cdE (cdo σ c) cd' k) (hr : ∀ k, k ≠ len' → rcE (rco τ) rc' k) : SFr v cd' rc' fm S ∧ f.ca = cE S ∧ f.ra = rE S ∧ (1 ≤ f.ce → 0 ≤ f.ca) ∧ f.ce < len ∧ f.re < len' ∧ f.ca ≤ f.ce ∧ f.ra ≤ f.re ∧ 0 ≤ r ∧ r ≤ 3 ∧ (¬ (10 ≤ f.k ∧ f.k ≤ 12) → FS v cd' rc' fm S f) ∧ Sg (vv v S) cd' rc' (S.length + 1) (Lv S) f.ce len f.re len' r D := by
  have K0 : 0 ≤ v.K := h.2.2.2.2.2.2.2.2.1
  obtain ⟨h1, h2, ⟨h3, h3'⟩, h4, -⟩ := h
  rw [(vv_cons (v := v) hp).1, (vv_cons (v := v) hp).2, len_cons] at h4
  have hb := h4.r_b
  have hb' : f.ce < len ∧ f.re < len' := ⟨hb.2.2.2.1, hb.2.2.2.2.2.1⟩
  have h0 := h3'.1
  have hpos := h3.pos
  refine ⟨h3.up (vLe.rf K0) (fun k hk => hc k (by omega) ?_) (fun k hk => hr k (by omega)), h0.1, h0.2.1, fun _ => by omega, hb'.1, hb'.2, h0.2.2.1, h0.2.2.2, hb.1, hb.2.1, fun hn => h3'.up (vLe.rf K0) (fun k hk => hc k (by omega) (Or.inr hn)) (fun k hk => hr k (by omega)), h4.up (vLe.rf K0) (fun k k0 k1 => hc k k1 (Or.inl ?_)) (fun k _ k1 => hr k (by omega))⟩
  · by_cases hL : 10 ≤ f.k ∧ f.k ≤ 12
    · left
      rcases h3'.2 with h | h | h | h | h | h | h
      · omega
      · omega
      · have := h.2.2.1.1
        have := h.2.2.2.1.2.2.1.2.1
        omega
      · omega
      · omega
      · omega
      · omega
    · exact Or.inr hL
  · have : f.ce ≤ k := k0
    omega
theorem closed_joint (h : JB σ τ c fm v (f :: S) len len' r D tk) (hJ : isJ f) (hr : 1 ≤ r) : ∃ σ' τ', f_92 σ = some ((), σ') ∧ f_179 τ = some (if fitv f.k f.r r = -1 then 5 else 0, τ') ∧ (fitv f.k f.r r = -1 → gI σ' 10 15 = 5 ∧ gI σ' 10 16 = f.pl ∧ gI τ' 177 5 = f.pl) ∧ (fitv f.k f.r r ≠ -1 → ∃ D', 1 ≤ fitv f.k f.r r ∧ JB σ' τ' c fm v S (len + 1) (len' + 1) (fitv f.k f.r r) D' tk ∧ gI σ' 10 4 = gI σ 10 4) := by
  have hp : f.p ≠ 2 := by have := hJ.1; omega
  have hl0 := h.lift hp (cd' := cdo σ c) (rc' := rco τ) (fun k _ _ => cdE.rf _ k) (fun k _ => rcE.rf _ k)
  obtain ⟨g1, g2, g3, g4, g5, g6, g7, g8, g9⟩ := id h
  have hFS := hl0.2.2.2.2.2.2.2.2.2.2.1 (by have := hJ.2; omega)
  obtain ⟨hr1, hSgL⟩ : 1 ≤ f.r ∧ Sg (vv v S) (cdo σ c) (rco τ) S.length (Lv S) f.ca f.ce f.ra f.re f.r f.D := by
    have := hJ.2
    rcases hFS.2 with h | h | h | h | h | h | h
    · exact ⟨h.2.2.1, h.2.2.2.1⟩
    all_goals exfalso; have := h.2.1; have := hJ.1; omega
  have hb1 := hSgL.r_b
  have hr3 : r ≤ 3 := hl0.2.2.2.2.2.2.2.2.2.1
  obtain ⟨ho, hro⟩ := g7 hr
  rw [jn_cons_J hJ] at ho hro
  have t14 : gI σ 14 S.length = f.r := by
    obtain ⟨-, -, ⟨-, -, -, t4, -⟩, -⟩ := g1.top
    exact t4 hJ.1 (Or.inl hJ.2)
  have hpn := pn_b S
  have e1 : pnC (f :: S) = pnC S + 1 := by rw [pnC, if_pos ⟨hJ.1, by have := hJ.2; omega⟩]
  have e2 : pnM (f :: S) = pnM S + 1 := by rw [pnM, if_neg (by have := hJ.2; omega)]
  rw [e1, e2] at g8
  have t20 := g1.top.2.1
  obtain ⟨τ', m1, m2, m3⟩ := m_closeJ (r2 := r) g2 hJ (by omega) (by omega) hr1 (by omega) hro hr hr3
  have hfit := fit_eq (k := f.k) (l := f.r) (r := r) (by have := hJ.2; omega) (by have := hJ.2; omega) (by omega) (by omega) (by omega) (by omega)
  by_cases hf : fitv f.k f.r r = -1
  · obtain ⟨σ', c1, c2, c3⟩ := c_closeF g1 hJ.1 (by have := hJ.2; omega) g5 (by rw [t14, hfit, hf])
    exact ⟨σ', τ', c1, m1, fun _ => ⟨c2, c3, m2 hf⟩, fun hn => absurd hf hn⟩
  · obtain ⟨q1, q2, q3, q4⟩ := m3 hf
    have hfb : 0 ≤ fitv f.k f.r r ∧ fitv f.k f.r r ≤ 3 := by
      have : f.k = 20 ∨ f.k = 21 ∨ f.k = 22 ∨ f.k = 23 ∨ f.k = 24 ∨ f.k = 25 ∨ f.k = 26 ∨ f.k = 27 := by have := hJ.2; omega
      revert hf
      unfold fitv
      repeat' split
      all_goals intro hf; omega
    obtain ⟨σ', c1, c2, c3, c4, c5⟩ := c_closeP g1 hJ.1 (by have := hJ.2; omega) g5 (by rw [t14]; exact hfit) hfb.1 hfb.2 (by omega)
    refine ⟨σ', τ', c1, m1, fun hn => absurd hn hf, fun _ => ?_⟩
    have hl := h.lift hp (cd' := cdo σ' c) (rc' := rco τ') (fun k hk _ => c3.1 k hk) q2.1
    have hL : Sg (vv v S) (cdo σ' c) (rco τ') S.length (Lv S) f.ca f.ce f.ra f.re f.r f.D := hSgL.up (vLe.rf g9.1) (fun k _ k1 => c3.1 k (by omega)) (fun k _ k1 => q2.1 k (by omega))
    obtain ⟨f1, D', hD⟩ := sg_joint hL hl.2.2.2.2.2.2.2.2.2.2.2 (by omega) (by omega) hJ.2 hr1 hr hf c3.2.1 q2.2.1 q2.2.2.1 q2.2.2.2
    rw [hl.2.1, hl.2.2.1] at hD
    exact ⟨D', f1, ⟨c2, q1, hl.1, hD, c4, fun h0 => by omega, fun _ => ⟨q3, q4⟩, by omega, g9⟩, c5⟩
theorem closed_prefix (h : JB σ τ c fm v (f :: S) len len' r D tk) (hp0 : f.p = 0) (hk : 28 ≤ f.k ∧ f.k ≤ 30) (hr : 1 ≤ r) : ∃ σ' τ', f_92 σ = some ((), σ') ∧ f_179 τ = some (if r = 2 then 0 else 5, τ') ∧ (r ≠ 2 → gI σ' 10 15 = 5 ∧ gI σ' 10 16 = f.pl ∧ gI τ' 177 5 = f.pl) ∧ (r = 2 → ∃ D', JB σ' τ' c fm v S (len + 1) (len' + 1) 2 D' tk ∧ gI σ' 10 4 = gI σ 10 4) := by
  have hp : f.p ≠ 2 := by omega
  have hl0 := h.lift hp (cd' := cdo σ c) (rc' := rco τ) (fun k _ _ => cdE.rf _ k) (fun k _ => rcE.rf _ k)
  obtain ⟨g1, g2, g3, g4, g5, g6, g7, g8, g9⟩ := id h
  have hFS := hl0.2.2.2.2.2.2.2.2.2.2.1 (by omega)
  have hce : f.ce = f.ca ∧ f.re = f.ra := by
    rcases hFS.2 with h | h | h | h | h | h | h
    · omega
    · omega
    · omega
    · exact h.2.2
    all_goals omega
  obtain ⟨ho, hro⟩ := g7 hr
  have hnJ : ¬ isJ f := fun h => by have := h.2; omega
  rw [jn_cons_N hnJ] at ho hro
  have e1 : pnC (f :: S) = pnC S + 1 := by rw [pnC, if_pos ⟨hp0, by omega⟩]
  have e2 : pnM (f :: S) = pnM S + 1 := by rw [pnM, if_neg (by omega)]
  have hpn := pn_b S
  rw [e1, e2] at g8
  have t20 := g1.top.2.1
  obtain ⟨τ', m1, m2, m3⟩ := m_closeT (r2 := r) g2 hp0 hk (by omega) ho hro
  have hfit := fit_pre (k := f.k) (l := gI σ 14 S.length) (r := r) (by omega) ⟨by omega, by have := hl0.2.2.2.2.2.2.2.2.2.1; omega⟩
  by_cases h2 : r = 2
  · rw [if_pos h2] at hfit
    obtain ⟨σ', c1, c2, c3, c4, c5⟩ := c_closeP g1 hp0 (by omega) g5 hfit (by decide) (by decide) (by omega)
    obtain ⟨q1, q2, q3, q4⟩ := m3 h2
    refine ⟨σ', τ', c1, m1, fun hn => absurd h2 hn, fun _ => ?_⟩
    have hl := h.lift hp (cd' := cdo σ' c) (rc' := rco τ') (fun k hk _ => c3.1 k hk) q2.1
    have hS := hl.2.2.2.2.2.2.2.2.2.2.2
    rw [hce.1, hce.2, hl.2.1, hl.2.2.1, h2] at hS
    have hS' : Sg (vv v S) (cdo σ' c) (rco τ') S.length (Lv S) (cE S) len (rE S) len' 2 D := by
      obtain ⟨x1, x2, x3, x4, x5, x6, x7⟩ := hS
      refine ⟨x1, x2, x3.mono rfl (Int.le_refl _) (fun _ _ _ => rfl) (fun _ _ _ => rfl) g9.1 (Int.le_refl _) (fun _ _ _ => ⟨rfl, rfl⟩) (fun k _ _ => cdE.rf _ k) (by omega), x4.mono (by omega) (Int.le_refl _) (fun _ _ _ => rfl) (fun _ _ _ => ⟨rfl, rfl, rfl⟩), x5, fun k k0 k1 k2 => ?_, x7⟩
      obtain ⟨y1, y2, y3⟩ := x6 k k0 k1 k2
      exact ⟨y1, y2, fun h => y3 (by omega)⟩
    have : f.k = 28 ∨ f.k = 29 ∨ f.k = 30 := by omega
    have hD : ∃ D', Sg (vv v S) (cdo σ' c) (rco τ') S.length (Lv S) (cE S) (len + 1) (rE S) (len' + 1) 2 D' := by
      rcases this with e | e | e
      · exact ⟨_, sg_tilde hS' (by rw [c3.2.1, e]) (by rw [q2.2.1, e]; rfl)⟩
      · exact ⟨_, sg_hat hS' (by rw [c3.2.1, e]) (by rw [q2.2.1, e]; rfl)⟩
      · exact ⟨_, sg_star hS' (by rw [c3.2.1, e]) (by rw [q2.2.1, e]; rfl)⟩
    obtain ⟨D', hD⟩ := hD
    exact ⟨D', ⟨c2, q1, hl.1, hD, c4, fun h0 => by omega, fun _ => ⟨q3, q4⟩, by omega, g9⟩, c5⟩
  · rw [if_neg h2] at hfit
    obtain ⟨σ', c1, c2, c3⟩ := c_closeF g1 hp0 (by omega) g5 hfit
    exact ⟨σ', τ', c1, m1, fun _ => ⟨c2, c3, m2 h2⟩, fun hn => absurd hn h2⟩
end CLOSE
