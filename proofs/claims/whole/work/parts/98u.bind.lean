/-! BOTH PARSERS: binders, sizes. -/
/-- both await the name that a binder binds: the name that stands there is any -/
def JN (σ τ : zS) (c : Nat) (fm : Int) (v : Wd) (k pl : Int) (S : List Fr) (len len' tk : Int) : Prop := ∃ w1 w2 r D, PC σ c fm v.K (mkF k 1 pl w1 r D (cE S) len (rE S) len' :: S) len ∧ PMd τ fm (mkF k 1 pl w2 r D (cE S) len (rE S) len' :: S) len' ∧ SFr v (cdo σ c) (rco τ) fm (mkF k 1 pl w1 r D (cE S) len (rE S) len' :: S) ∧ gI τ 177 40 = jn S ∧ (len + pnC S ≤ tk ∧ len' + (pnM S + 1) ≤ tk ∧ tk ≤ 200) ∧ (0 ≤ v.K ∧ v.K ≤ 40) ∧ (1 ≤ v.n ∧ v.n ≤ 5)
section BIND
variable {σ τ σ' τ' : zS} {c : Nat} {fm : Int} {v : Wd} {S : List Fr} {f : Fr} {len len' r tk pl k : Int} {D : Dn} {w : BitVec 64}
theorem opened_binder (h : JA σ τ c fm v S len len' tk) (hS : S.length < 20) (htk : tk < 200) (hpc : gI σ 8 5 = pl) (hpm : gI τ 177 28 = pl) (hk : bk k) (hA : k ≠ 39 → AW fm S) {what word : Int} (hwh : what = if k = 39 then 64 else 62) (hwo : word = if k = 39 then 5 else k - 4) : ∃ σ' τ', f_77 k σ = some ((), σ') ∧ f_158 what word τ = some ((), τ') ∧ JN σ' τ' c fm v k pl S (len + 1) len' (tk + 1) ∧ gI σ' 10 4 = 1 := by
  obtain ⟨g1, g2, g3, g4, g5, g6, g7, g8⟩ := h
  have hpn := pn_b S
  have hpos := g3.pos
  obtain ⟨σ', w1, a1, a2, a3, a4⟩ := c_openB (k := k) (r := gI σ 10 6) (D := fun _ _ _ => false) (ra := rE S) (re := len') g1 hS (by omega) hk hpc rfl
  have hnJ : ∀ w, ¬ isJ (mkF k 1 pl w (gI σ 10 6) (fun _ _ _ => false) (cE S) (len + 1) (rE S) len') := fun w h => absurd h.1 (by show ¬ (1 : Int) = 0; decide)
  have hwz : zR what ∧ zR word := by
    rw [hwh, hwo]
    constructor
    · split <;> decide
    · split
      · decide
      · exact ⟨by omega, by omega⟩
  obtain ⟨τ', b1, b2, b3, b4, b5⟩ := m_open (f := mkF k 1 pl (gJ τ 177 29) (gI σ 10 6) (fun _ _ _ => false) (cE S) (len + 1) (rE S) len') (what := what) (word := word) g2 hS hpm rfl hwz.1 hwz.2 (by omega) (by rw [hwh]; rfl) rfl (fun h => absurd h (by show ¬ (1 : Int) = 0; decide)) (fun h => absurd h (by show ¬ (1 : Int) = 0; decide)) (fun _ => hwo) (by show (1 : Int) ≠ 2; decide) (fun hJ => absurd hJ (hnJ _)) (fun _ => rfl)
  rw [g4.1] at a2
  refine ⟨σ', τ', a1, b1, ⟨w1, gJ τ 177 29, gI σ 10 6, fun _ _ _ => false, ?_, b2, ⟨g3.up (vLe.rf g7.1) (fun k hk => a3.1 k (by omega)) (fun k _ => by rw [b3]; exact rcE.rf _ k), ⟨rfl, rfl, by show cE S ≤ len + 1; omega, by show rE S ≤ len'; omega⟩, Or.inr (Or.inr (Or.inr (Or.inr (Or.inr (Or.inl ⟨rfl, hk, ⟨by show len + 1 = cE S + 1; omega, g4.2⟩, ⟨?_, ?_, ?_, ?_, ?_⟩, hA⟩)))))⟩, by rw [b4]; exact g5, by omega, g7, g8⟩, a4⟩
  · rw [← g4.1] at a2 ⊢
    exact a2
  · show (cdo σ' c).op (cE S) = 45
    rw [← g4.1]; exact a3.2.1
  · show (cdo σ' c).arg (cE S) = S.length
    rw [← g4.1]; exact a3.2.2.1
  · show (cdo σ' c).sg (cE S) = k
    rw [← g4.1]; exact a3.2.2.2.1
  · show (cdo σ' c).us (cE S) = 0
    rw [← g4.1]; exact a3.2.2.2.2.1
  · show (cdo σ' c).mm (cE S) = -1
    rw [← g4.1]; exact a3.2.2.2.2.2
/-- the bound name -/
theorem bound_name (h : JN σ τ c fm v k pl S len len' tk) (htk : tk < 200) (hwc : gJ σ 8 6 = w) (hwm : gJ τ 177 29 = w) (hm1 : gI τ 177 27 = 1) : ∃ σ' τ' f, f_84 2 σ = some ((), σ') ∧ f_188 4 τ = some (5, τ') ∧ JA σ' τ' c fm v (f :: S) len len' (tk + 1) ∧ f.p = 1 ∧ gI σ' 10 4 = 2 := by
  obtain ⟨w1, w2, r, D, g1, g2, g3, g4, g5, g6, g7⟩ := h
  obtain ⟨σ', a1, a2, a3, a4⟩ := c_bindName (w := w) (p := 1) (by decide) g1 hwc
  obtain ⟨t38, t20, t3, t4, -⟩ := g2.top
  have n : ∀ (x : Nat) (i : Int), gI (sJ τ 194 (S.length + 1) w) x i = gI τ x i := fun x i => rfl
  have hnJ : ∀ w, ¬ isJ (mkF k 1 pl w r D (cE S) len (rE S) len') := fun w h => absurd h.1 (by show ¬ (1 : Int) = 0; decide)
  have e1 : pnC (mkF k 1 pl w r D (cE S) len (rE S) len' :: S) = pnC S := by rw [pnC, if_neg (fun h => absurd h.1 (by show ¬ (1 : Int) = 0; decide))]; omega
  have e2 : pnM (mkF k 1 pl w r D (cE S) len (rE S) len' :: S) = pnM S + 1 := by rw [pnM, if_neg (fun h => absurd h.1 (by show ¬ (1 : Int) = 0; decide))]
  have hsame : rco (sJ τ 194 (S.length + 1) w) = rco τ := rfl
  refine ⟨σ', sJ τ 194 (S.length + 1) w, mkF k 1 pl w r D (cE S) len (rE S) len', a1, ?_, ⟨a2, ?_, ?_, ⟨rfl, rfl⟩, ?_, by omega, g6, g7⟩, rfl, a4⟩
  · unfold f_188
    rw [zg_pos (by decide), if_pos rfl, hm1, if_pos rfl, t38, show (S.length : Int) + 2 - 1 = S.length + 1 by omega, zg_pos ⟨by omega, by omega⟩, hwm]
  · obtain ⟨p1, p2, p3, p4⟩ := g2
    exact ⟨p1, p2, ⟨t3.up (fun i i1 i2 => ⟨rfl, rfl, rfl, rfl, rfl, gJ_ni (by omega)⟩) (fun i _ _ => rfl), t4, fun _ => gJ_same⟩, p4⟩
  · rw [a3, hsame]
    exact g3
  · rw [jn_cons_N (hnJ w)]
    exact g4
/-- the bar of a binder -/
theorem barred (h : JB σ τ c fm v (f :: S) len len' 1 D tk) (htk : tk < 200) (hp : f.p = 1) : ∃ σ' τ' f', f_99 42 σ = some ((), σ') ∧ j_176_109 (mkd f) τ = some (0, τ') ∧ JA σ' τ' c fm v (f' :: S) len (len' + 1) (tk + 1) ∧ f'.p = 2 ∧ gI σ' 10 4 = 0 := by
  obtain ⟨g1, g2, ⟨g3, g3'⟩, g4, g5, g6, g7, g8, g9⟩ := h
  obtain ⟨k, p, pl, nm, r0, D0, ca, ce, ra, re⟩ := f
  have hp' : p = 1 := hp
  subst hp'
  obtain ⟨⟨h1, h2, -, -⟩, hbk, ⟨h3, h4⟩, ⟨b1, b2, b3, b4, b5⟩, hAW⟩ : (ca = cE S ∧ ra = rE S ∧ ca ≤ ce ∧ ra ≤ re) ∧ bk k ∧ (ce = ca + 1 ∧ re = ra) ∧ BC (cdo σ c) (mkF k 1 pl nm r0 D0 ca ce ra re) S ∧ (k ≠ 39 → AW fm S) := by
    refine ⟨g3'.1, ?_⟩
    rcases g3'.2 with h | h | h | h | h | h | h
    · exact absurd h.1 (by show ¬ (1 : Int) = 0; decide)
    · exact absurd h.1 (by show ¬ (1 : Int) = 0; decide)
    · exact absurd h.1 (by show ¬ (1 : Int) = 0; decide)
    · exact absurd h.1 (by show ¬ (1 : Int) = 0; decide)
    · exact absurd h.1 (by show ¬ (1 : Int) = 0; decide)
    · exact h.2
    · exact absurd h.1 (by show ¬ (1 : Int) = 2; decide)
  have hvv := vv_cons (v := v) (f := mkF k 1 pl nm r0 D0 ca ce ra re) (S := S) (by show (1 : Int) ≠ 2; decide)
  have g4' : Sg (vv v S) (cdo σ c) (rco τ) (S.length + 1) (Lv S) ce len re len' 1 D := by
    have := g4
    rw [show ((k, 1, pl, nm, r0, D0, ca, ce, ra, re) : Fr) = mkF k 1 pl nm r0 D0 ca ce ra re from rfl] at this
    rw [hvv.1, hvv.2, len_cons] at this
    exact this
  have hb := g4'.r_b
  have hpos := g3.pos
  obtain ⟨ho, hro⟩ := g7 (by decide)
  have hnJ : ∀ p D ce re r nm, p = 1 ∨ p = 2 → ¬ isJ (mkF k p pl nm r D ca ce ra re) := fun p D ce re r nm hp h => by have : p = 0 := h.1; omega
  have ho' : gI τ 177 40 = jn S + 1 := by
    have e := jn_cons_N (S := S) (hnJ 1 D0 ce re r0 nm (Or.inl rfl))
    have e' : gI τ 177 40 = jn (mkF k 1 pl nm r0 D0 ca ce ra re :: S) + 1 := ho
    omega
  obtain ⟨t38, t20, t3, ⟨t4, t5, -, -, t6, -, -⟩, t7⟩ := g2.top
  have jb := jn_b S
  have hl200 : len ≤ 200 ∧ len' ≤ 200 := by
    have := pn_b (mkF k 1 pl nm r0 D0 ca ce ra re :: S)
    have h8 : len + pnC (mkF k 1 pl nm r0 D0 ca ce ra re :: S) ≤ tk ∧ len' + pnM (mkF k 1 pl nm r0 D0 ca ce ra re :: S) ≤ tk ∧ tk ≤ 200 := g8
    omega
  obtain ⟨σ', a1, a2, a3, ⟨a4, a5, a6, a7, a8, a9⟩, a10⟩ := c_bar (re' := len' + 1) (D1 := D) g1 g5 (by omega) (by omega) hl200.1
  -- the reference
  obtain ⟨X, hX⟩ : ∃ X : Int, X = if k = 39 then 65 else 63 := ⟨_, rfl⟩
  have hXz : zR X := by rw [hX]; split <;> decide
  have hmk : mkd (mkF k 1 pl nm r0 D0 ca ce ra re) = if k = 39 then 64 else 62 := rfl
  have e109 : j_176_109 (mkd (mkF k 1 pl nm r0 D0 ca ce ra re)) τ = j_176_132 (S.length + 1) X τ := by
    unfold j_176_109
    rw [hmk, hX, t38, show (S.length : Int) + 2 - 1 = S.length + 1 by omega]
    by_cases h39 : k = 39
    · rw [if_pos h39, if_pos h39, zg_pos (by decide), if_neg (by decide)]
    · rw [if_neg h39, if_neg h39, zg_pos (by decide), if_pos rfl]
  have n : ∀ (x : Nat) (i : Int), x ≠ 177 → x ≠ 192 → x ≠ 189 → gI (sI (sI (sI τ 189 (S.length + 1) X) 192 (S.length + 1) len') 177 40 (jn S)) x i = gI τ x i := fun x i h1 h2 h3 => by rw [gI_nc h1, gI_nc h2, gI_nc h3]
  have m : ∀ i : Int, i ≠ 40 → gI (sI (sI (sI τ 189 (S.length + 1) X) 192 (S.length + 1) len') 177 40 (jn S)) 177 i = gI τ 177 i := fun i hi => by rw [gI_ni hi, gI_nc (by decide), gI_nc (by decide)]
  have e189 : ∀ i, gI (sI (sI (sI τ 189 (S.length + 1) X) 192 (S.length + 1) len') 177 40 (jn S)) 189 i = if i = (S.length : Int) + 1 then X else gI τ 189 i := fun i => by rw [gI_nc (by decide), gI_nc (by decide), gI_if hXz]
  have e192 : ∀ i, gI (sI (sI (sI τ 189 (S.length + 1) X) 192 (S.length + 1) len') 177 40 (jn S)) 192 i = if i = (S.length : Int) + 1 then len' else gI τ 192 i := fun i => by rw [gI_nc (by decide), gI_if ⟨by omega, by omega⟩, gI_nc (by decide)]
  obtain ⟨τ', c1, c2, c3, c4⟩ := m_lay (τ := sI (sI (sI τ 189 (S.length + 1) X) 192 (S.length + 1) len') 177 40 (jn S)) (len := len') (op := 3) (a := 0) (b := 0) (by rw [m 41 (by decide)]; exact g2.2.2.2.1) (by omega) (by omega) (by decide) (by decide) (by decide)
  have e132 : j_176_132 (S.length + 1) X τ = some (0, τ') := by
    unfold j_176_132
    rw [zg_pos ⟨by omega, by omega⟩, t38, show (S.length : Int) + 2 - 1 = S.length + 1 by omega, zg_pos ⟨by omega, by omega⟩, g2.2.2.2.1, ho', show jn S + 1 - 1 = jn S by omega, zb_of c1]
  have hrc0 : rco (sI (sI (sI τ 189 (S.length + 1) X) 192 (S.length + 1) len') 177 40 (jn S)) = rco τ := rco_eq (fun i => n 184 i (by decide) (by decide) (by decide)) (fun i => n 185 i (by decide) (by decide) (by decide)) (fun i => n 186 i (by decide) (by decide) (by decide))
  unfold mAdd at c3
  rw [hrc0] at c3
  have cs : ∀ (x : Nat) (i : Int), x ≠ 184 → x ≠ 185 → x ≠ 186 → x ≠ 177 → gI τ' x i = gI (sI (sI (sI τ 189 (S.length + 1) X) 192 (S.length + 1) len') 177 40 (jn S)) x i := fun x i h1 h2 h3 h4 => c4.1 x i h1 h2 h3 (fun h => absurd h h4)
  have P : PMd τ' fm (mkF k 2 pl nm 1 D ca len ra (len' + 1) :: S) (len' + 1) := by
    refine ⟨⟨?_, by rw [List.length_cons]; omega⟩, ?_, ⟨t3.up (fun i i1 i2 => ⟨?_, ?_, ?_, ?_, ?_, ?_⟩) (fun i _ _ => ?_), ⟨?_, ?_, fun h => absurd h (by show ¬ (2 : Int) = 0; decide), fun h => absurd h (by show ¬ (2 : Int) = 0; decide), fun _ => ?_, fun _ => ?_, fun hJ => absurd hJ (hnJ 2 D len (len' + 1) 1 nm (Or.inr rfl))⟩, fun _ => ?_⟩, c2, by omega⟩
    · rw [c4.1 177 38 (by decide) (by decide) (by decide) (fun _ => by decide), m 38 (by decide), t38, List.length_cons]; omega
    · rw [cs 189 0 (by decide) (by decide) (by decide) (by decide), e189, if_neg (by omega)]; exact g2.2.1
    · rw [cs 189 i (by decide) (by decide) (by decide) (by decide), e189, if_neg (by omega)]
    · rw [cs 190 i (by decide) (by decide) (by decide) (by decide), n 190 i (by decide) (by decide) (by decide)]
    · rw [cs 191 i (by decide) (by decide) (by decide) (by decide), n 191 i (by decide) (by decide) (by decide)]
    · rw [cs 192 i (by decide) (by decide) (by decide) (by decide), e192, if_neg (by omega)]
    · rw [cs 193 i (by decide) (by decide) (by decide) (by decide), n 193 i (by decide) (by decide) (by decide)]
    · rw [c4.2]; rfl
    · rw [cs 195 i (by decide) (by decide) (by decide) (by decide), n 195 i (by decide) (by decide) (by decide)]
    · rw [cs 189 _ (by decide) (by decide) (by decide) (by decide), e189, if_pos rfl, hX]
      rfl
    · rw [cs 190 _ (by decide) (by decide) (by decide) (by decide), n 190 _ (by decide) (by decide) (by decide)]; exact t5
    · rw [cs 193 _ (by decide) (by decide) (by decide) (by decide), n 193 _ (by decide) (by decide) (by decide)]
      exact t6 (by show (1 : Int) ≠ 0; decide)
    · rw [cs 192 _ (by decide) (by decide) (by decide) (by decide), e192, if_pos rfl]
      show len' = len' + 1 - 1
      omega
    · rw [c4.2]
      exact t7 (by show (1 : Int) ≠ 0; decide)
  have hpn := pn_b S
  have q1 : pnC (mkF k 2 pl nm 1 D ca len ra (len' + 1) :: S) = pnC S := by rw [pnC, if_neg (fun h => absurd h.1 (by show ¬ (2 : Int) = 0; decide))]; omega
  have q2 : pnM (mkF k 2 pl nm 1 D ca len ra (len' + 1) :: S) = pnM S + 1 := by rw [pnM, if_neg (fun h => absurd h.1 (by show ¬ (2 : Int) = 0; decide))]
  have q3 : pnC (mkF k 1 pl nm r0 D0 ca ce ra re :: S) = pnC S := by rw [pnC, if_neg (fun h => absurd h.1 (by show ¬ (1 : Int) = 0; decide))]; omega
  have q4 : pnM (mkF k 1 pl nm r0 D0 ca ce ra re :: S) = pnM S + 1 := by rw [pnM, if_neg (fun h => absurd h.1 (by show ¬ (1 : Int) = 0; decide))]
  have h8 : len + pnC (mkF k 1 pl nm r0 D0 ca ce ra re :: S) ≤ tk ∧ len' + pnM (mkF k 1 pl nm r0 D0 ca ce ra re :: S) ≤ tk ∧ tk ≤ 200 := g8
  rw [q3, q4] at h8
  refine ⟨σ', τ', mkF k 2 pl nm 1 D ca len ra (len' + 1), a1, ?_, ⟨a2, P, ⟨g3.up (vLe.rf g9.1) (fun j hj => a3 j (by omega)) (fun j hj => c3.1 j (by omega)), ⟨h1, h2, by show ca ≤ len; omega, by show ra ≤ len' + 1; omega⟩, Or.inr (Or.inr (Or.inr (Or.inr (Or.inr (Or.inr ⟨rfl, hbk, ⟨by show ca < len; omega, by show ra < len' + 1; omega⟩, ⟨⟨?_, ?_, ?_, ?_, ?_⟩, a7⟩, ?_, ?_, hAW⟩)))))⟩, ⟨rfl, rfl⟩, ?_, by omega, g9, g4'.1⟩, rfl, a10⟩
  · show j_176_109 (mkd (mkF k 1 pl nm r0 D0 ca ce ra re)) τ = _
    rw [e109, e132]
  · show (cdo σ' c).op ca = 45
    rw [a4]; exact b1
  · show (cdo σ' c).arg ca = S.length
    rw [a5]; exact b2
  · show (cdo σ' c).sg ca = k
    rw [a6]; exact b3
  · show (cdo σ' c).us ca = 0
    rw [a8]; exact b4
  · show (cdo σ' c).mm ca = -1
    rw [a9]; exact b5
  · show Sg (vv v S) (cdo σ' c) (rco τ') (S.length + 1) (Lv S) (ca + 1) len ra (len' + 1 - 1) 1 D
    rw [show len' + 1 - 1 = len' by omega, ← h3, ← h4]
    exact g4'.up (vLe.rf g9.1) (fun j j0 _ => a3 j (by omega)) (fun j _ j1 => c3.1 j (by omega))
  · show (rco τ').1 (len' + 1 - 1) = 3
    rw [show len' + 1 - 1 = len' by omega]
    exact c3.2.1
  · rw [jn_cons_N (hnJ 2 D len (len' + 1) 1 nm (Or.inr rfl)), c4.1 177 40 (by decide) (by decide) (by decide) (fun _ => by decide)]
    exact gI_same ⟨by omega, by omega⟩
end BIND
