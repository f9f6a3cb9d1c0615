/-! BOTH PARSERS: what is opened; operands of one instruction. -/
/-- both await an operand -/
def JA (σ τ : zS) (c : Nat) (fm : Int) (v : Wd) (S : List Fr) (len len' tk : Int) : Prop :=
  PC σ c fm v.K S len ∧ PMd τ fm S len' ∧ SFr v (cdo σ c) (rco τ) fm S ∧ (len = cE S ∧ len' = rE S) ∧ gI τ 177 40 = jn S ∧ (len + pnC S ≤ tk ∧ len' + pnM S ≤ tk ∧ tk ≤ 200) ∧ (0 ≤ v.K ∧ v.K ≤ 40) ∧ (1 ≤ v.n ∧ v.n ≤ 5)
theorem zR_km {k : Int} (h0 : 0 ≤ k) (h : k ≤ 42) : zR (km k) := by
  unfold km
  repeat' split
  all_goals exact ⟨by omega, by omega⟩
section OPEN
variable {σ τ σ' τ' : zS} {c : Nat} {fm : Int} {v : Wd} {S : List Fr} {f : Fr} {len len' r tk pl k : Int} {D : Dn} {w : BitVec 64}
/-- something without a left operand -/
theorem opened_prefix (h : JA σ τ c fm v S len len' tk) (hS : S.length < 20) (htk : tk < 200) (hpc : gI σ 8 5 = pl) (hpm : gI τ 177 28 = pl) (hk : (28 ≤ k ∧ k ≤ 30 ∨ k = 35) ∨ ((5 ≤ k ∧ k ≤ 9 ∨ k = 31 ∨ k = 37) ∧ AW fm S)) {what word : Int} (hwh : what = if 5 ≤ k ∧ k ≤ 8 then 106 else if k = 31 then 66 else km k) (hwo : 5 ≤ k → k ≤ 8 → word = k - 4) (hwz : zR word) : ∃ σ' τ' f, f_76 k σ = some (1, σ') ∧ f_158 what word τ = some ((), τ') ∧ JA σ' τ' c fm v (f :: S) len len' (tk + 1) ∧ gI σ' 10 4 = 0 ∧ f.k = k ∧ f.p = 0 := by
  obtain ⟨g1, g2, g3, g4, g5, g6, g7, g8⟩ := h
  have hk4 : 5 ≤ k ∧ k ≤ 37 ∧ k ≠ 14 ∧ k ≠ 32 ∧ k ≠ 10 ∧ k ≠ 11 ∧ k ≠ 12 ∧ k ≠ 13 ∧ ¬ (20 ≤ k ∧ k ≤ 27) := by omega
  obtain ⟨σ', a1, a2, a3, a4, a5⟩ := c_open (k := k) (nm := 0#64) (D := fun _ _ _ => false) (ra := rE S) (ca := cE S) (ce := cE S) (re := rE S) g1 hS ⟨by omega, by omega⟩ (by omega) hpc rfl
  have hmk : mkd (mkF k 0 pl 0#64 (gI σ 10 6) (fun _ _ _ => false) (cE S) (cE S) (rE S) (rE S)) = what := by
    rw [hwh]
    show (if (0 : Int) = 1 then _ else if (0 : Int) = 2 then _ else if k = 14 ∨ k = 32 then (68 : Int) else if 5 ≤ k ∧ k ≤ 8 then 106 else if k = 31 then 66 else km k) = _
    rw [if_neg (by decide), if_neg (by decide), if_neg (by omega)]
  have hwz2 : zR what := by
    rw [hwh]
    split
    · decide
    · split
      · decide
      · exact zR_km (by omega) (by omega)
  have hnJ : ¬ isJ (mkF k 0 pl 0#64 (gI σ 10 6) (fun _ _ _ => false) (cE S) (cE S) (rE S) (rE S)) := fun h => hk4.2.2.2.2.2.2.2.2 h.2
  have hpn := pn_b S
  obtain ⟨τ', b1, b2, b3, b4, b5⟩ := m_open (f := mkF k 0 pl 0#64 (gI σ 10 6) (fun _ _ _ => false) (cE S) (cE S) (rE S) (rE S)) g2 hS hpm rfl hwz2 hwz (by omega) hmk rfl (fun _ => ⟨by show k ≠ 14; omega, by show k ≠ 32; omega⟩) (fun _ x1 x2 => hwo x1 x2) (fun h => absurd rfl h) (by show (0 : Int) ≠ 2; decide) (fun hJ => absurd hJ hnJ) (fun h => absurd rfl h)
  have e1 : pnC (mkF k 0 pl 0#64 (gI σ 10 6) (fun _ _ _ => false) (cE S) (cE S) (rE S) (rE S) :: S) ≤ pnC S + 1 := by rw [pnC]; split <;> omega
  have e2 : pnM (mkF k 0 pl 0#64 (gI σ 10 6) (fun _ _ _ => false) (cE S) (cE S) (rE S) (rE S) :: S) ≤ pnM S + 1 := by rw [pnM]; split <;> omega
  have hpos := g3.pos
  refine ⟨σ', τ', _, a1, b1, ⟨a2, b2, ?_, ⟨g4.1, g4.2⟩, by rw [b4, jn_cons_N hnJ]; exact g5, by omega, g7, g8⟩, a5, rfl, rfl⟩
  rw [a3, b3]
  refine ⟨g3, ⟨rfl, rfl, Int.le_refl _, Int.le_refl _⟩, ?_⟩
  rcases hk with hk | ⟨hk, hA⟩
  · exact Or.inr (Or.inr (Or.inr (Or.inl ⟨rfl, hk, rfl, rfl⟩)))
  · exact Or.inr (Or.inr (Or.inr (Or.inr (Or.inl ⟨rfl, hk, ⟨rfl, rfl⟩, hA⟩))))
/-- a joint behind an operand -/
theorem opened_joint (h : JB σ τ c fm v S len len' r D tk) (hr : 1 ≤ r) (hS : S.length < 20) (htk : tk < 200) (hpc : gI σ 8 5 = pl) (hpm : gI τ 177 28 = pl) (hk : 20 ≤ k ∧ k ≤ 27) : ∃ σ' τ' f, f_76 k σ = some (1, σ') ∧ f_158 (k + 10) 0 τ = some ((), τ') ∧ JA σ' τ' c fm v (f :: S) len len' (tk + 1) ∧ gI σ' 10 4 = 0 ∧ f.k = k ∧ f.p = 0 := by
  obtain ⟨g1, g2, g3, g4, g5, g6, g7, g8, g9⟩ := h
  have hb := g4.r_b
  obtain ⟨ho, hro⟩ := g7 hr
  obtain ⟨σ', a1, a2, a3, a4, a5⟩ := c_open (k := k) (nm := 0#64) (D := D) (ra := rE S) (ca := cE S) (ce := len) (re := len') g1 hS ⟨by omega, by omega⟩ (by omega) hpc g5
  have hJ : isJ (mkF k 0 pl 0#64 r D (cE S) len (rE S) len') := ⟨rfl, hk⟩
  have hpn := pn_b S
  obtain ⟨τ', b1, b2, b3, b4, b5⟩ := m_open (f := mkF k 0 pl 0#64 r D (cE S) len (rE S) len') (what := k + 10) (word := 0) g2 hS hpm rfl ⟨by omega, by omega⟩ (by decide) (by omega) (mkd_J hJ) rfl (fun _ => ⟨by show k ≠ 14; omega, by show k ≠ 32; omega⟩) (fun _ x1 x2 => by have : k ≤ 8 := x2; omega) (fun h => absurd rfl h) (by show (0 : Int) ≠ 2; decide) (fun _ => hro) (fun h => absurd rfl h)
  have e1 : pnC (mkF k 0 pl 0#64 r D (cE S) len (rE S) len' :: S) ≤ pnC S + 1 := by rw [pnC]; split <;> omega
  have e2 : pnM (mkF k 0 pl 0#64 r D (cE S) len (rE S) len' :: S) ≤ pnM S + 1 := by rw [pnM]; split <;> omega
  refine ⟨σ', τ', _, a1, b1, ⟨a2, b2, ?_, ⟨rfl, rfl⟩, by rw [b4, jn_cons_J hJ]; exact ho, by omega, g9, g4.1⟩, a5, rfl, rfl⟩
  rw [a3, b3]
  exact ⟨g3, ⟨rfl, rfl, by show cE S ≤ len; omega, by show rE S ≤ len'; omega⟩, Or.inl ⟨rfl, Or.inl hk, hr, g4, fun h => by have : k = 14 ∨ k = 32 := h; omega⟩⟩
/-- iff behind a formula -/
theorem opened_iff (h : JB σ τ c fm v S len len' 0 D tk) (hS : S.length < 20) (htk : tk < 200) (hpc : gI σ 8 5 = pl) (hpm : gI τ 177 28 = pl) : ∃ σ' τ' f, f_76 13 σ = some (1, σ') ∧ f_158 19 0 τ = some ((), τ') ∧ JA σ' τ' c fm v (f :: S) len len' (tk + 1) ∧ gI σ' 10 4 = 0 ∧ f.k = 13 ∧ f.p = 0 := by
  obtain ⟨g1, g2, g3, g4, g5, g6, g7, g8, g9⟩ := h
  have hb := g4.r_b
  obtain ⟨hAW, ho⟩ := g6 rfl
  obtain ⟨σ', a1, a2, a3, a4, a5⟩ := c_open (k := 13) (nm := 0#64) (D := D) (ra := rE S) (ca := cE S) (ce := len) (re := len') g1 hS (by decide) (by decide) hpc g5
  have hnJ : ¬ isJ (mkF 13 0 pl 0#64 0 D (cE S) len (rE S) len') := fun h => absurd h.2 (by show ¬ ((20 : Int) ≤ 13 ∧ (13 : Int) ≤ 27); decide)
  have hpn := pn_b S
  obtain ⟨τ', b1, b2, b3, b4, b5⟩ := m_open (f := mkF 13 0 pl 0#64 0 D (cE S) len (rE S) len') (what := 19) (word := 0) g2 hS hpm rfl (by decide) (by decide) (by omega) rfl rfl (fun _ => ⟨by show (13 : Int) ≠ 14; decide, by show (13 : Int) ≠ 32; decide⟩) (fun _ x1 x2 => absurd x2 (by show ¬ (13 : Int) ≤ 8; decide)) (fun h => absurd rfl h) (by show (0 : Int) ≠ 2; decide) (fun hJ => absurd hJ hnJ) (fun h => absurd rfl h)
  have e1 : pnC (mkF 13 0 pl 0#64 0 D (cE S) len (rE S) len' :: S) ≤ pnC S + 1 := by rw [pnC]; split <;> omega
  have e2 : pnM (mkF 13 0 pl 0#64 0 D (cE S) len (rE S) len' :: S) ≤ pnM S + 1 := by rw [pnM]; split <;> omega
  refine ⟨σ', τ', _, a1, b1, ⟨a2, b2, ?_, ⟨rfl, rfl⟩, by rw [b4, jn_cons_N hnJ]; exact ho, by omega, g9, g4.1⟩, a5, rfl, rfl⟩
  rw [a3, b3]
  exact ⟨g3, ⟨rfl, rfl, by show cE S ≤ len; omega, by show rE S ≤ len'; omega⟩, Or.inr (Or.inl ⟨rfl, rfl, rfl, g4, hAW⟩)⟩
/-- and, or, implies behind a formula -/
theorem opened_link (h : JB σ τ c fm v S len len' 0 D tk) (hS : S.length < 20) (htk : tk < 200) (hpc : gI σ 8 5 = pl) (hpm : gI τ 177 28 = pl) (hk : k = 10 ∨ k = 11 ∨ k = 12) : ∃ σ' τ' f, f_76 k σ = some (1, σ') ∧ f_158 (k + 6) 0 τ = some ((), τ') ∧ JA σ' τ' c fm v (f :: S) (len + 1) len' (tk + 1) ∧ gI σ' 10 4 = 0 ∧ f.k = k ∧ f.p = 0 := by
  obtain ⟨g1, g2, g3, g4, g5, g6, g7, g8, g9⟩ := h
  have hb := g4.r_b
  obtain ⟨hAW, ho⟩ := g6 rfl
  have hpn := pn_b S
  obtain ⟨σ', a1, a2, a3, a4, a5⟩ := c_openL (k := k) (D := D) (ra := rE S) (ca := cE S) (re := len') g1 hS (by omega) hk hpc g5
  have hnJ : ¬ isJ (mkF k 0 pl 0#64 0 D (cE S) (len + 1) (rE S) len') := fun h => by have : 20 ≤ k ∧ k ≤ 27 := h.2; omega
  obtain ⟨τ', b1, b2, b3, b4, b5⟩ := m_open (f := mkF k 0 pl 0#64 0 D (cE S) (len + 1) (rE S) len') (what := k + 6) (word := 0) g2 hS hpm rfl ⟨by omega, by omega⟩ (by decide) (by omega) (by rw [mkd_km rfl (by show (28 ≤ k ∧ k ≤ 30) ∨ (9 ≤ k ∧ k ≤ 13) ∨ k = 35 ∨ k = 37; omega)]; show km k = k + 6; exact km_lo (by omega) (by omega)) rfl (fun _ => ⟨by show k ≠ 14; omega, by show k ≠ 32; omega⟩) (fun _ x1 x2 => by have : k ≤ 8 := x2; omega) (fun h => absurd rfl h) (by show (0 : Int) ≠ 2; decide) (fun hJ => absurd hJ hnJ) (fun h => absurd rfl h)
  have e1 : pnC (mkF k 0 pl 0#64 0 D (cE S) (len + 1) (rE S) len' :: S) = pnC S := by rw [pnC, if_neg (fun h => by have h1 : k ≠ 10 := h.2.1; have h2 : k ≠ 11 := h.2.2.1; have h3 : k ≠ 12 := h.2.2.2.1; omega)]; omega
  have e2 : pnM (mkF k 0 pl 0#64 0 D (cE S) (len + 1) (rE S) len' :: S) ≤ pnM S + 1 := by rw [pnM]; split <;> omega
  refine ⟨σ', τ', _, a1, b1, ⟨a2, b2, ⟨g3.up (vLe.rf g9.1) (fun k hk => a3.1 k (by omega)) (fun k _ => by rw [b3]; exact rcE.rf _ k), ⟨rfl, rfl, by show cE S ≤ len + 1; omega, by show rE S ≤ len'; omega⟩, Or.inr (Or.inr (Or.inl ⟨rfl, by show 10 ≤ k ∧ k ≤ 12; omega, ⟨by show cE S < len + 1; omega, ?_⟩, ?_, hAW⟩))⟩, ⟨rfl, rfl⟩, by rw [b4, jn_cons_N hnJ]; exact ho, by omega, g9, g4.1⟩, a5, rfl, rfl⟩
  · show (cdo σ' c).op (len + 1 - 1) = k
    rw [show len + 1 - 1 = len by omega]
    exact a3.2.1
  · show Sg (vv v S) (cdo σ' c) (rco τ') S.length (Lv S) (cE S) (len + 1 - 1) (rE S) len' 0 D
    rw [show len + 1 - 1 = len by omega, b3]
    exact g4.up (vLe.rf g9.1) (fun k _ k1 => a3.1 k k1) (fun k _ _ => rcE.rf _ k)
/-- in, = behind an expression -/
theorem opened_cmp (h : JB σ τ c fm v S len len' r D tk) (hr : 1 ≤ r) (hA : AW fm S) (hS : S.length < 20) (htk : tk < 200) (hpc : gI σ 8 5 = pl) (hpm : gI τ 177 28 = pl) (hk : k = 14 ∨ k = 32) (hkm : gI τ 177 27 = km k) {v2 : Int} (h169 : f_169 v2 = some 1) : ∃ σ' τ' f, f_76 k σ = some (1, σ') ∧ j_176_251 v2 τ = some (1, τ') ∧ JA σ' τ' c fm v (f :: S) len len' (tk + 1) ∧ gI σ' 10 4 = 0 ∧ f.k = k ∧ f.p = 0 := by
  obtain ⟨g1, g2, g3, g4, g5, g6, g7, g8, g9⟩ := h
  have hb := g4.r_b
  have jb := jn_b S
  obtain ⟨ho, hro⟩ := g7 hr
  obtain ⟨σ', a1, a2, a3, a4, a5⟩ := c_open (k := k) (nm := 0#64) (D := D) (ra := rE S) (ca := cE S) (ce := len) (re := len') g1 hS ⟨by omega, by omega⟩ (by omega) hpc g5
  have hnJ : ¬ isJ (mkF k 0 pl 0#64 r D (cE S) len (rE S) len') := fun h => by have : 20 ≤ k ∧ k ≤ 27 := h.2; omega
  have hpn := pn_b S
  obtain ⟨τ1, b1, b2, b3, b4, b5, b6, b7, b8, b9, b10⟩ := m_push (what := 68) (word := km k) g2 hS hpm rfl (by decide) (zR_km (by omega) (by omega)) (by omega)
  have o1 : gI τ1 177 40 = jn S + 1 := by rw [b9 177 40 (fun hx => absurd hx (by decide)) (fun _ => by decide)]; exact ho
  have o2 : gI τ1 195 (jn S) = r := by rw [b9 195 _ (fun hx => absurd hx (by decide)) (fun h => absurd h (by decide))]; exact hro
  have n : ∀ (x : Nat) (i : Int), x ≠ 177 → x ≠ 191 → gI (sI (sI τ1 191 (S.length + 1) r) 177 40 (jn S)) x i = gI τ1 x i := fun x i h1 h2 => by rw [gI_nc h1, gI_nc h2]
  have m : ∀ i : Int, i ≠ 40 → gI (sI (sI τ1 191 (S.length + 1) r) 177 40 (jn S)) 177 i = gI τ1 177 i := fun i hi => by rw [gI_ni hi, gI_nc (by decide)]
  have e191 : ∀ i, gI (sI (sI τ1 191 (S.length + 1) r) 177 40 (jn S)) 191 i = if i = (S.length : Int) + 1 then r else gI τ1 191 i := fun i => by rw [gI_nc (by decide), gI_if ⟨by omega, by omega⟩]
  have hcmp : (mkF k 0 pl 0#64 r D (cE S) len (rE S) len').k = 14 ∨ (mkF k 0 pl 0#64 r D (cE S) len (rE S) len').k = 32 := hk
  have hrc : rco (sI (sI τ1 191 (S.length + 1) r) 177 40 (jn S)) = rco τ := rco_eq (fun i => by rw [n 184 i (by decide) (by decide)]; exact b9 184 i (fun hx => absurd hx (by decide)) (fun h => absurd h (by decide))) (fun i => by rw [n 185 i (by decide) (by decide)]; exact b9 185 i (fun hx => absurd hx (by decide)) (fun h => absurd h (by decide))) (fun i => by rw [n 186 i (by decide) (by decide)]; exact b9 186 i (fun hx => absurd hx (by decide)) (fun h => absurd h (by decide)))
  have e1 : pnC (mkF k 0 pl 0#64 r D (cE S) len (rE S) len' :: S) ≤ pnC S + 1 := by rw [pnC]; split <;> omega
  have e2 : pnM (mkF k 0 pl 0#64 r D (cE S) len (rE S) len' :: S) ≤ pnM S + 1 := by rw [pnM]; split <;> omega
  have P : PMd (sI (sI τ1 191 (S.length + 1) r) 177 40 (jn S)) fm (mkF k 0 pl 0#64 r D (cE S) len (rE S) len' :: S) len' := by
    refine g2.push hS (by rw [m 38 (by decide)]; exact b2) (by rw [n 189 0 (by decide) (by decide)]; exact b9 189 0 (fun _ => by omega) (fun h => absurd h (by decide))) (fun i i1 i2 => ⟨?_, ?_, ?_, ?_, ?_, ?_⟩) (fun i _ _ => ?_) ⟨?_, ?_, fun _ _ => ⟨?_, ?_⟩, fun _ x1 x2 => ?_, fun h => absurd rfl h, fun h => absurd h (by show ¬ (0 : Int) = 2; decide), fun hJ => absurd hJ hnJ⟩ (fun h => absurd rfl h) ?_ g2.2.2.2.2
    · rw [n 189 i (by decide) (by decide)]; exact b9 189 i (fun _ => by omega) (fun h => absurd h (by decide))
    · rw [n 190 i (by decide) (by decide)]; exact b9 190 i (fun _ => by omega) (fun h => absurd h (by decide))
    · rw [e191, if_neg (by omega)]; exact b9 191 i (fun _ => by omega) (fun h => absurd h (by decide))
    · rw [n 192 i (by decide) (by decide)]; exact b9 192 i (fun _ => by omega) (fun h => absurd h (by decide))
    · rw [n 193 i (by decide) (by decide)]; exact b9 193 i (fun _ => by omega) (fun h => absurd h (by decide))
    · show gJ τ1 194 i = gJ τ 194 i
      exact b10 194 i (fun _ => by omega)
    · rw [n 195 i (by decide) (by decide)]; exact b9 195 i (fun hx => absurd hx (by decide)) (fun h => absurd h (by decide))
    · rw [n 189 _ (by decide) (by decide), b3, mkd_68 rfl hcmp]
    · rw [n 190 _ (by decide) (by decide)]; exact b4
    · rw [e191, if_pos rfl]
    · rw [n 193 _ (by decide) (by decide)]; exact b7
    · have x3 : 5 ≤ k := x1
      have x4 : k ≤ 8 := x2
      omega
    · rw [m 41 (by decide), b9 177 41 (fun hx => absurd hx (by decide)) (fun _ => by decide)]; exact g2.2.2.2.1
  refine ⟨σ', _, _, a1, ?_, ⟨a2, P, ?_, ⟨rfl, rfl⟩, by rw [jn_cons_N hnJ]; exact gI_same ⟨by omega, by omega⟩, by omega, g9, g4.1⟩, a5, rfl, rfl⟩
  · unfold j_176_251
    rw [zo_of h169, zg_pos (by decide), if_neg (by decide), hkm, zb_of b1, o1, show jn S + 1 - 1 = jn S by omega, zg_pos ⟨by omega, by omega⟩, b2, show (S.length : Int) + 2 - 1 = S.length + 1 by omega, zg_pos ⟨by omega, by omega⟩, o2]
  · rw [a3, hrc]
    exact ⟨g3, ⟨rfl, rfl, by show cE S ≤ len; omega, by show rE S ≤ len'; omega⟩, Or.inl ⟨rfl, Or.inr hk, hr, g4, fun _ => hA⟩⟩
end OPEN
