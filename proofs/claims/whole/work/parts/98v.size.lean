/-! BOTH PARSERS: sizes; brackets. -/
/-- both await the number behind # -/
def JS (σ τ : zS) (c : Nat) (fm : Int) (v : Wd) (S : List Fr) (len len' sg tk : Int) : Prop := ∃ f r D, PC σ c fm v.K (f :: S) len ∧ (gI σ 10 7 = sg ∧ 32 ≤ sg ∧ sg ≤ 34) ∧ (gI τ 177 38 = S.length + 2 ∧ PMd (sI τ 177 38 (S.length + 1)) fm S len' ∧ gI τ 193 (S.length + 1) = sg + 10) ∧ gI τ 177 40 = jn S ∧ SFr v (cdo σ c) (rco τ) fm S ∧ Sg (vv v S) (cdo σ c) (rco τ) S.length (Lv S) (cE S) len (rE S) len' r D ∧ AW fm S ∧ (len + pnC S + 1 ≤ tk ∧ len' + pnM S + 1 ≤ tk ∧ tk ≤ 200) ∧ (0 ≤ v.K ∧ v.K ≤ 40)
section SIZE
variable {σ τ σ' τ' : zS} {c : Nat} {fm : Int} {v : Wd} {S : List Fr} {f : Fr} {len len' r tk pl k : Int} {D : Dn} {w : BitVec 64}
theorem c_sized (h : PC σ c fm v.K (f :: S) len) (hk : f.k = 31) (hs : 32 ≤ k ∧ k ≤ 34) : ∃ σ', f_100 k σ = some ((), σ') ∧ PC σ' c fm v.K (f :: S) len ∧ cdo σ' c = cdo σ c ∧ gI σ' 10 7 = k ∧ gI σ' 10 4 = 3 := by
  have hb := h.c29
  obtain ⟨t8, t20, ⟨t1, t2, -⟩, -⟩ := h.top
  have n : ∀ (x : Nat) (i : Int), x ≠ 10 → gI (sI (sI σ 10 7 k) 10 4 3) x i = gI σ x i := fun x i hx => by rw [gI_nc hx, gI_nc hx]
  have m : ∀ i : Int, i ≠ 4 → i ≠ 7 → gI (sI (sI σ 10 7 k) 10 4 3) 10 i = gI σ 10 i := fun i h1 h2 => by rw [gI_ni h1, gI_ni h2]
  refine ⟨sI (sI σ 10 7 k) 10 4 3, ?_, h.keep rfl (m 3 (by decide) (by decide)) (m 15 (by decide) (by decide)) (m 5 (by decide) (by decide)) (m 8 (by decide) (by decide)) (fun i _ _ => ⟨n 11 i (by decide), n 12 i (by decide), n 13 i (by decide), n 14 i (by decide), n 15 i (by decide), rfl⟩) (n c 0 (by omega)) (n c 8 (by omega)), cdo_eq (fun j _ _ k => n _ k (by omega)), ?_, gI_same (by decide)⟩
  · unfold f_100
    rw [t8, sln, zg_pos ⟨by omega, by omega⟩, t1, hk, if_pos rfl, zg_pos ⟨by omega, by omega⟩]
    by_cases h32 : k = 32
    · rw [if_pos h32]
    · rw [if_neg h32]
      by_cases h33 : k = 33
      · rw [if_pos h33]
      · rw [if_neg h33, if_pos (by omega)]
  · rw [gI_ni (by decide)]
    exact gI_same ⟨by omega, by omega⟩
theorem m_sized (h : PMd τ fm (f :: S) len') (ho : gI τ 177 40 = jn S + 1) (l1 : len' < 1000) (hs : 32 ≤ k ∧ k ≤ 34) (hm : gI τ 177 27 = k + 10) : ∃ τ', j_176_200 τ = some (6, τ') ∧ gI τ' 177 38 = S.length + 2 ∧ PMd (sI τ' 177 38 (S.length + 1)) fm S len' ∧ gI τ' 193 (S.length + 1) = k + 10 ∧ gI τ' 177 40 = jn S ∧ rco τ' = rco τ := by
  have jb := jn_b S
  obtain ⟨t38, t20, -⟩ := h.top
  obtain ⟨p1, p2, p3, p4, p5⟩ := m_popAll h
  obtain ⟨τ0, hτ⟩ : ∃ τ0, τ0 = sI (sI τ 177 38 (gI τ 177 38 - 1)) 177 40 (gI τ 177 40 - 1) := ⟨_, rfl⟩
  have q1 : PMd τ0 fm S len' := by
    rw [hτ]
    have n : ∀ (x : Nat) (i : Int), x ≠ 177 → gI (sI (sI τ 177 38 (gI τ 177 38 - 1)) 177 40 (gI τ 177 40 - 1)) x i = gI (sI τ 177 38 (gI τ 177 38 - 1)) x i := fun x i hx => gI_nc hx
    have m : ∀ i : Int, i ≠ 40 → gI (sI (sI τ 177 38 (gI τ 177 38 - 1)) 177 40 (gI τ 177 40 - 1)) 177 i = gI (sI τ 177 38 (gI τ 177 38 - 1)) 177 i := fun i hi => gI_ni hi
    exact p1.keep (m 38 (by decide)) (n 189 0 (by decide)) (fun i _ _ => ⟨n 189 i (by decide), n 190 i (by decide), n 191 i (by decide), n 192 i (by decide), n 193 i (by decide), gJ_sI⟩) (fun i _ _ => n 195 i (by decide)) (by rw [m 41 (by decide)]; exact p1.2.2.2.1) p1.2.2.2.2
  have q40 : gI τ0 177 40 = jn S := by rw [hτ, gI_same ⟨by omega, by omega⟩]; omega
  have qrc : rco τ0 = rco τ := by
    rw [hτ]
    exact rco_eq (fun i => by rw [gI_nc (by decide), gI_nc (by decide)]) (fun i => by rw [gI_nc (by decide), gI_nc (by decide)]) (fun i => by rw [gI_nc (by decide), gI_nc (by decide)])
  have e200 : j_176_200 τ = zb (f_158 67 (k + 10) τ0) (fun _ s3 => some (6, s3)) := by
    unfold j_176_200
    rw [hm, hτ]
  clear hτ p1 p2 p3 p4 p5
  obtain ⟨τ', b1, b2, b3, b4, b5, b6, b7, b8, b9, b10⟩ := m_push (what := 67) (word := k + 10) (pl := gI τ0 177 28) (w := gJ τ0 177 29) q1 (by omega) rfl rfl (by decide) ⟨by omega, by omega⟩ l1
  refine ⟨τ', by rw [e200, zb_of b1], b2, q1.keep ?_ ?_ (fun i i1 i2 => ⟨?_, ?_, ?_, ?_, ?_, ?_⟩) (fun i _ _ => ?_) ?_ q1.2.2.2.2, b7, ?_, ?_⟩
  · rw [gI_same ⟨by omega, by omega⟩]; exact q1.1.1.symm
  · rw [gI_nc (by decide)]; exact b9 189 0 (fun _ => by omega) (fun h => absurd h (by decide))
  · rw [gI_nc (by decide)]; exact b9 189 i (fun _ => by omega) (fun h => absurd h (by decide))
  · rw [gI_nc (by decide)]; exact b9 190 i (fun _ => by omega) (fun h => absurd h (by decide))
  · rw [gI_nc (by decide)]; exact b9 191 i (fun _ => by omega) (fun h => absurd h (by decide))
  · rw [gI_nc (by decide)]; exact b9 192 i (fun _ => by omega) (fun h => absurd h (by decide))
  · rw [gI_nc (by decide)]; exact b9 193 i (fun _ => by omega) (fun h => absurd h (by decide))
  · rw [gJ_sI]; exact b10 194 i (fun _ => by omega)
  · rw [gI_nc (by decide)]; exact b9 195 i (fun hx => absurd hx (by decide)) (fun h => absurd h (by decide))
  · rw [gI_ni (by decide), b9 177 41 (fun hx => absurd hx (by decide)) (fun _ => by decide)]; exact q1.2.2.2.1
  · rw [b9 177 40 (fun hx => absurd hx (by decide)) (fun _ => by decide)]; exact q40
  · rw [← qrc]
    exact rco_eq (fun i => b9 184 i (fun hx => absurd hx (by decide)) (fun h => absurd h (by decide))) (fun i => b9 185 i (fun hx => absurd hx (by decide)) (fun h => absurd h (by decide))) (fun i => b9 186 i (fun hx => absurd hx (by decide)) (fun h => absurd h (by decide)))
theorem sized (h : JB σ τ c fm v (f :: S) len len' r D tk) (hr : 1 ≤ r) (htk : tk < 200) (hp : f.p = 0) (hk : f.k = 31) (hs : 32 ≤ k ∧ k ≤ 34) (hm : gI τ 177 27 = k + 10) : ∃ σ' τ', f_100 k σ = some ((), σ') ∧ j_176_200 τ = some (6, τ') ∧ JS σ' τ' c fm v S len len' k (tk + 1) ∧ gI σ' 10 4 = 3 := by
  have hl0 := h.lift (by omega) (cd' := cdo σ c) (rc' := rco τ) (fun k _ _ => cdE.rf _ k) (fun k _ => rcE.rf _ k)
  obtain ⟨g1, g2, g3, g4, g5, g6, g7, g8, g9⟩ := id h
  have hFS := hl0.2.2.2.2.2.2.2.2.2.2.1 (by omega)
  obtain ⟨hce, hAW⟩ : (f.ce = f.ca ∧ f.re = f.ra) ∧ AW fm S := by
    rcases hFS.2 with h | h | h | h | h | h | h
    · omega
    · omega
    · omega
    · omega
    · exact h.2.2
    all_goals omega
  have hSg := (hl0.2.2.2.2.2.2.2.2.2.2.2).down g9.1
  rw [hce.1, hce.2, hl0.2.1, hl0.2.2.1] at hSg
  obtain ⟨ho, hro⟩ := g7 hr
  have hnJ : ¬ isJ f := fun h => by have := h.2; omega
  rw [jn_cons_N hnJ] at ho hro
  have e1 : pnC (f :: S) = pnC S + 1 := by rw [pnC, if_pos ⟨hp, by omega⟩]
  have e2 : pnM (f :: S) = pnM S + 1 := by rw [pnM, if_neg (by omega)]
  have hpn := pn_b S
  rw [e1, e2] at g8
  obtain ⟨σ', a1, a2, a3, a4, a5⟩ := c_sized g1 hk hs
  obtain ⟨τ', b1, b2, b3, b4, b5, b6⟩ := m_sized g2 ho (by omega) hs hm
  exact ⟨σ', τ', a1, b1, ⟨f, r, D, a2, ⟨a4, hs⟩, ⟨b2, b3, b4⟩, b5, by rw [a3, b6]; exact g3.1, by rw [a3, b6]; exact hSg, hAW, by omega, g9⟩, a5⟩
theorem numbered {sg x : Int} (h : JS σ τ c fm v S len len' sg tk) (htk : tk < 200) (hxc : gI σ 8 7 = x) (hxm : gI τ 177 30 = x) (x0 : 0 ≤ x) (x1 : x < 1000) (hm : gI τ 177 27 = 2) : ∃ σ' τ' D', f_86 3 σ = some ((), σ') ∧ f_188 6 τ = some (3, τ') ∧ JB σ' τ' c fm v S (len + 1) (len' + 1) 0 D' (tk + 1) ∧ gI σ' 10 4 = 4 := by
  obtain ⟨f, r, D, g1, ⟨g2, g2', g2''⟩, ⟨g3, g3', g3''⟩, g4, g5, g6, g7, g8, g9⟩ := h
  have hpn := pn_b S
  have h20 := g3'.1.2
  obtain ⟨σ', a1, a2, a3, a4, a5⟩ := c_number (x := x) (sg := sg) g1 (by omega) hxc g2
  have hl41 : gI τ 177 41 = len' := by
    have := g3'.2.2.2.1
    rw [gI_ni (by decide)] at this
    exact this
  obtain ⟨τ1, b1, b2, b3, b4⟩ := m_lay (τ := τ) (len := len') (op := 5) (a := sg + 10) (b := x) hl41 g3'.2.2.2.2 (by omega) (by decide) ⟨by omega, by omega⟩ ⟨by omega, by omega⟩
  have m38 : gI τ1 177 38 = S.length + 2 := by rw [b4.1 177 38 (by decide) (by decide) (by decide) (fun _ => by decide)]; exact g3
  have hrc : rco (sI τ1 177 38 (S.length + 1)) = rco τ1 := rco_eq (fun i => gI_nc (by decide)) (fun i => gI_nc (by decide)) (fun i => gI_nc (by decide))
  have P : PMd (sI τ1 177 38 (S.length + 1)) fm S (len' + 1) := by
    refine g3'.keep ?_ ?_ (fun i _ _ => ⟨?_, ?_, ?_, ?_, ?_, ?_⟩) (fun i _ _ => ?_) ?_ (by have := g3'.2.2.2.2; omega)
    · rw [gI_same ⟨by omega, by omega⟩, gI_same ⟨by omega, by omega⟩]
    · rw [gI_nc (by decide), gI_nc (by decide)]; exact b4.1 189 0 (by decide) (by decide) (by decide) (fun h => absurd h (by decide))
    · rw [gI_nc (by decide), gI_nc (by decide)]; exact b4.1 189 i (by decide) (by decide) (by decide) (fun h => absurd h (by decide))
    · rw [gI_nc (by decide), gI_nc (by decide)]; exact b4.1 190 i (by decide) (by decide) (by decide) (fun h => absurd h (by decide))
    · rw [gI_nc (by decide), gI_nc (by decide)]; exact b4.1 191 i (by decide) (by decide) (by decide) (fun h => absurd h (by decide))
    · rw [gI_nc (by decide), gI_nc (by decide)]; exact b4.1 192 i (by decide) (by decide) (by decide) (fun h => absurd h (by decide))
    · rw [gI_nc (by decide), gI_nc (by decide)]; exact b4.1 193 i (by decide) (by decide) (by decide) (fun h => absurd h (by decide))
    · exact b4.2 194 i
    · rw [gI_nc (by decide), gI_nc (by decide)]; exact b4.1 195 i (by decide) (by decide) (by decide) (fun h => absurd h (by decide))
    · rw [gI_ni (by decide)]; exact b2
  have hS := g6.up (cd' := cdo σ' c) (rc' := rco (sI τ1 177 38 (S.length + 1))) (vLe.rf g9.1) (fun k _ k1 => a3.1 k k1) (fun k _ k1 => by rw [hrc]; exact b3.1 k (by omega))
  have hD := sg_count (sg := sg) (k := x) hS (by omega) x0 x1 a3.2.1 a3.2.2.2.1 a3.2.2.1 (by rw [hrc]; exact b3.2.1) (by rw [hrc]; exact b3.2.2.1) (by rw [hrc]; exact b3.2.2.2)
  have hb := hS.r_b
  refine ⟨σ', sI τ1 177 38 (S.length + 1), _, a1, ?_, ⟨a2, P, g5.up (vLe.rf g9.1) (fun k hk => a3.1 k (by omega)) (fun k hk => by rw [hrc]; exact b3.1 k (by omega)), hD, a4, fun _ => ⟨g7, ?_⟩, fun h => by omega, by omega, g9⟩, a5⟩
  · unfold f_188 j_188_30 j_188_46
    rw [zg_pos (by decide), if_neg (by decide), zg_pos (by decide), if_neg (by decide), zg_pos (by decide), if_pos rfl, hm, if_pos rfl, g3, show (S.length : Int) + 2 - 1 = S.length + 1 by omega, zg_pos ⟨by omega, by omega⟩, g3'', hxm, zb_of b1, m38, show (S.length : Int) + 2 - 1 = S.length + 1 by omega]
  · rw [gI_ni (by decide), b4.1 177 40 (by decide) (by decide) (by decide) (fun _ => by decide)]; exact g4
/-- ( ) and [ ] end -/
theorem bracketed (h : JB σ τ c fm v (f :: S) len len' r D tk) (htk : tk < 200) (hp : f.p = 0) (hk : (f.k = 35 ∧ 1 ≤ r) ∨ (f.k = 37 ∧ r = 0)) : JB (sI σ 10 8 (gI σ 10 8 - 1)) (sI τ 177 38 (gI τ 177 38 - 1)) c fm v S len len' r D (tk + 1) ∧ gI (sI σ 10 8 (gI σ 10 8 - 1)) 10 4 = gI σ 10 4 := by
  have hl0 := h.lift (by omega) (cd' := cdo σ c) (rc' := rco τ) (fun k _ _ => cdE.rf _ k) (fun k _ => rcE.rf _ k)
  obtain ⟨g1, g2, g3, g4, g5, g6, g7, g8, g9⟩ := id h
  have hFS := hl0.2.2.2.2.2.2.2.2.2.2.1 (by omega)
  obtain ⟨hce, hAW⟩ : (f.ce = f.ca ∧ f.re = f.ra) ∧ (f.k = 37 → AW fm S) := by
    rcases hFS.2 with h | h | h | h | h | h | h
    · omega
    · omega
    · omega
    · exact ⟨h.2.2, fun h37 => by omega⟩
    · exact ⟨h.2.2.1, fun _ => h.2.2.2⟩
    all_goals omega
  have hSg := (hl0.2.2.2.2.2.2.2.2.2.2.2).down g9.1
  rw [hce.1, hce.2, hl0.2.1, hl0.2.2.1] at hSg
  have hnJ : ¬ isJ f := fun h => by have := h.2; omega
  rw [jn_cons_N hnJ] at g6 g7
  have e1 : pnC (f :: S) = pnC S := by rw [pnC, if_neg (by omega)]; omega
  have e2 : pnM (f :: S) = pnM S := by rw [pnM, if_pos ⟨hp, by omega⟩]; omega
  rw [e1, e2] at g8
  obtain ⟨a1, a2, a3⟩ := c_pop g1
  obtain ⟨p1, p2, p3, p4, p5⟩ := m_popAll g2
  refine ⟨⟨a1, p1, by rw [a2, p2]; exact g3.1, by rw [a2, p2]; exact hSg, by rw [a3 6 (by decide)]; exact g5, fun h0 => ⟨hAW (by omega), by rw [p3 40 (by decide)]; exact (g6 h0).2⟩, fun h1 => ⟨by rw [p3 40 (by decide)]; exact (g7 h1).1, by rw [p4 195 _ (by decide)]; exact (g7 h1).2⟩, by omega, g9⟩, a3 4 (by decide)⟩
end SIZE
