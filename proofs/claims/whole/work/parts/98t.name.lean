/-! BOTH PARSERS: a name as an operand. -/
theorem c_numberOf' {s : zS} (r0 : 0 ≤ gI s 1 4) (r8 : gI s 1 4 ≤ 8) (w : BitVec 64) : ∃ r, f_48 w s = some r ∧ ((0 ≤ r ∧ r < gI s 1 4 ∧ gJ s 3 r = w ∧ ∀ i, 0 ≤ i → i < r → gJ s 3 i ≠ w) ∨ (r = -1 ∧ ∀ i, 0 ≤ i → i < gI s 1 4 → gJ s 3 i ≠ w)) := by
  have hloop := zlp_F (B := fun (q : Int) => b_48_2 w s q) (I := fun q => 0 ≤ q ∧ q ≤ gI s 1 4 ∧ ∀ i, 0 ≤ i → i < q → gJ s 3 i ≠ w) (μ := fun q => (gI s 1 4 - q).toNat) (Q := fun t => Sum.elim (fun _ => ∀ i, 0 ≤ i → i < gI s 1 4 → gJ s 3 i ≠ w) (fun r => 0 ≤ r ∧ r < gI s 1 4 ∧ gJ s 3 r = w ∧ ∀ i, 0 ≤ i → i < r → gJ s 3 i ≠ w) t) (by
    rintro i ⟨a1, a2, a3⟩
    unfold b_48_2
    rw [zg_pos ⟨by omega, by omega⟩]
    by_cases hc : i < gI s 1 4
    · rw [if_pos hc, zg_pos ⟨by omega, by omega⟩]
      by_cases he : gJ s 3 i = w
      · right
        rw [if_pos he]
        exact ⟨_, rfl, a1, hc, he, a3⟩
      · left
        rw [if_neg he]
        refine ⟨_, rfl, ⟨by omega, by omega, fun j hj hj2 => ?_⟩, by omega⟩
        by_cases e : j = i
        · rw [e]; exact he
        · exact a3 j hj (by omega)
    · right
      rw [if_neg hc]
      exact ⟨_, rfl, fun j hj hj2 => a3 j hj (by omega)⟩) (s := 0) ⟨by decide, r0, fun i hi hi2 => by omega⟩ (by omega)
  obtain ⟨t, ht, hq⟩ := hloop
  rcases t with u | r
  · exact ⟨-1, by unfold f_48; rw [zo_of ht]; rfl, Or.inr ⟨rfl, hq⟩⟩
  · exact ⟨r, by unfold f_48; rw [zo_of ht]; rfl, Or.inl hq⟩
section NAME
variable {σ τ σ' τ' : zS} {c : Nat} {fm : Int} {v : Wd} {S : List Fr} {len len' r tk pl : Int} {D : Dn} {w : BitVec 64} {nm : Int → BitVec 64}
theorem m_relsteps (hR : gI τ 177 10 ≤ 8) (hw : gJ τ 177 29 = w) : ∀ k : Nat, (k : Int) ≤ gI τ 177 10 → (∀ i, 0 ≤ i → i < (k : Int) → gJ τ 179 i ≠ w) → zrch (fun (q : Int × zS) => b_175_101 q.1 q.2) k (0, τ) ((k : Int), τ)
  | 0, _, _ => zrch.rf _
  | k + 1, hk, hn => by
    refine (m_relsteps hR hw k (by omega) (fun i i0 i1 => hn i i0 (by omega))).tr (zrch.one ?_)
    show b_175_101 k τ = _
    unfold b_175_101
    rw [zg_pos ⟨by omega, by omega⟩, if_pos (by omega), zg_pos ⟨by omega, by omega⟩, hw, if_neg (hn k (by omega) (by omega))]
    rfl
theorem leaf_name (h : JA σ τ c fm v S len len' tk) (htk : tk < 200) (hV : WV σ τ v nm) (hwc : gJ σ 8 6 = w) (hwm : gJ τ 177 29 = w) (hpc : gI σ 8 5 = pl) : (∃ σ' τ' r D, f_78 σ = some ((), σ') ∧ f_175 τ = some (1, τ') ∧ JB σ' τ' c fm v S (len + 1) (len' + 1) r D (tk + 1) ∧ 1 ≤ r ∧ gI σ' 10 4 = 4) ∨ (∃ σ' τ', f_78 σ = some ((), σ') ∧ f_175 τ = some (0, τ') ∧ gI σ' 10 15 = 4 ∧ gI σ' 10 16 = pl) := by
  obtain ⟨g1, g2, g3, g4, g5, g6, g7, g8⟩ := id h
  have hpn := pn_b S
  have hpos := g3.pos
  have jb := jn_b S
  have hl20 := g2.1.2
  have h8 := g1.2.2.2.1.1
  have hF := zF_big
  have hlook := c_lookup hwc S g1.2.2.2.2.1 hl20 zF (by omega)
  have hm := m_lookup hwm g2.2.1 S g2.2.2.1 g3 hl20 (by rw [g2.1.1]; omega)
  have hmend : b_175_6 τ (Lv S) (lk S w) ((S.length : Int) + 1) = some (.inr (lk S w)) := by
    unfold b_175_6
    rw [zg_pos ⟨by omega, by omega⟩, g2.1.1, if_neg (by omega)]
  have hme := hm.ends (n := zF) hmend (by omega)
  have LvB := Lv_b S
  by_cases hlk : 0 ≤ lk S w
  · left
    have hlt : lk S w < Lv S := by rcases lk_b w S with h | h <;> omega
    have hsb := slo_b S (lk S w) hlk hlt
    obtain ⟨τ1, a1, a2, a3, a4, a5, a6, a7, a8⟩ := m_leafA (what := 2) (a := lk S w) (ar := 1) g2 g5 (by omega) (by decide) ⟨by omega, by omega⟩ (by decide)
    obtain ⟨σ', b1, b2, b3⟩ := leafed (op := 43) (arg := slo S (lk S w)) (ar := 1) (D := fun e _ t => decide (t = e (lk S w))) h htk (by decide) ⟨by omega, by omega⟩ (by decide) (by decide) a5 a6 (fun h => by omega) (fun _ => ⟨a7, a8⟩) (fun cd' rc' x1 x2 x3 x4 => sg_var (v := vv v S) g8 (by omega) (by omega) hlk hlt hsb.1 (by show slo S (lk S w) < 20; omega) x1 x2 x3 x4)
    refine ⟨σ', _, 1, _, ?_, ?_, b2, by decide, b3⟩
    · unfold f_78
      rw [h8, zo_of (hlook.2 hlk σ' b1)]
      rfl
    · unfold f_175
      rw [zo_of hme, zg_pos ⟨by omega, by omega⟩, if_neg (by omega), zb_of a1, a2, zg_pos ⟨by omega, by omega⟩]
  · have hl1 : lk S w = -1 := by rcases lk_b w S with h | h <;> omega
    obtain ⟨⟨R0, R8⟩, ⟨Rc, Rm⟩, hrel⟩ := hV
    obtain ⟨q, e48, hq⟩ := c_numberOf' (s := σ) (by omega) (by omega) w
    rw [Rc] at hq
    have e78 : f_78 σ = zg (zR q) (if q = -1 then (zb (f_74 4 (gI σ 8 5) σ) (fun _ s11 => some ((), s11))) else (zg (0 ≤ q ∧ q < 8) (zb (f_79 44 q (gI σ 4 q) σ) (fun _ s15 => some ((), s15))))) := by
      unfold f_78
      rw [h8, zo_of (hlook.1 hl1)]
      dsimp only [Sum.elim]
      rw [hwc, zo_of e48]
    rw [hl1] at hme
    have e175 : f_175 τ = zo (zlp (fun (q : Int × zS) => b_175_101 q.1 q.2) zF (0, τ)) (fun e5 => Sum.elim (fun e7 => some (0, e7)) (fun q8 => some q8) e5) := by
      unfold f_175
      rw [zo_of hme, zg_pos (by decide), if_pos rfl]
    rw [e78, e175]
    rcases hq with ⟨q0, q1, q2, q3⟩ | ⟨q1, q2⟩
    · left
      obtain ⟨⟨n1, n2⟩, ⟨r1, r2⟩, r3, r4⟩ := hrel q q0 q1
      obtain ⟨τ1, a1, a2, a3, a4, a5, a6, a7, a8⟩ := m_leafA (what := 1) (a := q) (ar := v.ra q) g2 g5 (by omega) (by decide) ⟨by omega, by omega⟩ ⟨by omega, by omega⟩
      obtain ⟨σ', b1, b2, b3⟩ := leafed (op := 44) (arg := q) (ar := v.ra q) (D := fun _ A t => A (125 * q + t)) h htk (by decide) ⟨by omega, by omega⟩ (by omega) r4 a5 a6 (fun h => by omega) (fun _ => ⟨a7, a8⟩) (fun cd' rc' x1 x2 x3 x4 => sg_rel (v := vv v S) g8 (by omega) (by omega) q0 q1 rfl (by show 0 ≤ v.ra q; omega) r4 x1 x2 x3 x4)
      have hst := m_relsteps (τ := τ) (w := w) (by omega) hwm q.toNat (by omega) (fun i i0 i1 => by
        have := (hrel i i0 (by omega)).1
        rw [this.2, ← this.1]
        exact q3 i i0 (by omega))
      rw [show ((q.toNat : Nat) : Int) = q by omega] at hst
      have hend : b_175_101 q τ = some (.inr (.inr (1, sI (sI τ1 195 (jn S) (v.ra q)) 177 40 (jn S + 1)))) := by
        unfold b_175_101
        rw [zg_pos ⟨by omega, by omega⟩, Rm, if_pos q1, zg_pos ⟨by omega, by omega⟩, n2, ← n1, q2, hwm, if_pos rfl, zb_of a1, a2, zg_pos ⟨by omega, by omega⟩, a4 q, r2]
      refine ⟨σ', _, v.ra q, _, ?_, ?_, b2, r3, b3⟩
      · rw [zg_pos ⟨by omega, by omega⟩, if_neg (by omega), zg_pos ⟨q0, by omega⟩, r1, zb_of b1]
      · rw [zo_of (hst.ends (n := zF) hend (by omega))]
        rfl
    · right
      obtain ⟨σ', c1, c2, c3⟩ := c_refuse (σ := σ) (why := 4) (pl := pl) (by decide) (by rw [← hpc]; exact zR_gI _ _ _)
      have hst := m_relsteps (τ := τ) (w := w) (by omega) hwm v.R.toNat (by omega) (fun i i0 i1 => by
        have := (hrel i i0 (by omega)).1
        rw [this.2, ← this.1]
        exact q2 i i0 (by omega))
      rw [show ((v.R.toNat : Nat) : Int) = v.R by omega] at hst
      have hend : b_175_101 v.R τ = some (.inr (.inl τ)) := by
        unfold b_175_101
        rw [zg_pos ⟨by omega, by omega⟩, Rm, if_neg (by omega)]
      refine ⟨σ', τ, ?_, ?_, c2, c3⟩
      · rw [q1, zg_pos (by decide), if_pos rfl, hpc, zb_of c1]
      · rw [zo_of (hst.ends (n := zF) hend (by omega))]
        rfl
end NAME
