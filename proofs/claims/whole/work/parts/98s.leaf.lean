/-! BOTH PARSERS: operands of one instruction. -/
/-- what both know of the relations -/
def WV (σ τ : zS) (v : Wd) (nm : Int → BitVec 64) : Prop := (0 ≤ v.R ∧ v.R ≤ 8) ∧ (gI σ 1 4 = v.R ∧ gI τ 177 10 = v.R) ∧ ∀ i, 0 ≤ i → i < v.R → (gJ σ 3 i = nm i ∧ gJ τ 179 i = nm i) ∧ (gI σ 4 i = v.ra i ∧ gI τ 180 i = v.ra i) ∧ 1 ≤ v.ra i ∧ v.ra i ≤ 3
section LEAF
variable {σ τ σ' τ' : zS} {c : Nat} {fm : Int} {v : Wd} {S : List Fr} {f : Fr} {len len' r tk pl k : Int} {D : Dn} {w : BitVec 64}
/-- the reference lays an operand and notes its arity -/
theorem m_leafA {what a ar : Int} (h : PMd τ fm S len') (ho : gI τ 177 40 = jn S) (l1 : len' < 320) (h1 : zR what) (h2 : zR a) (h3 : zR ar) : ∃ τ1, f_172 what a 0 τ = some ((), τ1) ∧ gI τ1 177 40 = jn S ∧ (∀ i, i ≠ 41 → gI τ1 177 i = gI τ 177 i) ∧ (∀ i, gI τ1 180 i = gI τ 180 i) ∧ PMd (sI (sI τ1 195 (jn S) ar) 177 40 (jn S + 1)) fm S (len' + 1) ∧ mAdd τ (sI (sI τ1 195 (jn S) ar) 177 40 (jn S + 1)) len' what a 0 ∧ gI (sI (sI τ1 195 (jn S) ar) 177 40 (jn S + 1)) 177 40 = jn S + 1 ∧ gI (sI (sI τ1 195 (jn S) ar) 177 40 (jn S + 1)) 195 (jn S) = ar := by
  have jb := jn_b S
  obtain ⟨τ1, a1, a2, a3, a4⟩ := m_lay (τ := τ) (len := len') (op := what) (a := a) (b := 0) h.2.2.2.1 h.2.2.2.2 l1 h1 h2 (by decide)
  have n : ∀ (x : Nat) (i : Int), x ≠ 177 → x ≠ 195 → gI (sI (sI τ1 195 (jn S) ar) 177 40 (jn S + 1)) x i = gI τ1 x i := fun x i h1 h2 => by rw [gI_nc h1, gI_nc h2]
  have m : ∀ i : Int, i ≠ 40 → gI (sI (sI τ1 195 (jn S) ar) 177 40 (jn S + 1)) 177 i = gI τ1 177 i := fun i hi => by rw [gI_ni hi, gI_nc (by decide)]
  have P1 := h.same a4 a2 (by have := h.2.2.2.2; omega)
  have h20 := h.1.2
  refine ⟨τ1, a1, by rw [a4.1 177 40 (by decide) (by decide) (by decide) (fun _ => by decide)]; exact ho, fun i hi => a4.1 177 i (by decide) (by decide) (by decide) (fun _ => hi), fun i => a4.1 180 i (by decide) (by decide) (by decide) (fun h => absurd h (by decide)), P1.keep (m 38 (by decide)) (n 189 0 (by decide) (by decide)) (fun i _ _ => ⟨n 189 i (by decide) (by decide), n 190 i (by decide) (by decide), n 191 i (by decide) (by decide), n 192 i (by decide) (by decide), n 193 i (by decide) (by decide), rfl⟩) (fun i i0 i1 => ?_) (by rw [m 41 (by decide)]; exact a2) (by have := h.2.2.2.2; omega), ?_, gI_same ⟨by omega, by omega⟩, ?_⟩
  · rw [gI_nc (by decide), gI_ni (by omega)]
  · unfold mAdd at a3 ⊢
    rw [show rco (sI (sI τ1 195 (jn S) ar) 177 40 (jn S + 1)) = rco τ1 from rco_eq (fun i => n 184 i (by decide) (by decide)) (fun i => n 185 i (by decide) (by decide)) (fun i => n 186 i (by decide) (by decide))]
    exact a3
  · rw [gI_nc (by decide), gI_same h3]
/-- an operand of one instruction, in both -/
theorem leafed {op arg ar what a : Int} (h : JA σ τ c fm v S len len' tk) (htk : tk < 200) (h1 : zR op) (h2 : zR arg) (r0 : 0 ≤ ar) (r3 : ar ≤ 3) (hP : PMd τ' fm S (len' + 1)) (hm : mAdd τ τ' len' what a 0) (h0 : ar = 0 → AW fm S ∧ gI τ' 177 40 = jn S) (hr : 1 ≤ ar → gI τ' 177 40 = jn S + 1 ∧ gI τ' 195 (jn S) = ar) (hSg : ∀ cd' rc', cd'.op len = op → cd'.arg len = arg → rc'.1 len' = what → rc'.2.1 len' = a → Sg (vv v S) cd' rc' S.length (Lv S) len (len + 1) len' (len' + 1) ar D) : ∃ σ', f_79 op arg ar σ = some ((), σ') ∧ JB σ' τ' c fm v S (len + 1) (len' + 1) ar D (tk + 1) ∧ gI σ' 10 4 = 4 := by
  obtain ⟨g1, g2, g3, g4, g5, g6, g7, g8⟩ := h
  have hpn := pn_b S
  obtain ⟨σ', a1, a2, a3, a4, a5⟩ := c_operand (op := op) (arg := arg) (ar := ar) g1 (by omega) h1 h2 ⟨by omega, by omega⟩
  refine ⟨σ', a1, ⟨a2, hP, g3.up (vLe.rf g7.1) (fun k hk => a3.1 k (by omega)) (fun k hk => hm.1 k (by omega)), ?_, a4, h0, hr, by omega, g7⟩, a5⟩
  rw [← g4.1, ← g4.2]
  exact hSg _ _ a3.2.1 a3.2.2.1 hm.2.1 hm.2.2.1
/-- none, univ, iden -/
theorem leaf_const (h : JA σ τ c fm v S len len' tk) (htk : tk < 200) (hk : k = 15 ∨ k = 16 ∨ k = 17) (hkm : gI τ 177 27 = k + 6) : ∃ σ' τ' r D, f_79 k 0 (if k = 17 then 2 else 1) σ = some ((), σ') ∧ j_174_99 τ = some (2, τ') ∧ JB σ' τ' c fm v S (len + 1) (len' + 1) r D (tk + 1) ∧ 1 ≤ r ∧ gI σ' 10 4 = 4 := by
  obtain ⟨g1, g2, g3, g4, g5, g6, g7, g8⟩ := id h
  have hpn := pn_b S
  have hpos := g3.pos
  have jb := jn_b S
  have hl20 := g2.1.2
  obtain ⟨ar, har⟩ : ∃ ar : Int, ar = if k = 17 then 2 else 1 := ⟨_, rfl⟩
  have harb : 1 ≤ ar ∧ ar ≤ 2 := by rw [har]; split <;> omega
  obtain ⟨τ1, a1, a2, a3, a4, a5, a6, a7, a8⟩ := m_leafA (what := k + 6) (a := 0) (ar := ar) g2 g5 (by omega) ⟨by omega, by omega⟩ (by decide) ⟨by omega, by omega⟩
  have hex : ∃ D, ∀ cd' rc', cd'.op len = k → cd'.arg len = 0 → rc'.1 len' = k + 6 → rc'.2.1 len' = 0 → Sg (vv v S) cd' rc' S.length (Lv S) len (len + 1) len' (len' + 1) ar D := by
    rcases hk with e | e | e
    · rw [e] at har ⊢
      rw [har]
      exact ⟨_, fun cd' rc' x1 _ x3 _ => sg_const (x := false) g8 (by omega) (by omega) (Or.inl ⟨rfl, rfl, rfl⟩) x1 x3⟩
    · rw [e] at har ⊢
      rw [har]
      exact ⟨_, fun cd' rc' x1 _ x3 _ => sg_const (x := true) g8 (by omega) (by omega) (Or.inr (Or.inl ⟨rfl, rfl, rfl⟩)) x1 x3⟩
    · rw [e] at har ⊢
      rw [har]
      exact ⟨_, fun cd' rc' x1 _ x3 _ => sg_iden g8 (by omega) (by omega) x1 x3⟩
  obtain ⟨D, hD⟩ := hex
  obtain ⟨σ', b1, b2, b3⟩ := leafed h htk ⟨by omega, by omega⟩ (by decide) (by omega) (by omega) a5 a6 (fun h => by omega) (fun _ => ⟨a7, a8⟩) hD
  refine ⟨σ', _, ar, D, by rw [← har]; exact b1, ?_, b2, harb.1, b3⟩
  unfold j_174_99
  rw [hkm, zb_of a1, a3 27 (by decide), hkm, a2]
  by_cases h17 : k = 17
  · rw [if_pos h17] at har
    rw [if_pos (by omega), zg_pos ⟨by omega, by omega⟩, har]
  · rw [if_neg h17] at har
    rw [if_neg (by omega), zg_pos ⟨by omega, by omega⟩, har]
/-- true, false -/
theorem leaf_truth (h : JA σ τ c fm v S len len' tk) (htk : tk < 200) (hA : AW fm S) (hk : k = 18 ∨ k = 19) : ∃ σ' τ' D, f_79 k 0 0 σ = some ((), σ') ∧ f_172 (k + 6) 0 0 τ = some ((), τ') ∧ JB σ' τ' c fm v S (len + 1) (len' + 1) 0 D (tk + 1) ∧ gI σ' 10 4 = 4 := by
  obtain ⟨g1, g2, g3, g4, g5, g6, g7, g8⟩ := id h
  have hpn := pn_b S
  have hpos := g3.pos
  obtain ⟨τ1, a1, a2, a3, a4⟩ := m_lay (τ := τ) (len := len') (op := k + 6) (a := 0) (b := 0) g2.2.2.2.1 g2.2.2.2.2 (by omega) ⟨by omega, by omega⟩ (by decide) (by decide)
  have hex : ∃ D, ∀ cd' rc', cd'.op len = k → cd'.arg len = 0 → rc'.1 len' = k + 6 → rc'.2.1 len' = 0 → Sg (vv v S) cd' rc' S.length (Lv S) len (len + 1) len' (len' + 1) 0 D := by
    rcases hk with e | e
    · rw [e]
      exact ⟨_, fun cd' rc' x1 _ x3 _ => sg_const (x := true) g8 (by omega) (by omega) (Or.inr (Or.inr (Or.inl ⟨rfl, rfl, rfl⟩))) x1 x3⟩
    · rw [e]
      exact ⟨_, fun cd' rc' x1 _ x3 _ => sg_const (x := false) g8 (by omega) (by omega) (Or.inr (Or.inr (Or.inr ⟨rfl, rfl, rfl⟩))) x1 x3⟩
  obtain ⟨D, hD⟩ := hex
  have e40 : gI τ1 177 40 = jn S := by rw [a4.1 177 40 (by decide) (by decide) (by decide) (fun _ => by decide)]; exact g5
  obtain ⟨σ', b1, b2, b3⟩ := leafed h htk ⟨by omega, by omega⟩ (by decide) (by decide) (by decide) (g2.same a4 a2 (by have := g2.2.2.2.2; omega)) a3 (fun _ => ⟨hA, e40⟩) (fun h => by omega) hD
  exact ⟨σ', τ1, D, b1, a1, b2, b3⟩
/-- the innermost variable of a name -/
def lk : List Fr → BitVec 64 → Int
  | [], _ => -1
  | f :: S, w => if f.p = 2 ∧ f.nm = w then Lv S else lk S w
theorem lk_b (w : BitVec 64) : ∀ S : List Fr, -1 ≤ lk S w ∧ lk S w < Lv S ∨ (lk S w = -1)
  | [] => Or.inr rfl
  | f :: S => by
    have := lk_b w S
    rw [lk, Lv]
    have hb := Lv_b S
    by_cases h : f.p = 2 ∧ f.nm = w
    · rw [if_pos h, if_pos h.1]; omega
    · rw [if_neg h]; split <;> omega
theorem lk_slo {w : BitVec 64} (h : f.p = 2 ∧ f.nm = w) : slo (f :: S) (lk (f :: S) w) = S.length := by
  rw [lk, if_pos h, slo]
  dsimp only
  rw [if_pos ⟨h.1, rfl⟩]
theorem lk_slo2 {w : BitVec 64} (h : ¬ (f.p = 2 ∧ f.nm = w)) (h0 : 0 ≤ lk S w) : slo (f :: S) (lk (f :: S) w) = slo S (lk S w) := by
  rw [lk, if_neg h, slo]
  dsimp only
  rw [if_neg (fun h2 => by rcases lk_b w S with h3 | h3 <;> omega)]
/-- the class looks for a variable -/
theorem c_lookup {w : BitVec 64} (hw : gJ σ 8 6 = w) : ∀ S : List Fr, CFr σ S → S.length ≤ 20 → ∀ n : Nat, S.length + 1 ≤ n → (lk S w = -1 → zlp (fun (q : Int × zS) => b_78_7 q.1 q.2) n ((S.length : Int) - 1, σ) = some (.inl σ)) ∧ (0 ≤ lk S w → ∀ σ', f_79 43 (slo S (lk S w)) 1 σ = some ((), σ') → zlp (fun (q : Int × zS) => b_78_7 q.1 q.2) n ((S.length : Int) - 1, σ) = some (.inr ((), σ')))
  | [], _, _, n, hn => by
    obtain ⟨n', rfl⟩ : ∃ n', n = n' + 1 := ⟨n - 1, by omega⟩
    refine ⟨fun _ => zlp_r ?_, fun h => absurd h (by show ¬ (0 : Int) ≤ -1; decide)⟩
    show b_78_7 (((List.length ([] : List Fr) : Nat) : Int) - 1) σ = _
    unfold b_78_7
    rw [zg_pos (by decide), if_pos (by decide)]
  | f :: S, ⟨hC, ⟨_, h2, _⟩, hnm⟩, hS, n, hn => by
    rw [List.length_cons] at hS hn
    obtain ⟨n', rfl⟩ : ∃ n', n = n' + 1 := ⟨n - 1, by omega⟩
    have ih := c_lookup hw S hC (by omega) n' (by omega)
    have e : ((f :: S).length : Int) - 1 = S.length := by rw [List.length_cons]; omega
    rw [e]
    by_cases hm : f.p = 2 ∧ f.nm = w
    · have hb := Lv_b S
      refine ⟨fun h => ?_, fun h σ' hσ => ?_⟩
      · rw [lk, if_pos hm] at h; omega
      · rw [lk_slo hm] at hσ
        refine zlp_r ?_
        show b_78_7 S.length σ = _
        unfold b_78_7
        rw [zg_pos ⟨by omega, by omega⟩, if_neg (by omega), zg_pos ⟨by omega, by omega⟩, h2, if_pos hm.1, hnm (by omega), hw, if_pos hm.2, zb_of hσ]
    · have step : b_78_7 S.length σ = some (.inl ((S.length : Int) - 1, σ)) := by
        unfold b_78_7
        rw [zg_pos ⟨by omega, by omega⟩, if_neg (by omega), zg_pos ⟨by omega, by omega⟩, h2]
        by_cases hp : f.p = 2
        · rw [if_pos hp, hnm (by omega), hw, if_neg (fun h => hm ⟨hp, h⟩)]
          rfl
        · rw [if_neg hp]
          rfl
      have hl : lk (f :: S) w = lk S w := by rw [lk, if_neg hm]
      refine ⟨fun h => ?_, fun h σ' hσ => ?_⟩
      · rw [zlp_l (B := fun (q : Int × zS) => b_78_7 q.1 q.2) (s := ((S.length : Int), σ)) (s' := ((S.length : Int) - 1, σ)) step]
        exact ih.1 (by rw [← hl]; exact h)
      · rw [zlp_l (B := fun (q : Int × zS) => b_78_7 q.1 q.2) (s := ((S.length : Int), σ)) (s' := ((S.length : Int) - 1, σ)) step]
        rw [hl] at h
        rw [lk_slo2 hm h] at hσ
        exact ih.2 h σ' hσ
theorem mkd_body {rc : Rc} {cd : Cd} (h : FS v cd rc fm S f) : (mkd f = 63 ∨ mkd f = 65) ↔ f.p = 2 := by
  have hk : f.p = 1 ∨ f.p = 2 ∨ (f.p = 0 ∧ 5 ≤ f.k ∧ f.k ≤ 37) := by
    rcases h.2 with h | h | h | h | h | h | h <;> omega
  unfold mkd km
  rcases hk with hk | hk | hk
  · rw [if_pos hk]
    split <;> omega
  · rw [if_neg (by omega), if_pos hk]
    split <;> omega
  · rw [if_neg (by omega), if_neg (by omega)]
    repeat' split
    all_goals omega
/-- the reference looks for a variable -/
theorem m_lookup {w : BitVec 64} {cd : Cd} {rc : Rc} (hw : gJ τ 177 29 = w) (h0 : gI τ 189 0 = (if fm = 1 then 60 else 61)) : ∀ S : List Fr, MFr τ S → SFr v cd rc fm S → S.length ≤ 20 → (S.length : Int) + 1 ≤ gI τ 177 38 → zrch (fun (q : Int × Int × Int) => b_175_6 τ q.1 q.2.1 q.2.2) (S.length + 1) (0, -1, 0) (Lv S, lk S w, (S.length : Int) + 1)
  | [], _, _, _, h38 => by
    refine zrch.one ?_
    show b_175_6 τ 0 (-1) 0 = _
    have : (0 : Int) < gI τ 177 38 := by
      have : ((List.length ([] : List Fr) : Nat) : Int) + 1 ≤ gI τ 177 38 := h38
      have e : ((List.length ([] : List Fr) : Nat) : Int) = 0 := rfl
      omega
    unfold b_175_6
    rw [zg_pos (by decide), if_pos this, zg_pos (by decide), h0]
    by_cases hf : fm = 1
    · rw [if_pos hf, if_neg (by decide), if_neg (by decide)]
      rfl
    · rw [if_neg hf, if_neg (by decide), if_neg (by decide)]
      rfl
  | f :: S, ⟨hC, ⟨h1, _⟩, hnm⟩, ⟨hF, hFS⟩, hS, h38 => by
    rw [List.length_cons] at hS
    have e : ((f :: S).length : Int) = S.length + 1 := by rw [List.length_cons]; omega
    rw [e] at h38
    have ih := m_lookup hw h0 S hC hF (by omega) (by omega)
    rw [List.length_cons]
    refine ih.tr (zrch.one ?_)
    show b_175_6 τ (Lv S) (lk S w) (S.length + 1) = _
    have hmb := mkd_body hFS
    have hb := Lv_b S
    unfold b_175_6
    rw [zg_pos ⟨by omega, by omega⟩, if_pos (by omega), zg_pos ⟨by omega, by omega⟩, h1]
    have hj : f.p = 2 → j_175_6_36 (Lv S) (lk S w) (S.length + 1) τ = some (.inl (Lv (f :: S), lk (f :: S) w, ((S.length + 1 : Nat) : Int) + 1)) := by
      intro hp
      unfold j_175_6_36
      rw [zg_pos ⟨by omega, by omega⟩, hnm (by omega), hw, Lv, if_pos hp, lk]
      by_cases hn : f.nm = w
      · rw [if_pos hn, if_pos ⟨hp, hn⟩]
        rfl
      · rw [if_neg hn, if_neg (fun h => hn h.2)]
        rfl
    by_cases h63 : mkd f = 63
    · rw [if_pos h63]
      exact hj (hmb.mp (Or.inl h63))
    · rw [if_neg h63]
      by_cases h65 : mkd f = 65
      · rw [if_pos h65]
        exact hj (hmb.mp (Or.inr h65))
      · have hp : f.p ≠ 2 := fun hp => by rcases hmb.mpr hp with h | h <;> omega
        rw [if_neg h65, Lv, if_neg hp, lk, if_neg (fun h => hp h.1)]
        simp
end LEAF
