/-! TOKENS: the class. -/
theorem CT.of {s t : zS} {B : Int → Int} {l : Int} (h : CT s B l) (e1 : gI t 8 1 = gI s 8 1) (e2 : ∀ i, gI t 9 i = gI s 9 i) : CT t B l := ⟨by rw [e1]; exact h.1, fun i i0 i1 => by rw [e2]; exact h.2 i i0 i1⟩
theorem MT.of {s t : zS} {B : Int → Int} {l : Int} (h : MT s B l) (e1 : gI t 177 3 = gI s 177 3) (e2 : ∀ i, gI t 178 i = gI s 178 i) : MT t B l := ⟨by rw [e1]; exact h.1, fun i i0 i1 => by rw [e2]; exact h.2 i i0 i1⟩
theorem znm_b {B : Int → Int} {i : Int} : ∀ n : Nat, (∀ k, i ≤ k → k < i + n → zdig (B k)) → 0 ≤ znm B i n ∧ znm B i n < 10 ^ n
  | 0, _ => ⟨Int.le_refl _, by show (0 : Int) < 10 ^ 0; decide⟩
  | n + 1, h => by
    obtain ⟨h1, h2⟩ := znm_b n (fun k k0 k1 => h k k0 (by omega))
    have h3 := h (i + n) (by omega) (by omega)
    rw [znm, Int.pow_succ]
    omega
theorem znm_b3 {B : Int → Int} {i : Int} {n : Nat} (hn : n ≤ 3) (h : ∀ k, i ≤ k → k < i + n → zdig (B k)) : 0 ≤ znm B i n ∧ znm B i n < 1000 := by
  obtain ⟨h1, h2⟩ := znm_b n h
  refine ⟨h1, ?_⟩
  have : n = 0 ∨ n = 1 ∨ n = 2 ∨ n = 3 := by omega
  rcases this with rfl | rfl | rfl | rfl <;> omega
theorem c_isDigit {b : Int} (h : zR b) : f_20 b = some (if zdig b then 1 else 0) := by
  unfold f_20
  rw [zg_pos h]
  by_cases h1 : b < 48
  · rw [if_pos h1, if_neg (by omega)]
  · rw [if_neg h1]
    by_cases h2 : 57 < b
    · rw [if_pos h2, if_neg (by omega)]
    · rw [if_neg h2, if_pos (by omega)]
theorem m_isDigit {b : Int} (h : zR b) : f_162 b = some (if zdig b then 1 else 0) := c_isDigit h
theorem f243_8 : f_243 = some 8 := by decide
theorem f245_a : f_245 0 = some 45 ∧ f_245 1 = some 62 ∧ f_245 2 = some 43 ∧ f_245 3 = some 43 ∧ f_245 4 = some 60 ∧ f_245 5 = some 58 ∧ f_245 6 = some 58 ∧ f_245 7 = some 62 := by decide
theorem c_pair1 {v1 t0 v3 x y : Int} {s : zS} (h1 : zR v1) (h2 : zR t0) (h30 : 0 ≤ v3) (h36 : v3 ≤ 6) (hx : f_245 v3 = some x) (hy : f_245 (v3 + 1) = some y) (hxR : zR x) (hyR : zR y) : b_68_41 v1 t0 v3 s = if v1 = x ∧ t0 = y then some (.inr (.inr ((), sI (sI s 8 4 (20 + v3 / 2)) 8 2 (gI s 8 2 + 2)))) else some (.inl (v3 + 2, s)) := by
  unfold b_68_41
  rw [zo_of f243_8, zg_pos ⟨by omega, by omega⟩, zg_pos (by decide), if_pos (by omega), zo_of hx, zg_pos hxR, zg_pos h1]
  by_cases ha : x = v1
  · rw [if_pos ha, zo_of hy, zg_pos hyR, zg_pos h2]
    by_cases hb : y = t0
    · rw [if_pos hb, zg_pos ⟨h30, ⟨by omega, by omega⟩, by decide, by decide⟩, if_pos ⟨ha.symm, hb.symm⟩]
    · rw [if_neg hb, if_neg (fun h => hb h.2.symm)]
  · rw [if_neg ha, if_neg (fun h => ha h.1.symm)]
theorem c_pairs {v1 t0 : Int} {s : zS} (h1 : zR v1) (h2 : zR t0) : zlp (fun (q : Int × zS) => b_68_41 v1 t0 q.1 q.2) zF (0, s) = some (if psk v1 t0 = 0 then .inl s else .inr ((), sI (sI s 8 4 (psk v1 t0)) 8 2 (gI s 8 2 + 2))) := by
  obtain ⟨f0, f1, f2, f3, f4, f5, f6, f7⟩ := f245_a
  have e0 := c_pair1 (s := s) (v3 := 0) h1 h2 (by decide) (by decide) f0 f1 (by decide) (by decide)
  have e2 := c_pair1 (s := s) (v3 := 2) h1 h2 (by decide) (by decide) f2 f3 (by decide) (by decide)
  have e4 := c_pair1 (s := s) (v3 := 4) h1 h2 (by decide) (by decide) f4 f5 (by decide) (by decide)
  have e6 := c_pair1 (s := s) (v3 := 6) h1 h2 (by decide) (by decide) f6 f7 (by decide) (by decide)
  have e8 : b_68_41 v1 t0 8 s = some (.inr (.inl s)) := by
    unfold b_68_41
    rw [zo_of f243_8, zg_pos (by decide), zg_pos (by decide), if_neg (by decide)]
  have hF := zF_big
  unfold psk
  by_cases c0 : v1 = 45 ∧ t0 = 62
  · rw [if_pos c0] at e0
    rw [if_pos c0, if_neg (by decide)]
    exact (zrch.rf (B := fun (q : Int × zS) => b_68_41 v1 t0 q.1 q.2) (0, s)).ends e0 (by omega)
  · rw [if_neg c0] at e0
    rw [if_neg c0]
    have r2 := zrch.one (B := fun (q : Int × zS) => b_68_41 v1 t0 q.1 q.2) (q := (0, s)) e0
    by_cases c2 : v1 = 43 ∧ t0 = 43
    · rw [if_pos c2] at e2
      rw [if_pos c2, if_neg (by decide)]
      exact r2.ends e2 (by omega)
    · rw [if_neg c2] at e2
      rw [if_neg c2]
      have r4 := r2.tr (zrch.one (B := fun (q : Int × zS) => b_68_41 v1 t0 q.1 q.2) (q := (2, s)) e2)
      by_cases c4 : v1 = 60 ∧ t0 = 58
      · rw [if_pos c4] at e4
        rw [if_pos c4, if_neg (by decide)]
        exact r4.ends e4 (by omega)
      · rw [if_neg c4] at e4
        rw [if_neg c4]
        have r6 := r4.tr (zrch.one (B := fun (q : Int × zS) => b_68_41 v1 t0 q.1 q.2) (q := (4, s)) e4)
        by_cases c6 : v1 = 58 ∧ t0 = 62
        · rw [if_pos c6] at e6
          rw [if_pos c6, if_neg (by decide)]
          exact r6.ends e6 (by omega)
        · rw [if_neg c6] at e6
          rw [if_neg c6, if_pos rfl]
          have r8 := r6.tr (zrch.one (B := fun (q : Int × zS) => b_68_41 v1 t0 q.1 q.2) (q := (6, s)) e6)
          exact r8.ends e8 (by omega)
theorem zswl_df : ∀ (ls : List (Int × Nat)) (d : Nat) (a : Int), (∀ p ∈ ls, a ≠ p.1) → zswl ls d a = d
  | [], d, a, _ => rfl
  | (k, t) :: ls, d, a, h => by
    rw [zswl, if_neg (h (k, t) (List.mem_cons_self ..))]
    exact zswl_df ls d a (fun p hp => h p (List.mem_cons_of_mem _ hp))
theorem sg_tab : ∀ i : Fin 19, f_164 (zst1 (i.val : Int)) = some (34 + (i.val : Int)) ∧ 0 ≤ zst1 (i.val : Int) ∧ zst1 (i.val : Int) < 128 := by decide
theorem sg_keys : ∀ p ∈ [(35, 185), (38, 170), (40, 197), (41, 200), (42, 182), (43, 164), (45, 167), (46, 173), (58, 215), (60, 191), (61, 188), (62, 194), (91, 203), (93, 206), (94, 179), (123, 209), (124, 218), (125, 212), ((126, 176) : Int × Nat)], ∃ i : Fin 19, zst1 (i.val : Int) = p.1 := by decide
theorem sg_none {b : Int} (h : zR b) (hn : ∀ i, 0 ≤ i → i < 19 → zst1 i ≠ b) : f_164 b = some 3 := by
  have : t_164_1 b = 221 := zswl_df _ _ _ (fun p hp => by
    obtain ⟨i, hi⟩ := sg_keys p hp
    intro e
    exact hn i.val (by omega) (by have := i.isLt; omega) (by rw [e, hi]))
  unfold f_164
  rw [zg_pos h, this]
  rfl
theorem bmod_b {b : Int} (h0 : 0 ≤ b) (h : b ≤ 255) : Int.bmod (b % 65536) 256 = if b < 128 then b else b - 256 := by
  have e : b % 65536 = b := by omega
  rw [e]
  unfold Int.bmod
  dsimp only
  split <;> split <;> omega
/-- one sign -/
theorem c_sign {b : Int} {s : zS} (h0 : 0 ≤ b) (h : b ≤ 255) : ∃ r, f_254 (b % 65536) s = some r ∧ zR r ∧ ((r < 0 ∧ sgk b = 1 ∧ f_164 b = some 3) ∨ (0 ≤ r ∧ r < 19 ∧ sgk b = 24 + r ∧ f_164 b = some (34 + r) ∧ zst1 r = b)) := by
  have hl := zlp_F (B := fun (q : Int) => b_258_7 19 (Int.bmod (b % 65536) 256) s q) (I := fun q => 0 ≤ q ∧ q ≤ 19 ∧ ∀ i, 0 ≤ i → i < q → zst1 i ≠ Int.bmod (b % 65536) 256) (μ := fun q => (19 - q).toNat) (Q := fun t => (t = .inl () ∧ ∀ i, 0 ≤ i → i < 19 → zst1 i ≠ Int.bmod (b % 65536) 256) ∨ ∃ r, t = .inr r ∧ 0 ≤ r ∧ r < 19 ∧ zst1 r = Int.bmod (b % 65536) 256) (by
    rintro q ⟨q0, q1, q2⟩
    unfold b_258_7
    rw [zg_pos ⟨by omega, by omega⟩, zg_pos (by decide)]
    by_cases hc : q < 19
    · rw [if_pos hc, zg_pos ⟨q0, hc⟩, zg_pos (by rw [bmod_b h0 h]; split <;> exact ⟨by omega, by omega⟩)]
      by_cases he : zst1 q = Int.bmod (b % 65536) 256
      · right
        rw [if_pos he]
        exact ⟨_, rfl, Or.inr ⟨q, rfl, q0, hc, he⟩⟩
      · left
        rw [if_neg he]
        refine ⟨_, rfl, ⟨by omega, by omega, fun i i0 i1 => ?_⟩, by omega⟩
        by_cases hi : i = q
        · rw [hi]; exact he
        · exact q2 i i0 (by omega)
    · right
      rw [if_neg hc]
      exact ⟨_, rfl, Or.inl ⟨rfl, fun i i0 i1 => q2 i i0 (by omega)⟩⟩) (s := 0) ⟨by omega, by omega, fun i i0 i1 => by omega⟩ (by omega)
  obtain ⟨t, e, ht⟩ := hl
  have hF : ∀ r, f_258 (b % 65536) 0 19 s = some r → f_254 (b % 65536) s = some r := by
    intro r hr
    have e1 : f_246_906 = some 1 := by decide
    have e2 : f_243_906 = some 19 := by decide
    unfold f_254 f_255 f_256 f_257
    have hx : b % 65536 = b := by omega
    rw [hx] at hr ⊢
    rw [zo_of e1, zo_of e2, zg_pos ⟨by omega, by omega⟩, if_neg (by omega), if_neg (by omega), zo_of rfl, zg_pos (by decide), if_neg (by decide), zg_pos (by decide), zg_pos (by decide), zg_pos (by decide), zg_pos (by decide), if_pos (by decide)]
    have : zmax 0 0 = 0 ∧ zmin 19 19 = 19 := by decide
    rw [this.1, this.2, zo_of hr, zo_of rfl, zo_of rfl]
  rcases ht with ⟨rfl, hn⟩ | ⟨r, rfl, r0, r1, hr⟩
  · refine ⟨-1, hF _ (by unfold f_258; rw [zo_of e]; rfl), by decide, Or.inl ⟨by decide, ?_⟩⟩
    have h3 : f_164 b = some 3 := sg_none ⟨by omega, by omega⟩ (fun i i0 i1 he => hn i i0 i1 (by
      have := (sg_tab ⟨i.toNat, by omega⟩).2
      dsimp only at this
      rw [show ((i.toNat : Nat) : Int) = i by omega] at this
      rw [bmod_b h0 h, if_pos (by omega)]
      exact he))
    refine ⟨?_, h3⟩
    unfold sgk
    rw [h3]
    rfl
  · refine ⟨r, hF _ (by unfold f_258; rw [zo_of e]; rfl), ⟨by omega, by omega⟩, Or.inr ⟨r0, r1, ?_⟩⟩
    have ht := sg_tab ⟨r.toNat, by omega⟩
    dsimp only at ht
    rw [show ((r.toNat : Nat) : Int) = r by omega] at ht
    obtain ⟨t1, t2, t3⟩ := ht
    have hb : zst1 r = b := by
      rw [bmod_b h0 h] at hr
      split at hr <;> omega
    rw [hb] at t1
    refine ⟨?_, t1, hb⟩
    unfold sgk
    rw [t1]
    dsimp only
    rw [if_neg (by omega)]
    omega
section TOK
variable {B : Int → Int} {l p : Int}
theorem c_readWord {s : zS} (h : TB B l) (hT : CT s B l) (hp : gI s 8 5 = p) (p0 : 0 ≤ p) (pl : p < l) : ∃ s', f_64 s = some ((), s') ∧ gI s' 8 2 = rn (fun i => decide (zlet (B i))) l p ∧ gI s' 8 4 = (if 7 < rn (fun i => decide (zlet (B i))) l p - p then 1 else if kwk (zwd B p (rn (fun i => decide (zlet (B i))) l p - p).toNat) = 2 ∧ 6 < rn (fun i => decide (zlet (B i))) l p - p then 1 else kwk (zwd B p (rn (fun i => decide (zlet (B i))) l p - p).toNat)) ∧ gJ s' 8 6 = zwd B p (rn (fun i => decide (zlet (B i))) l p - p).toNat := by
  have e1 := c_lettersEnd h hT p0 (by omega)
  obtain ⟨⟨a1, a2, a3⟩, a4⟩ := rn_spec (P := fun i => decide (zlet (B i))) p0 (by omega) h.2.1
  generalize rn (fun i => decide (zlet (B i))) l p = j at a1 a2 a3 a4 e1
  have l6 := h.2.1
  have hT1 : CT (sI s 8 2 j) B l := hT.of (gI_ni (by decide)) (fun i => gI_nc (by decide))
  have e2 := c_wordBetween h hT1 p0 a1 a4
  generalize zwd B p (j - p).toNat = w at e2
  have g2 : gI (sI s 8 2 j) 8 2 = j := gI_same ⟨by omega, by omega⟩
  obtain ⟨k1, -, k2, k3⟩ := kwk_spec w (sJ (sI s 8 2 j) 8 6 w)
  unfold f_64
  rw [hp, zo_of e1, g2, zo_of e2, zg_pos ⟨by omega, by omega⟩, gJ_same, zo_of k1]
  have g4 : ∀ (t : zS) (x : Int), zR x → gI (sI t 8 4 x) 8 4 = x := fun t x hx => gI_same hx
  have g24 : ∀ (t : zS) (x : Int), gI (sI t 8 4 x) 8 2 = gI t 8 2 := fun t x => gI_ni (by decide)
  by_cases h7 : 7 < j - p
  · rw [if_pos h7, g4 _ _ (by decide), if_neg (by decide), if_pos h7]
    refine ⟨_, rfl, ?_, g4 _ _ (by decide), gJ_same⟩
    rw [g24]
    exact g2
  · rw [if_neg h7, if_neg h7, g4 _ _ ⟨by omega, by omega⟩]
    by_cases h2 : kwk w = 2
    · rw [if_pos h2]
      by_cases h6 : 6 < j - p
      · rw [if_pos h6, if_pos ⟨h2, h6⟩]
        refine ⟨_, rfl, ?_, g4 _ _ (by decide), gJ_same⟩
        rw [g24, g24]
        exact g2
      · rw [if_neg h6, if_neg (fun h => h6 h.2)]
        refine ⟨_, rfl, ?_, g4 _ _ ⟨by omega, by omega⟩, gJ_same⟩
        rw [g24]
        exact g2
    · rw [if_neg h2, if_neg (fun h => h2 h.1)]
      refine ⟨_, rfl, ?_, g4 _ _ ⟨by omega, by omega⟩, gJ_same⟩
      rw [g24]
      exact g2
theorem c_readNumber {s : zS} (h : TB B l) (hT : CT s B l) (hp : gI s 8 5 = p) (ha : gI s 8 2 = p) (p0 : 0 ≤ p) (pl : p < l) : ∃ s', f_67 s = some ((), s') ∧ gI s' 8 2 = rn (fun i => decide (zdig (B i))) l p ∧ gI s' 8 4 = (if 3 < rn (fun i => decide (zdig (B i))) l p - p then 1 else 3) ∧ (rn (fun i => decide (zdig (B i))) l p - p ≤ 3 → gI s' 8 7 = znm B p (rn (fun i => decide (zdig (B i))) l p - p).toNat) := by
  obtain ⟨⟨a1, a2, a3⟩, a4⟩ := rn_spec (P := fun i => decide (zdig (B i))) p0 (by omega) h.2.1
  generalize rn (fun i => decide (zdig (B i))) l p = j at a1 a2 a3 a4
  obtain ⟨l0, l6, hb⟩ := h
  have hl := zlp_F (B := fun (q : zS) => b_67_5 q) (I := fun q => zfr 295646305967470155793582381035034644712057205634973738606798561327220526995781244790275829111852139282432 s q ∧ p ≤ gI q 8 2 ∧ gI q 8 2 ≤ j ∧ (gI q 8 2 - p ≤ 3 → gI q 8 7 = znm B p (gI q 8 2 - p).toNat)) (μ := fun q => (j - gI q 8 2).toNat) (Q := fun t => zfr 295646305967470155793582381035034644712057205634973738606798561327220526995781244790275829111852139282432 s t ∧ gI t 8 2 = j ∧ (j - p ≤ 3 → gI t 8 7 = znm B p (j - p).toNat)) (by
    rintro σ ⟨q0, q1, q2, q3⟩
    have e1 : gI σ 8 1 = l := by rw [q0.i rfl]; exact hT.1
    have e9 : ∀ i, gI σ 9 i = gI s 9 i := fun i => q0.ia (c := 9) rfl rfl i
    generalize hq : gI σ 8 2 = q at q1 q2 q3
    unfold b_67_5
    rw [hq, e1]
    by_cases hc : q < l
    · have hbq := hb q (by omega) hc
      rw [if_pos hc, zg_pos ⟨by omega, by omega⟩, e9, hT.2 q (by omega) hc, zo_of (c_isDigit ⟨by omega, by omega⟩)]
      by_cases hz : zdig (B q)
      · left
        rw [if_pos hz, zg_pos (by decide), if_neg (by decide)]
        have hne : q ≠ j := fun e => a3 ⟨by omega, decide_eq_true (by rw [← e]; exact hz)⟩
        have g2 : gI (sI (sI σ 8 7 ((gI σ 8 7 * 10 + B q) - 48)) 8 2 (q + 1)) 8 2 = q + 1 := gI_same ⟨by omega, by omega⟩
        refine ⟨_, rfl, ⟨zfr_sI (zfr_sI q0 rfl) rfl, ?_, ?_, ?_⟩, ?_⟩
        · rw [g2]; omega
        · rw [g2]; omega
        · rw [g2]
          intro h3
          have hv := q3 (by omega)
          have hbd := znm_b3 (B := B) (i := p) (n := (q - p).toNat) (by omega) (fun k k0 k1 => of_decide_eq_true (a2 k k0 (by omega)).2)
          rw [gI_ni (by decide), gI_same (by rw [hv]; exact ⟨by omega, by omega⟩), hv, show (q + 1 - p).toNat = (q - p).toNat + 1 by omega, znm, show p + ((q - p).toNat : Int) = q by omega]
          omega
        · rw [g2]; omega
      · right
        rw [if_neg hz, zg_pos (by decide), if_pos rfl]
        have : q = j := by
          by_cases hj : q < j
          · exact absurd (of_decide_eq_true (a2 q q1 hj).2) hz
          · omega
        rw [this] at hq q3
        exact ⟨σ, rfl, q0, hq, q3⟩
    · right
      rw [if_neg hc]
      have : q = j := by omega
      rw [this] at hq q3
      exact ⟨σ, rfl, q0, hq, q3⟩) (s := sI s 8 7 0) ⟨zfr_sI (zfr_rf _ _) rfl, by rw [gI_ni (by decide), ha]; omega, by rw [gI_ni (by decide), ha]; omega, by
      rw [gI_ni (by decide), ha, gI_same (by decide), show (p - p).toNat = 0 by omega]
      intro _
      rfl⟩ (by rw [gI_ni (by decide), ha]; omega)
  obtain ⟨t, e, z, hj, hv⟩ := hl
  have e5 : gI t 8 5 = p := by rw [z.i rfl]; exact hp
  unfold f_67
  rw [zo_of e, hj, e5, zg_pos ⟨by omega, by omega⟩]
  by_cases h3 : 3 < j - p
  · rw [if_pos h3, if_pos h3]
    exact ⟨_, rfl, by rw [gI_ni (by decide)]; exact hj, gI_same (by decide), fun h => by omega⟩
  · rw [if_neg h3, if_neg h3]
    exact ⟨_, rfl, by rw [gI_ni (by decide)]; exact hj, gI_same (by decide), fun h => by rw [gI_ni (by decide)]; exact hv h⟩
theorem psk_b (b d : Int) : psk b d = 0 ∨ (20 ≤ psk b d ∧ psk b d ≤ 23) := by
  unfold psk
  repeat' split
  all_goals omega
theorem c_readSign {s : zS} (h : TB B l) (hT : CT s B l) (ha : gI s 8 2 = p) (p0 : 0 ≤ p) (pl : p < l) : ∃ s', f_68 s = some ((), s') ∧ gI s' 8 2 = (if psk (B p) (tkN B l p) = 0 then p + 1 else p + 2) ∧ gI s' 8 4 = (if psk (B p) (tkN B l p) = 0 then sgk (B p) else psk (B p) (tkN B l p)) := by
  obtain ⟨l0, l6, hb⟩ := h
  have hbp := hb p p0 pl
  have hN : 0 ≤ tkN B l p ∧ tkN B l p ≤ 255 := by
    unfold tkN
    split
    · exact hb (p + 1) (by omega) (by omega)
    · omega
  have e38 : f_68 s = j_68_38 (B p) (tkN B l p) s := by
    unfold f_68 tkN
    rw [ha, hT.1, zg_pos ⟨p0, by omega⟩, zg_pos ⟨by omega, by omega⟩, hT.2 p p0 pl]
    by_cases hc : p + 1 < l
    · rw [if_pos hc, if_pos hc, zg_pos ⟨by omega, by omega⟩, hT.2 (p + 1) (by omega) hc]
    · rw [if_neg hc, if_neg hc]
  rw [e38]
  unfold j_68_38
  rw [zo_of (c_pairs ⟨by omega, by omega⟩ ⟨by omega, by omega⟩)]
  have hps := psk_b (B p) (tkN B l p)
  by_cases hz : psk (B p) (tkN B l p) = 0
  · rw [if_pos hz, if_pos hz, if_pos hz]
    obtain ⟨r, e, hr, h3⟩ := c_sign (s := s) hbp.1 hbp.2
    dsimp only [Sum.elim]
    rw [zo_of e, zg_pos hr, ha]
    rcases h3 with ⟨h3, h4, -⟩ | ⟨h3, h5, h4, -, -⟩
    · rw [if_pos h3, h4]
      exact ⟨_, rfl, gI_same ⟨by omega, by omega⟩, by rw [gI_ni (by decide)]; exact gI_same (by decide)⟩
    · rw [if_neg (by omega), h4]
      exact ⟨_, rfl, gI_same ⟨by omega, by omega⟩, by rw [gI_ni (by decide)]; exact gI_same ⟨by omega, by omega⟩⟩
  · rw [if_neg hz, if_neg hz, if_neg hz]
    dsimp only [Sum.elim]
    rw [ha]
    exact ⟨_, rfl, gI_same ⟨by omega, by omega⟩, by rw [gI_ni (by decide)]; exact gI_same ⟨by omega, by omega⟩⟩
theorem c_advance {s : zS} {c : Int} (h : TB B l) (hT : CT s B l) (hc : gI s 8 2 = c) (c0 : 0 ≤ c) (cl : c ≤ l) (t0 : 0 ≤ gI s 8 3) (t1 : gI s 8 3 ≤ 1000) : ∃ s', f_62 s = some ((), s') ∧ gI s' 8 2 = tkE B l c ∧ gI s' 8 4 = tkK B l c ∧ gI s' 8 5 = tkP B l c ∧ gI s' 8 3 = (if tkP B l c < l then gI s 8 3 + 1 else gI s 8 3) ∧ (tkK B l c = 2 → gJ s' 8 6 = tkW B l c) ∧ (tkK B l c = 3 → gI s' 8 7 = tkV B l c) := by
  obtain ⟨⟨a1, a2, a3⟩, a4⟩ := tkP_spec h c0 cl
  have e1 := c_blanks h hT c0 cl
  obtain ⟨l0, l6, hb⟩ := id h
  unfold tkK tkW tkV tkE
  generalize tkP B l c = p at a1 a2 a3 a4 e1
  have g2 : gI (sI s 8 2 p) 8 2 = p := gI_same ⟨by omega, by omega⟩
  unfold f_62
  rw [hc, zo_of e1, g2, hT.1]
  by_cases hp : p < l
  · have hbp := hb p (by omega) hp
    rw [if_pos hp, if_pos hp, if_pos hp, if_pos hp, zg_pos ⟨by omega, by omega⟩, hT.2 p (by omega) hp, zo_of (c_isLetter ⟨by omega, by omega⟩)]
    have hT1 : CT (sI (sI (sI s 8 2 p) 8 5 p) 8 3 (gI s 8 3 + 1)) B l := hT.of (by rw [gI_ni (by decide), gI_ni (by decide), gI_ni (by decide)]) (fun i => by rw [gI_nc (by decide), gI_nc (by decide), gI_nc (by decide)])
    have x5 : gI (sI (sI (sI s 8 2 p) 8 5 p) 8 3 (gI s 8 3 + 1)) 8 5 = p := by rw [gI_ni (by decide), gI_same ⟨by omega, by omega⟩]
    have x2 : gI (sI (sI (sI s 8 2 p) 8 5 p) 8 3 (gI s 8 3 + 1)) 8 2 = p := by rw [gI_ni (by decide), gI_ni (by decide), g2]
    have x3 : gI (sI (sI (sI s 8 2 p) 8 5 p) 8 3 (gI s 8 3 + 1)) 8 3 = gI s 8 3 + 1 := gI_same ⟨by omega, by omega⟩
    by_cases hz : zlet (B p)
    · obtain ⟨s', w1, w2, w3, w4⟩ := c_readWord h hT1 x5 (by omega) hp
      rw [if_pos hz, zg_pos (by decide), if_neg (by decide), zb_of w1, if_pos hz, if_pos hz]
      refine ⟨s', rfl, w2, w3, ?_, ?_, fun _ => w4, ?_⟩
      · rw [(fr_64 w1).i rfl]; exact x5
      · rw [(fr_64 w1).i rfl]; exact x3
      · intro h3
        have := (kwk_spec (zwd B p (rn (fun i => decide (zlet (B i))) l p - p).toNat) s).2.2
        split at h3
        · omega
        · split at h3 <;> omega
    · rw [if_neg hz, zg_pos (by decide), if_pos rfl, zo_of (c_isDigit ⟨by omega, by omega⟩), if_neg hz, if_neg hz]
      by_cases hd : zdig (B p)
      · obtain ⟨s', w1, w2, w3, w4⟩ := c_readNumber h hT1 x5 x2 (by omega) hp
        rw [if_pos hd, zg_pos (by decide), if_neg (by decide), zb_of w1, if_pos hd, if_pos hd]
        refine ⟨s', rfl, w2, w3, ?_, ?_, ?_, ?_⟩
        · rw [(fr_67 w1).i rfl]; exact x5
        · rw [(fr_67 w1).i rfl]; exact x3
        · intro h2
          split at h2 <;> omega
        · intro h3
          exact w4 (by split at h3 <;> omega)
      · obtain ⟨s', w1, w2, w3⟩ := c_readSign h hT1 x2 (by omega) hp
        rw [if_neg hd, zg_pos (by decide), if_pos rfl, zb_of w1, if_neg hd, if_neg hd]
        have hno : (if psk (B p) (tkN B l p) = 0 then sgk (B p) else psk (B p) (tkN B l p)) = 1 ∨ 20 ≤ (if psk (B p) (tkN B l p) = 0 then sgk (B p) else psk (B p) (tkN B l p)) := by
          by_cases hps : psk (B p) (tkN B l p) = 0
          · rw [if_pos hps]
            obtain ⟨r, -, -, h3⟩ := c_sign (s := s) hbp.1 hbp.2
            omega
          · rw [if_neg hps]
            have := psk_b (B p) (tkN B l p)
            omega
        refine ⟨s', rfl, w2, w3, ?_, ?_, fun h2 => ?_, fun h3 => ?_⟩
        · rw [(fr_68 w1).i rfl]; exact x5
        · rw [(fr_68 w1).i rfl]; exact x3
        · omega
        · omega
  · rw [if_neg hp, if_neg hp, if_neg hp, if_neg hp]
    refine ⟨_, rfl, ?_, gI_same (by decide), ?_, ?_, fun h => by omega, fun h => by omega⟩
    · rw [gI_ni (by decide), gI_ni (by decide), g2]
    · rw [gI_ni (by decide), gI_same ⟨by omega, by omega⟩]
    · rw [gI_ni (by decide), gI_ni (by decide), gI_ni (by decide)]
end TOK
