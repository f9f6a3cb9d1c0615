/-! SETS in two words; the reference's assign. -/
theorem bv_bit1 (w : BitVec 64) (k : Nat) : ((w >>> k) &&& (1#64) = (1#64)) ↔ w.getLsbD k = true := by
  constructor
  · intro h
    have := congrArg (fun b : BitVec 64 => b.getLsbD 0) h
    simpa using this
  · intro h
    apply BitVec.eq_of_getLsbD_eq
    intro i hi
    rw [BitVec.getLsbD_and, BitVec.getLsbD_ushiftRight]
    by_cases e : i = 0
    · subst e
      simpa using h
    · have : (1#64).getLsbD i = false := by
        rw [BitVec.getLsbD_one]
        simp [e]
      rw [this, Bool.and_false]
theorem zshl_eq {i : Int} (h0 : 0 ≤ i) (h : i < 64) : zshl i = i.toNat := by unfold zshl; omega
/-- the t-th of a set in two words -/
def tb (lo hi : BitVec 64) (t : Int) : Bool := if t < 64 then lo.getLsbD t.toNat else hi.getLsbD (t - 64).toNat
theorem m_bit {lo hi : BitVec 64} {t : Int} (h0 : 0 ≤ t) (h : t < 128) : f_211 lo hi t = some (if tb lo hi t then 1 else 0) := by
  unfold f_211 tb
  rw [zg_pos ⟨by omega, by omega⟩]
  by_cases h1 : t < 64
  · rw [if_pos h1, if_pos h1, zshl_eq h0 h1]
    by_cases h2 : lo.getLsbD t.toNat = true
    · rw [if_pos ((bv_bit1 _ _).mpr h2), if_pos h2]
    · rw [if_neg (fun h => h2 ((bv_bit1 _ _).mp h)), if_neg h2]
  · rw [if_neg h1, if_neg h1, zg_pos ⟨by omega, by omega⟩, zshl_eq (by omega) (by omega)]
    by_cases h2 : hi.getLsbD (t - 64).toNat = true
    · rw [if_pos ((bv_bit1 _ _).mpr h2), if_pos h2]
    · rw [if_neg (fun h => h2 ((bv_bit1 _ _).mp h)), if_neg h2]
theorem bv_shl1 (k i : Nat) (hk : k < 64) : ((1#64) <<< k).getLsbD i = decide (i = k) := by
  rw [BitVec.getLsbD_shiftLeft, BitVec.getLsbD_one]
  by_cases h : i = k
  · subst h; simp [hk]
  · simp [h]; omega
theorem bv_setbit (w : BitVec 64) (k i : Nat) (hk : k < 64) : (w ||| ((1#64) <<< k)).getLsbD i = (w.getLsbD i || decide (i = k)) := by
  rw [BitVec.getLsbD_or, bv_shl1 k i hk]
/-- one more in a set: addTuple -/
theorem m_addTuple {s : zS} {r t : Int} (hr0 : 0 ≤ r) (hr : r < 8) (h0 : 0 ≤ t) (h : t < 128) : ∃ s', f_196 r t s = some ((), s') ∧ ∀ r' u, 0 ≤ u → u < 128 → tb (gJ s' 196 r') (gJ s' 197 r') u = (tb (gJ s 196 r') (gJ s 197 r') u || decide (r' = r ∧ u = t)) := by
  unfold f_196
  by_cases h1 : t < 64
  · refine ⟨_, by rw [zg_pos ⟨by omega, by omega⟩, if_pos h1, zg_pos ⟨hr0, hr⟩], ?_⟩
    intro r' u hu hu2
    rw [gJ_nc (c' := 197) (by decide)]
    by_cases e : r' = r
    · subst e
      rw [gJ_same]
      unfold tb
      by_cases h2 : u < 64
      · rw [if_pos h2, if_pos h2, zshl_eq h0 h1, bv_setbit _ _ _ (by omega)]
        congr 1
        apply decide_eq_decide.mpr
        omega
      · rw [if_neg h2, if_neg h2]
        have : ¬ (r' = r' ∧ u = t) := by omega
        rw [decide_eq_false this, Bool.or_false]
    · rw [gJ_ni e]
      have : ¬ (r' = r ∧ u = t) := fun h => e h.1
      rw [decide_eq_false this, Bool.or_false]
  · refine ⟨_, by rw [zg_pos ⟨by omega, by omega⟩, if_neg h1, zg_pos ⟨hr0, hr⟩, zg_pos ⟨by omega, by omega⟩], ?_⟩
    intro r' u hu hu2
    rw [gJ_nc (c' := 196) (by decide)]
    by_cases e : r' = r
    · subst e
      rw [gJ_same]
      unfold tb
      by_cases h2 : u < 64
      · rw [if_pos h2, if_pos h2]
        have : ¬ (r' = r' ∧ u = t) := by omega
        rw [decide_eq_false this, Bool.or_false]
      · rw [if_neg h2, if_neg h2, zshl_eq (by omega) (by omega), bv_setbit _ _ _ (by omega)]
        congr 1
        apply decide_eq_decide.mpr
        omega
    · rw [gJ_ni e]
      have : ¬ (r' = r ∧ u = t) := fun h => e h.1
      rw [decide_eq_false this, Bool.or_false]
/-- in assignment a the tuple with key k is there -/
def zin (s : zS) (a k : Int) : Prop := gI s 5 k = 2 ∨ ∃ i, 0 ≤ i ∧ i < gI s 1 8 ∧ gI s 7 i = k ∧ a.toNat.testBit (gI s 1 8 - 1 - i).toNat = true
theorem zin_cong {s s2 : zS} (h : zeq 546812681195752981093125556779405341338292357723303109106442651602488249799843980805878294255763616 s s2) (a k : Int) : zin s2 a k ↔ zin s a k := by
  have e1 : gI s2 1 8 = gI s 1 8 := h.i rfl
  have e2 := h.ia (c := 5) rfl rfl
  have e3 := h.ia (c := 7) rfl rfl
  unfold zin
  simp only [e1, e2, e3]
theorem m_isFreeIn {s : zS} {a i : Int} (ha : 0 ≤ a) (hra : zR a) (hF : gI s 177 13 ≤ 12) (h0 : 0 ≤ i) (h : i < gI s 177 13) : f_197 a i s = some (if a.toNat.testBit (gI s 177 13 - 1 - i).toNat then 1 else 0) := by
  unfold f_197
  rw [zg_pos ⟨ha, hra⟩, ztest ha hra (by omega) (by omega)]
  by_cases hb : a.toNat.testBit (gI s 177 13 - 1 - i).toNat = true
  · rw [if_pos hb, if_pos rfl]
  · rw [if_neg hb, if_neg (by decide)]
/-- the reference's row of FREE tuples stands as the class's -/
def IFl (s : zS) : Prop := gI s 177 13 = gI s 1 8 ∧ ∀ i, 0 ≤ i → i < gI s 1 8 → gI s 182 i = gI s 7 i / 125 ∧ gI s 183 i = gI s 7 i % 125
theorem IFl.cong {s s2 : zS} (h : zeq 21153791001287955166461290403861354470261930947982555796514102787073361432811562563515006636723464718677103015548507924725888 s s2) (hI : IFl s) : IFl s2 := by
  have e1 : gI s2 1 8 = gI s 1 8 := h.i rfl
  have e2 : gI s2 177 13 = gI s 177 13 := h.i rfl
  have e3 := h.ia (c := 7) rfl rfl
  have e4 := h.ia (c := 182) rfl rfl
  have e5 := h.ia (c := 183) rfl rfl
  unfold IFl at hI ⊢
  simp only [e1, e2, e3, e4, e5]
  exact hI
/-- the reference's relations hold what assignment a says -/
def IAs (s : zS) (a : Int) : Prop := ∀ r t, 0 ≤ r → r < gI s 1 4 → 0 ≤ t → t < 128 → (tb (gJ s 196 r) (gJ s 197 r) t = true ↔ t < 125 ∧ zin s a (125 * r + t))
theorem m_assign {s : zS} {a : Int} (hW : IW s) (hFl : IFl s) (ha : 0 ≤ a) (hra : zR a) : ∃ s', f_195 a s = some ((), s') ∧ IAs s' a := by
  have hW0 := hW
  obtain ⟨-, -, ⟨r0, r8, rr⟩, -, hst, ⟨f0, f12⟩, hfr, hinc, hall⟩ := hW
  -- the words are made empty
  have hl1 := zlp_F (B := fun (q : Int × zS) => b_195_2 a q.1 q.2) (I := fun q => 0 ≤ q.1 ∧ q.1 ≤ gI s 1 4 ∧ zeq 23798014876448949562268951670168231204310110998160027972365531801814260020454333997746145920331895771176083901494239116132512 s q.2 ∧ ∀ r, 0 ≤ r → r < q.1 → gJ q.2 196 r = 0#64 ∧ gJ q.2 197 r = 0#64) (μ := fun q => (gI s 1 4 - q.1).toNat) (Q := fun t => zeq 23798014876448949562268951670168231204310110998160027972365531801814260020454333997746145920331895771176083901494239116132512 s t ∧ ∀ r, 0 ≤ r → r < gI s 1 4 → gJ t 196 r = 0#64 ∧ gJ t 197 r = 0#64) (by
    rintro ⟨k, σ⟩ ⟨a1, a2, a3, a4⟩
    dsimp only at a1 a2 a3 a4 ⊢
    have e1 : gI σ 177 10 = gI s 177 10 := a3.i rfl
    unfold b_195_2
    rw [zg_pos ⟨by omega, by omega⟩, e1, rr]
    by_cases hc : k < gI s 1 4
    · left
      rw [if_pos hc, zg_pos ⟨by omega, by omega⟩]
      refine ⟨_, rfl, ⟨by omega, by omega, a3.tr ((zfr_tr (zfr_JA (m := 301300883298560676664117892313967987972913061334273656619008) rfl rfl) (zfr_JA rfl rfl)).eq rfl), ?_⟩, by omega⟩
      intro r hr hr2
      by_cases e : r = k
      · rw [e]
        exact ⟨by rw [gJ_nc (by decide), gJ_same], gJ_same⟩
      · rw [gJ_ni e, gJ_ni e, gJ_ni e, gJ_ni e]
        exact a4 r hr (by omega)
    · right
      rw [if_neg hc]
      exact ⟨σ, rfl, a3, fun r hr hr2 => a4 r hr (by omega)⟩) (s := (0, s)) ⟨by dsimp only; omega, by dsimp only; omega, zeq.rf _ _, fun r hr hr2 => by dsimp only at hr2; omega⟩ (by dsimp only; omega)
  obtain ⟨s1, e1, q1, z1⟩ := hl1
  -- what is always in
  have hl2 := zlp_F (B := fun (q : Int × zS) => b_195_32 a q.1 q.2) (I := fun q => 0 ≤ q.1 ∧ q.1 ≤ 125 * gI s 1 4 ∧ zeq 23798014876448949562268951670168231204310110998160027972365531801814260020454333997746145920331895771176083901494239116132512 s q.2 ∧ ∀ r t, 0 ≤ r → r < gI s 1 4 → 0 ≤ t → t < 128 → (tb (gJ q.2 196 r) (gJ q.2 197 r) t = true ↔ t < 125 ∧ 125 * r + t < q.1 ∧ gI s 5 (125 * r + t) = 2)) (μ := fun q => (125 * gI s 1 4 - q.1).toNat) (Q := fun t => zeq 23798014876448949562268951670168231204310110998160027972365531801814260020454333997746145920331895771176083901494239116132512 s t ∧ ∀ r u, 0 ≤ r → r < gI s 1 4 → 0 ≤ u → u < 128 → (tb (gJ t 196 r) (gJ t 197 r) u = true ↔ u < 125 ∧ gI s 5 (125 * r + u) = 2)) (by
    rintro ⟨k, σ⟩ ⟨a1, a2, a3, a4⟩
    dsimp only at a1 a2 a3 a4 ⊢
    have e1 : gI σ 177 10 = gI s 177 10 := a3.i rfl
    have e2 : gI σ 181 k = gI s 181 k := a3.ia rfl rfl k
    unfold b_195_32
    rw [zg_pos ⟨by omega, by omega⟩, e1, rr, zg_pos ⟨by omega, by omega⟩]
    by_cases hc : k < 125 * gI s 1 4
    · left
      rw [if_pos hc, zg_pos ⟨by omega, by omega⟩, e2, ← (hst k a1 (by omega)).1]
      by_cases h2 : gI s 5 k = 2
      · obtain ⟨s', x1, x2⟩ := m_addTuple (s := σ) (r := k / 125) (t := k % 125) (by omega) (by omega) (by omega) (by omega)
        rw [if_pos h2, zg_pos ⟨by omega, ⟨by omega, by omega⟩, by decide, by decide⟩, zb_of x1]
        refine ⟨_, rfl, ⟨by omega, by omega, a3.tr ((fr_196 x1).eq rfl), ?_⟩, by omega⟩
        intro r t hr hr2 ht ht2
        dsimp only
        rw [x2 r t ht ht2, Bool.or_eq_true, a4 r t hr hr2 ht ht2, decide_eq_true_iff]
        constructor
        · rintro (h | ⟨h, h'⟩)
          · exact ⟨h.1, by omega, h.2.2⟩
          · have : 125 * r + t = k := by omega
            rw [this]
            exact ⟨by omega, by omega, h2⟩
        · rintro ⟨h, h', h''⟩
          by_cases e : 125 * r + t = k
          · right; omega
          · left; exact ⟨h, by omega, h''⟩
      · rw [if_neg h2]
        refine ⟨_, rfl, ⟨by omega, by omega, a3, ?_⟩, by omega⟩
        intro r t hr hr2 ht ht2
        rw [a4 r t hr hr2 ht ht2]
        constructor
        · rintro ⟨h, h', h''⟩; exact ⟨h, by omega, h''⟩
        · rintro ⟨h, h', h''⟩
          refine ⟨h, ?_, h''⟩
          by_cases e : 125 * r + t = k
          · rw [e] at h''; exact absurd h'' h2
          · omega
    · right
      rw [if_neg hc]
      refine ⟨σ, rfl, a3, fun r u hr hr2 hu hu2 => ?_⟩
      rw [a4 r u hr hr2 hu hu2]
      constructor
      · rintro ⟨h, h', h''⟩; exact ⟨h, h''⟩
      · rintro ⟨h, h''⟩; exact ⟨h, by omega, h''⟩) (s := (0, s1)) (by
    refine ⟨by dsimp only; omega, by dsimp only; omega, q1, fun r t hr hr2 ht ht2 => ?_⟩
    dsimp only
    obtain ⟨u1, u2⟩ := z1 r hr hr2
    rw [u1, u2]
    unfold tb
    constructor
    · intro h
      split at h <;> simp at h
    · intro h; omega) (by dsimp only; omega)
  obtain ⟨s2, e2, q2, z2⟩ := hl2
  -- what the assignment says
  have hl3 := zlp_F (B := fun (q : Int × zS) => b_195_73 a q.1 q.2) (I := fun q => 0 ≤ q.1 ∧ q.1 ≤ gI s 1 8 ∧ zeq 23798014876448949562268951670168231204310110998160027972365531801814260020454333997746145920331895771176083901494239116132512 s q.2 ∧ ∀ r t, 0 ≤ r → r < gI s 1 4 → 0 ≤ t → t < 128 → (tb (gJ q.2 196 r) (gJ q.2 197 r) t = true ↔ t < 125 ∧ (gI s 5 (125 * r + t) = 2 ∨ ∃ i, 0 ≤ i ∧ i < q.1 ∧ gI s 7 i = 125 * r + t ∧ a.toNat.testBit (gI s 1 8 - 1 - i).toNat = true))) (μ := fun q => (gI s 1 8 - q.1).toNat) (Q := fun t => zeq 23798014876448949562268951670168231204310110998160027972365531801814260020454333997746145920331895771176083901494239116132512 s t ∧ ∀ r u, 0 ≤ r → r < gI s 1 4 → 0 ≤ u → u < 128 → (tb (gJ t 196 r) (gJ t 197 r) u = true ↔ u < 125 ∧ zin s a (125 * r + u))) (by
    rintro ⟨k, σ⟩ ⟨a1, a2, a3, a4⟩
    dsimp only at a1 a2 a3 a4 ⊢
    have e1 : gI σ 177 13 = gI s 1 8 := by rw [a3.i rfl]; exact hFl.1
    have e5 := a3.ia (c := 182) rfl rfl
    have e6 := a3.ia (c := 183) rfl rfl
    unfold b_195_73
    rw [zg_pos ⟨by omega, by omega⟩, e1]
    by_cases hc : k < gI s 1 8
    · left
      rw [if_pos hc, m_isFreeIn ha hra (by omega) a1 (by omega), zo_of rfl, e1]
      obtain ⟨v1, v2, v3⟩ := hfr k a1 hc
      obtain ⟨y1, y2⟩ := hFl.2 k a1 hc
      by_cases hb : a.toNat.testBit (gI s 1 8 - 1 - k).toNat = true
      · have hv := (hst _ v1 v2).2.2.2 (by omega)
        obtain ⟨s', x1, x2⟩ := m_addTuple (s := σ) (r := gI s 7 k / 125) (t := gI s 7 k % 125) (by omega) (by omega) (by omega) (by omega)
        rw [if_pos hb, zg_pos (by decide), if_neg (by decide), zg_pos ⟨by omega, by omega⟩, e5, e6, y1, y2, zb_of x1]
        refine ⟨_, rfl, ⟨by omega, by omega, a3.tr ((fr_196 x1).eq rfl), ?_⟩, by omega⟩
        intro r t hr hr2 ht ht2
        dsimp only
        rw [x2 r t ht ht2, Bool.or_eq_true, a4 r t hr hr2 ht ht2, decide_eq_true_iff]
        constructor
        · rintro (⟨h, h' | ⟨i, i1, i2, i3, i4⟩⟩ | ⟨h, h'⟩)
          · exact ⟨h, Or.inl h'⟩
          · exact ⟨h, Or.inr ⟨i, i1, by omega, i3, i4⟩⟩
          · exact ⟨by omega, Or.inr ⟨k, a1, by omega, by omega, hb⟩⟩
        · rintro ⟨h, h' | ⟨i, i1, i2, i3, i4⟩⟩
          · exact Or.inl ⟨h, Or.inl h'⟩
          · by_cases e : i = k
            · right; rw [e] at i3; omega
            · left; exact ⟨h, Or.inr ⟨i, i1, by omega, i3, i4⟩⟩
      · rw [if_neg hb, zg_pos (by decide), if_pos rfl]
        refine ⟨_, rfl, ⟨by omega, by omega, a3, ?_⟩, by omega⟩
        intro r t hr hr2 ht ht2
        rw [a4 r t hr hr2 ht ht2]
        constructor
        · rintro ⟨h, h' | ⟨i, i1, i2, i3, i4⟩⟩
          · exact ⟨h, Or.inl h'⟩
          · exact ⟨h, Or.inr ⟨i, i1, by omega, i3, i4⟩⟩
        · rintro ⟨h, h' | ⟨i, i1, i2, i3, i4⟩⟩
          · exact ⟨h, Or.inl h'⟩
          · refine ⟨h, Or.inr ⟨i, i1, ?_, i3, i4⟩⟩
            by_cases e : i = k
            · rw [e] at i4; exact absurd i4 hb
            · omega
    · right
      rw [if_neg hc]
      refine ⟨σ, rfl, a3, fun r u hr hr2 hu hu2 => ?_⟩
      have ek : k = gI s 1 8 := by omega
      rw [a4 r u hr hr2 hu hu2, ek]
      rfl) (s := (0, s2)) (by
    refine ⟨by dsimp only; omega, by dsimp only; omega, q2, fun r t hr hr2 ht ht2 => ?_⟩
    dsimp only
    rw [z2 r t hr hr2 ht ht2]
    constructor
    · rintro ⟨h, h'⟩; exact ⟨h, Or.inl h'⟩
    · rintro ⟨h, h' | ⟨i, i1, i2, -⟩⟩
      · exact ⟨h, h'⟩
      · omega) (by dsimp only; omega)
  obtain ⟨s3, e3, q3, z3⟩ := hl3
  refine ⟨s3, by unfold f_195; rw [zo_of e1, zo_of e2, zo_of e3], ?_⟩
  intro r t hr hr2 ht ht2
  have g1 : gI s3 1 4 = gI s 1 4 := q3.i rfl
  rw [z3 r t hr (by omega) ht ht2, zin_cong (q3.sub rfl)]
