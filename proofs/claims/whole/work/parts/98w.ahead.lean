/-! TOKENS: a name and a colon ahead. -/
section AHEAD
variable {B : Int → Int} {l c : Int}
/-- NAME : comes -/
def bnx (B : Int → Int) (l c : Int) : Int := if tkK B l c = 2 ∧ tkK B l (tkE B l c) = 41 then 1 else 0
theorem km_1 {k : Int} (h0 : 0 ≤ k) : km k = 1 ↔ k = 2 := by
  unfold km
  repeat' split
  all_goals omega
theorem km_51 {k : Int} (h0 : 0 ≤ k) : km k = 51 ↔ k = 41 := by
  unfold km
  repeat' split
  all_goals omega
theorem m_beginsLine {s : zS} (h : TB B l) (hT : MT s B l) (hc : gI s 177 26 = c) (c0 : 0 ≤ c) (cl : c ≤ l) : ∃ s', f_173 s = some (bnx B l c, s') ∧ gI s' 177 26 = c ∧ gI s' 177 27 = gI s 177 27 ∧ gI s' 177 28 = gI s 177 28 := by
  obtain ⟨s1, a1, a2, a3, a4, -, -⟩ := m_readToken h hT hc c0 cl
  have hb := tkE_b h c0 cl
  have hk := tkK_b h c0 cl
  have z1 := fr_159 a1
  have hz : zR c := by rw [← hc]; exact zR_gI _ _ _
  have key : ∀ t : zS, gI (sI (sI (sI t 177 26 (gI s 177 26)) 177 27 (gI s 177 27)) 177 28 (gI s 177 28)) 177 26 = c ∧ gI (sI (sI (sI t 177 26 (gI s 177 26)) 177 27 (gI s 177 27)) 177 28 (gI s 177 28)) 177 27 = gI s 177 27 ∧ gI (sI (sI (sI t 177 26 (gI s 177 26)) 177 27 (gI s 177 27)) 177 28 (gI s 177 28)) 177 28 = gI s 177 28 := by
    intro t
    refine ⟨?_, ?_, gI_same (zR_gI _ _ _)⟩
    · rw [gI_ni (by decide), gI_ni (by decide), gI_same (zR_gI _ _ _), hc]
    · rw [gI_ni (by decide), gI_same (zR_gI _ _ _)]
  unfold f_173 bnx
  rw [zb_of a1, a3]
  by_cases h2 : tkK B l c = 2
  · rw [if_pos ((km_1 hk.1).mpr h2)]
    have hT1 : MT s1 B l := hT.of (z1.i rfl) (fun i => z1.ia (c := 178) rfl rfl i)
    obtain ⟨s2, b1, b2, b3, b4, -, -⟩ := m_readToken h hT1 a2 (by omega) hb.2.2
    have hk2 := tkK_b h (c := tkE B l c) (by omega) hb.2.2
    unfold j_173_32
    rw [zg_pos (by decide), if_neg (by decide), zb_of b1, b3]
    by_cases h41 : tkK B l (tkE B l c) = 41
    · rw [if_pos ((km_51 hk2.1).mpr h41), if_pos ⟨h2, h41⟩]
      exact ⟨_, rfl, key s2⟩
    · rw [if_neg (fun h => h41 ((km_51 hk2.1).mp h)), if_neg (fun h => h41 h.2)]
      exact ⟨_, rfl, key s2⟩
  · rw [if_neg (fun h => h2 ((km_1 hk.1).mp h)), if_neg (fun h => h2 h.1)]
    unfold j_173_32
    rw [zg_pos (by decide), if_pos rfl, zg_pos (Or.inl rfl)]
    exact ⟨_, rfl, key s1⟩
theorem tk41 (h : TB B l) (c0 : 0 ≤ c) (cl : c ≤ l) : tkK B l c = 41 ↔ (tkP B l c < l ∧ B (tkP B l c) = 58 ∧ ¬ (tkP B l c + 1 < l ∧ B (tkP B l c + 1) = 62)) := by
  obtain ⟨⟨a1, a2, a3⟩, a4⟩ := tkP_spec h c0 cl
  obtain ⟨l0, l6, hb⟩ := id h
  unfold tkK tkW tkE
  generalize tkP B l c = p at a1 a2 a3 a4
  by_cases hp : p < l
  · have hbp := hb p (by omega) hp
    rw [if_pos hp, if_pos hp]
    by_cases hz : zlet (B p)
    · rw [if_pos hz, if_pos hz]
      have := (kwk_spec (zwd B p (rn (fun i => decide (zlet (B i))) l p - p).toNat) default).2.2
      constructor
      · intro h
        split at h
        · omega
        · split at h <;> omega
      · intro h; omega
    · rw [if_neg hz, if_neg hz]
      by_cases hd : zdig (B p)
      · rw [if_pos hd, if_pos hd]
        constructor
        · intro h
          split at h <;> omega
        · intro h; omega
      · rw [if_neg hd]
        have hN : tkN B l p = if p + 1 < l then B (p + 1) else 0 := rfl
        have hps := psk_b (B p) (tkN B l p)
        by_cases h58 : B p = 58
        · have hpsk : psk (B p) (tkN B l p) = if tkN B l p = 62 then 23 else 0 := by
            unfold psk
            rw [if_neg (by omega), if_neg (by omega), if_neg (by omega)]
            by_cases h62 : tkN B l p = 62
            · rw [if_pos ⟨h58, h62⟩, if_pos h62]
            · rw [if_neg (fun h => h62 h.2), if_neg h62]
          have hsg : sgk 58 = 41 := by decide
          rw [hpsk]
          by_cases h62 : tkN B l p = 62
          · rw [if_pos h62, if_neg (by decide)]
            constructor
            · intro h; omega
            · rintro ⟨-, -, h⟩
              exfalso
              apply h
              rw [hN] at h62
              by_cases hn : p + 1 < l
              · rw [if_pos hn] at h62; exact ⟨hn, h62⟩
              · rw [if_neg hn] at h62; omega
          · rw [if_neg h62, if_pos rfl, h58, hsg]
            refine ⟨fun _ => ⟨hp, rfl, fun h => ?_⟩, fun _ => rfl⟩
            rw [hN, if_pos h.1] at h62
            exact h62 h.2
        · constructor
          · intro h
            exfalso
            by_cases h0 : psk (B p) (tkN B l p) = 0
            · rw [if_pos h0] at h
              obtain ⟨r, -, -, h3⟩ := c_sign (s := default) hbp.1 hbp.2
              rcases h3 with h3 | ⟨r0, r1, r2, -, r4⟩
              · omega
              · have : r = 17 := by omega
                rw [this] at r4
                have h17 : zst1 17 = 58 := by decide
                omega
            · rw [if_neg h0] at h
              omega
          · intro h; omega
  · rw [if_neg hp]
    constructor
    · intro h; omega
    · intro h; omega
theorem c_isBinderNext {s : zS} (h : TB B l) (hT : CT s B l) (hc : gI s 8 2 = c) (c0 : 0 ≤ c) (cl : c ≤ l) : f_69 s = some (bnx B l c) := by
  obtain ⟨⟨a1, a2, a3⟩, a4⟩ := tkP_spec h c0 cl
  have hbE := tkE_b h c0 cl
  have e1 := c_blanks h hT c0 cl
  have e2 := c_lettersEnd h hT (c := tkP B l c) (by omega) a4
  obtain ⟨⟨b1, b2, b3⟩, b4⟩ := rn_spec (P := fun i => decide (zlet (B i))) (l := l) (i := tkP B l c) (by omega) a4 h.2.1
  have l6 := h.2.1
  have h2iff : (tkK B l c = 2 ↔ (1 ≤ rn (fun i => decide (zlet (B i))) l (tkP B l c) - tkP B l c ∧ rn (fun i => decide (zlet (B i))) l (tkP B l c) - tkP B l c ≤ 6 ∧ kwk (zwd B (tkP B l c) (rn (fun i => decide (zlet (B i))) l (tkP B l c) - tkP B l c).toNat) = 2)) ∧ (tkK B l c = 2 → tkE B l c = rn (fun i => decide (zlet (B i))) l (tkP B l c)) := by
    obtain ⟨-, -, hb⟩ := id h
    unfold tkK tkW tkE
    generalize tkP B l c = p at a1 a2 a3 a4 b1 b2 b3 b4
    by_cases hp : p < l
    · have hbp := hb p (by omega) hp
      rw [if_pos hp, if_pos hp]
      by_cases hz : zlet (B p)
      · rw [if_pos hz, if_pos hz]
        have hj : p < rn (fun i => decide (zlet (B i))) l p := by
          by_cases hj : p < rn (fun i => decide (zlet (B i))) l p
          · exact hj
          · exfalso
            apply b3
            have : rn (fun i => decide (zlet (B i))) l p = p := by omega
            rw [this]
            exact ⟨hp, decide_eq_true hz⟩
        refine ⟨⟨fun h => ?_, fun h => ?_⟩, fun _ => rfl⟩
        · by_cases h7 : 7 < rn (fun i => decide (zlet (B i))) l p - p
          · rw [if_pos h7] at h; omega
          · rw [if_neg h7] at h
            by_cases h6 : kwk (zwd B p (rn (fun i => decide (zlet (B i))) l p - p).toNat) = 2 ∧ 6 < rn (fun i => decide (zlet (B i))) l p - p
            · rw [if_pos h6] at h; omega
            · rw [if_neg h6] at h
              exact ⟨by omega, by omega, h⟩
        · rw [if_neg (by omega), if_neg (by omega)]
          exact h.2.2
      · rw [if_neg hz, if_neg hz]
        have hj : rn (fun i => decide (zlet (B i))) l p = p := by
          by_cases hj : p < rn (fun i => decide (zlet (B i))) l p
          · exact absurd (of_decide_eq_true (b2 p (by omega) hj).2) hz
          · omega
        rw [hj]
        refine ⟨⟨fun h => ?_, fun h => by omega⟩, fun h => ?_⟩
        · exfalso
          by_cases hd : zdig (B p)
          · rw [if_pos hd] at h
            split at h <;> omega
          · rw [if_neg hd] at h
            by_cases h0 : psk (B p) (tkN B l p) = 0
            · rw [if_pos h0] at h
              obtain ⟨r, -, -, h3⟩ := c_sign (s := default) hbp.1 hbp.2
              omega
            · rw [if_neg h0] at h
              have := psk_b (B p) (tkN B l p)
              omega
        · exfalso
          by_cases hd : zdig (B p)
          · rw [if_pos hd] at h
            split at h <;> omega
          · rw [if_neg hd] at h
            by_cases h0 : psk (B p) (tkN B l p) = 0
            · rw [if_pos h0] at h
              obtain ⟨r, -, -, h3⟩ := c_sign (s := default) hbp.1 hbp.2
              omega
            · rw [if_neg h0] at h
              have := psk_b (B p) (tkN B l p)
              omega
    · have hj : rn (fun i => decide (zlet (B i))) l p = p := by omega
      rw [if_neg hp, hj]
      exact ⟨⟨fun h => by omega, fun h => by omega⟩, fun h => by omega⟩
  unfold f_69
  rw [hc, zo_of e1, zo_of e2, zg_pos ⟨by omega, by omega⟩]
  unfold bnx
  by_cases hn1 : rn (fun i => decide (zlet (B i))) l (tkP B l c) - tkP B l c < 1
  · rw [if_pos hn1, if_neg (fun hh => by have := h2iff.1.mp hh.1; omega)]
  · rw [if_neg hn1]
    by_cases hn6 : 6 < rn (fun i => decide (zlet (B i))) l (tkP B l c) - tkP B l c
    · rw [if_pos hn6, if_neg (fun hh => by have := h2iff.1.mp hh.1; omega)]
    · have e3 := c_wordBetween h hT (c := tkP B l c) (j := rn (fun i => decide (zlet (B i))) l (tkP B l c)) (by omega) (by omega) b4
      obtain ⟨k1, -, k2, k3⟩ := kwk_spec (zwd B (tkP B l c) (rn (fun i => decide (zlet (B i))) l (tkP B l c) - tkP B l c).toNat) s
      rw [if_neg hn6, zo_of e3, zo_of k1, zg_pos ⟨by omega, by omega⟩]
      by_cases hk : kwk (zwd B (tkP B l c) (rn (fun i => decide (zlet (B i))) l (tkP B l c) - tkP B l c).toNat) = 2
      · have h2 : tkK B l c = 2 := h2iff.1.mpr ⟨by omega, by omega, hk⟩
        have hE := h2iff.2 h2
        have e4 := c_blanks h hT (c := tkE B l c) (by omega) hbE.2.2
        have h41 := tk41 h (c := tkE B l c) (by omega) hbE.2.2
        have hP := tkP_spec h (c := tkE B l c) (by omega) hbE.2.2
        have hP0 := hP.1.1
        rw [if_pos hk, ← hE, zo_of e4, zg_pos ⟨by omega, by omega⟩, hT.1]
        by_cases p1 : tkP B l (tkE B l c) < l
        · rw [if_pos p1, zg_pos ⟨by omega, by omega⟩, hT.2 _ (by omega) p1]
          by_cases p2 : B (tkP B l (tkE B l c)) = 58
          · rw [if_pos p2, zg_pos ⟨by omega, by omega⟩]
            by_cases p3 : tkP B l (tkE B l c) + 1 < l
            · rw [if_pos p3, zg_pos ⟨by omega, by omega⟩, hT.2 _ (by omega) p3]
              by_cases p4 : B (tkP B l (tkE B l c) + 1) = 62
              · rw [if_pos p4, if_neg (fun hh => (h41.mp hh.2).2.2 ⟨p3, p4⟩)]
              · rw [if_neg p4, if_pos ⟨h2, h41.mpr ⟨p1, p2, fun hh => p4 hh.2⟩⟩]
            · rw [if_neg p3, if_pos ⟨h2, h41.mpr ⟨p1, p2, fun hh => p3 hh.1⟩⟩]
          · rw [if_neg p2, if_neg (fun hh => p2 (h41.mp hh.2).2.1)]
        · rw [if_neg p1, if_neg (fun hh => p1 (h41.mp hh.2).1)]
      · rw [if_neg hk, if_neg (fun hh => hk (h2iff.1.mp hh.1).2.2)]
end AHEAD
