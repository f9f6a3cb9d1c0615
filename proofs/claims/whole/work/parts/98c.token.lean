/-! TOKENS: the reference; a name and a colon ahead. -/
section TOK
variable {B : Int → Int} {l p c : Int}
theorem tkK_b (h : TB B l) (c0 : 0 ≤ c) (cl : c ≤ l) : 0 ≤ tkK B l c ∧ tkK B l c ≤ 42 ∧ (tkK B l c = 0 ↔ ¬ tkP B l c < l) := by
  obtain ⟨⟨a1, a2, a3⟩, a4⟩ := tkP_spec h c0 cl
  obtain ⟨l0, l6, hb⟩ := id h
  unfold tkK tkW tkE
  generalize tkP B l c = p at a1 a2 a3 a4
  by_cases hp : p < l
  · have hbp := hb p (by omega) hp
    rw [if_pos hp, if_pos hp]
    by_cases hz : zlet (B p)
    · rw [if_pos hz, if_pos hz]
      have := (kwk_spec (zwd B p (rn (fun i => decide (zlet (B i))) l p - p).toNat) default).2.2
      split
      · omega
      · split <;> omega
    · rw [if_neg hz, if_neg hz]
      by_cases hd : zdig (B p)
      · rw [if_pos hd, if_pos hd]
        split <;> omega
      · rw [if_neg hd]
        by_cases hps : psk (B p) (tkN B l p) = 0
        · rw [if_pos hps]
          obtain ⟨r, -, -, h3⟩ := c_sign (s := default) hbp.1 hbp.2
          omega
        · rw [if_neg hps]
          have := psk_b (B p) (tkN B l p)
          omega
  · rw [if_neg hp]
    omega
theorem tkE_b (h : TB B l) (c0 : 0 ≤ c) (cl : c ≤ l) : c ≤ tkP B l c ∧ tkP B l c ≤ tkE B l c ∧ tkE B l c ≤ l := by
  obtain ⟨⟨a1, a2, a3⟩, a4⟩ := tkP_spec h c0 cl
  obtain ⟨l0, l6, hb⟩ := id h
  unfold tkE
  generalize tkP B l c = p at a1 a2 a3 a4
  by_cases hp : p < l
  · rw [if_pos hp]
    have h1 := rn_spec (P := fun i => decide (zlet (B i))) (l := l) (i := p) (by omega) a4 l6
    have h2 := rn_spec (P := fun i => decide (zdig (B i))) (l := l) (i := p) (by omega) a4 l6
    have h11 := h1.1.1
    have h21 := h2.1.1
    by_cases hz : zlet (B p)
    · rw [if_pos hz]; omega
    · rw [if_neg hz]
      by_cases hd : zdig (B p)
      · rw [if_pos hd]; omega
      · rw [if_neg hd]
        by_cases hps : psk (B p) (tkN B l p) = 0
        · rw [if_pos hps]; omega
        · rw [if_neg hps]
          have : p + 1 < l := by
            by_cases hn : p + 1 < l
            · exact hn
            · exfalso
              apply hps
              unfold tkN
              rw [if_neg hn]
              unfold psk
              rw [if_neg (by omega), if_neg (by omega), if_neg (by omega), if_neg (by omega)]
          omega
  · rw [if_neg hp]
    omega
theorem m_byteAt {s : zS} {i : Int} (h : TB B l) (hT : MT s B l) (i0 : 0 ≤ i) (i1 : i ≤ 1000) : f_160 i s = some (if i < l then B i else -1) := by
  have := h.2.1
  unfold f_160
  rw [zg_pos ⟨by omega, by omega⟩, hT.1]
  by_cases hc : i < l
  · rw [if_pos hc, if_pos hc, zg_pos ⟨i0, by omega⟩, hT.2 i i0 hc]
  · rw [if_neg hc, if_neg hc]
theorem m_readWord {s : zS} (h : TB B l) (hT : MT s B l) (hp : gI s 177 26 = p) (p0 : 0 ≤ p) (pl : p < l) : ∃ s', f_161 s = some ((), s') ∧ gI s' 177 26 = rn (fun i => decide (zlet (B i))) l p ∧ gI s' 177 27 = km (if 7 < rn (fun i => decide (zlet (B i))) l p - p then 1 else if kwk (zwd B p (rn (fun i => decide (zlet (B i))) l p - p).toNat) = 2 ∧ 6 < rn (fun i => decide (zlet (B i))) l p - p then 1 else kwk (zwd B p (rn (fun i => decide (zlet (B i))) l p - p).toNat)) ∧ (rn (fun i => decide (zlet (B i))) l p - p ≤ 7 → gJ s' 177 29 = zwd B p (rn (fun i => decide (zlet (B i))) l p - p).toNat) := by
  obtain ⟨⟨a1, a2, a3⟩, a4⟩ := rn_spec (P := fun i => decide (zlet (B i))) p0 (by omega) h.2.1
  generalize rn (fun i => decide (zlet (B i))) l p = j at a1 a2 a3 a4
  obtain ⟨l0, l6, hb⟩ := id h
  have hl := zlp_F (B := fun (q : BitVec 64 × Int × zS) => b_161_4 q.1 q.2.1 q.2.2) (I := fun q => zfr 173291855882550928723650886508942731464777317210988535948154973788413831737851601439998400381508723631086950685087723239310884864 s q.2.2 ∧ p ≤ gI q.2.2 177 26 ∧ gI q.2.2 177 26 ≤ j ∧ q.2.1 = gI q.2.2 177 26 - p ∧ q.1 = zwd B p (if q.2.1 < 7 then q.2.1 else 7).toNat) (μ := fun q => (j - gI q.2.2 177 26).toNat) (Q := fun t => zfr 173291855882550928723650886508942731464777317210988535948154973788413831737851601439998400381508723631086950685087723239310884864 s t.2.2 ∧ gI t.2.2 177 26 = j ∧ t.2.1 = j - p ∧ t.1 = zwd B p (if j - p < 7 then j - p else 7).toNat) (by
    rintro ⟨w, n, σ⟩ ⟨q0, q1, q2, q3, q4⟩
    dsimp only at q0 q1 q2 q3 q4 ⊢
    have hTσ : MT σ B l := hT.of (q0.i rfl) (fun i => q0.ia (c := 178) rfl rfl i)
    generalize hq : gI σ 177 26 = q at q1 q2 q3
    have eb := m_byteAt h hTσ (i := q) (by omega) (by omega)
    unfold b_161_4
    rw [hq, zo_of eb]
    by_cases hc : q < l
    · have hbq := hb q (by omega) hc
      rw [if_pos hc] at eb ⊢
      rw [zo_of (m_isLetter ⟨by omega, by omega⟩)]
      by_cases hz : zlet (B q)
      · left
        rw [if_pos hz, zg_pos (by decide), if_neg (by decide), zg_pos ⟨by omega, by omega⟩]
        have hne : q ≠ j := fun e => a3 ⟨by omega, decide_eq_true (by rw [← e]; exact hz)⟩
        have g2 : gI (sI σ 177 26 (q + 1)) 177 26 = q + 1 := gI_same ⟨by omega, by omega⟩
        by_cases h7 : n < 7
        · rw [if_pos h7, zo_of eb, zg_pos ⟨by omega, by omega⟩]
          refine ⟨_, rfl, ⟨zfr_sI q0 rfl, ?_, ?_, ?_, ?_⟩, ?_⟩
          · dsimp only; rw [g2]; omega
          · dsimp only; rw [g2]; omega
          · dsimp only; rw [g2]; omega
          · dsimp only
            rw [if_pos h7] at q4
            rw [show (if n + 1 < 7 then n + 1 else 7).toNat = n.toNat + 1 by split <;> omega, zwd, ← q4, show p + (n.toNat : Int) = q by omega]
            rfl
          · dsimp only; rw [g2]; omega
        · rw [if_neg h7]
          refine ⟨_, rfl, ⟨zfr_sI q0 rfl, ?_, ?_, ?_, ?_⟩, ?_⟩
          · dsimp only; rw [g2]; omega
          · dsimp only; rw [g2]; omega
          · dsimp only; rw [g2]; omega
          · dsimp only
            rw [if_neg h7] at q4
            rw [if_neg (by omega)]
            exact q4
          · dsimp only; rw [g2]; omega
      · right
        rw [if_neg hz, zg_pos (by decide), if_pos rfl]
        have e : q = j := by
          by_cases hj : q < j
          · exact absurd (of_decide_eq_true (a2 q q1 hj).2) hz
          · omega
        refine ⟨_, rfl, q0, by dsimp only; rw [hq, e], by dsimp only; omega, ?_⟩
        dsimp only
        rw [q4, q3, e]
    · right
      rw [if_neg hc, zo_of (m_isLetter (by decide)), if_neg (by decide), zg_pos (by decide), if_pos rfl]
      have e : q = j := by omega
      refine ⟨_, rfl, q0, by dsimp only; rw [hq, e], by dsimp only; omega, ?_⟩
      dsimp only
      rw [q4, q3, e]) (s := ((0#64), 0, s)) ⟨zfr_rf _ _, by dsimp only; omega, by dsimp only; omega, by dsimp only; omega, rfl⟩ (by dsimp only; omega)
  obtain ⟨⟨w, n, t⟩, e, z, hj, hn, hw⟩ := hl
  dsimp only at z hj hn hw
  subst hn
  have g26 : ∀ (x : Int) (y : BitVec 64), gI (sJ (sI t 177 27 x) 177 29 y) 177 26 = j := fun x y => by
    rw [gI_sJ, gI_ni (by decide)]; exact hj
  have g27 : ∀ (x : Int) (y : BitVec 64), zR x → gI (sJ (sI t 177 27 x) 177 29 y) 177 27 = x := fun x y hx => by
    rw [gI_sJ]; exact gI_same hx
  unfold f_161
  rw [zo_of e]
  dsimp only
  rw [zg_pos ⟨by omega, by omega⟩]
  by_cases h7 : 7 < j - p
  · rw [if_pos h7, if_pos h7]
    unfold j_161_73
    rw [zg_pos (by decide), if_pos rfl, zg_pos ⟨by omega, by omega⟩, if_pos (by omega)]
    exact ⟨_, rfl, g26 _ _, g27 _ _ (by decide), fun h => by omega⟩
  · rw [if_neg h7, if_neg h7]
    have hw' : w = zwd B p (j - p).toNat := by
      rw [hw]
      by_cases h : j - p < 7
      · rw [if_pos h]
      · rw [if_neg h, show (7 : Int).toNat = (j - p).toNat by omega]
    rw [← hw']
    obtain ⟨-, k1, k2, k3⟩ := kwk_spec w s
    rw [zo_of k1]
    unfold j_161_73
    by_cases h2 : kwk w = 2
    · rw [if_pos h2, zg_pos (by decide), if_pos rfl, zg_pos ⟨by omega, by omega⟩]
      by_cases h6 : 6 < j - p
      · rw [if_pos h6, if_pos ⟨h2, h6⟩]
        exact ⟨_, rfl, g26 _ _, g27 _ _ (by decide), fun _ => gJ_same⟩
      · rw [if_neg h6, if_neg (fun h => h6 h.2), h2]
        exact ⟨_, rfl, g26 _ _, g27 _ _ (by decide), fun _ => gJ_same⟩
    · rw [if_neg h2, zg_pos ⟨by omega, by omega⟩, if_neg (by omega), if_neg (fun h => h2 h.1)]
      refine ⟨_, rfl, g26 _ _, ?_, fun _ => gJ_same⟩
      rw [g27 _ _ ⟨by omega, by omega⟩]
      unfold km
      rw [if_neg (by omega), if_neg (by omega), if_neg (by omega), if_neg (by omega), if_pos (by omega)]
theorem m_readNumber {s : zS} (h : TB B l) (hT : MT s B l) (hp : gI s 177 26 = p) (p0 : 0 ≤ p) (pl : p < l) : ∃ s', f_163 s = some ((), s') ∧ gI s' 177 26 = rn (fun i => decide (zdig (B i))) l p ∧ gI s' 177 27 = km (if 3 < rn (fun i => decide (zdig (B i))) l p - p then 1 else 3) ∧ (rn (fun i => decide (zdig (B i))) l p - p ≤ 3 → gI s' 177 30 = znm B p (rn (fun i => decide (zdig (B i))) l p - p).toNat) := by
  obtain ⟨⟨a1, a2, a3⟩, a4⟩ := rn_spec (P := fun i => decide (zdig (B i))) p0 (by omega) h.2.1
  generalize rn (fun i => decide (zdig (B i))) l p = j at a1 a2 a3 a4
  obtain ⟨l0, l6, hb⟩ := id h
  have hl := zlp_F (B := fun (q : Int × Int × zS) => b_163_4 q.1 q.2.1 q.2.2) (I := fun q => zfr 173291855882550928723650886508942731464777317210988535948154973788413831737851601439998400381508723631086950685087723239310884864 s q.2.2 ∧ p ≤ gI q.2.2 177 26 ∧ gI q.2.2 177 26 ≤ j ∧ q.2.1 = gI q.2.2 177 26 - p ∧ q.1 = znm B p (if q.2.1 < 3 then q.2.1 else 3).toNat) (μ := fun q => (j - gI q.2.2 177 26).toNat) (Q := fun t => zfr 173291855882550928723650886508942731464777317210988535948154973788413831737851601439998400381508723631086950685087723239310884864 s t.2.2 ∧ gI t.2.2 177 26 = j ∧ t.2.1 = j - p ∧ t.1 = znm B p (if j - p < 3 then j - p else 3).toNat) (by
    rintro ⟨w, n, σ⟩ ⟨q0, q1, q2, q3, q4⟩
    dsimp only at q0 q1 q2 q3 q4 ⊢
    have hTσ : MT σ B l := hT.of (q0.i rfl) (fun i => q0.ia (c := 178) rfl rfl i)
    generalize hq : gI σ 177 26 = q at q1 q2 q3
    have eb := m_byteAt h hTσ (i := q) (by omega) (by omega)
    unfold b_163_4
    rw [hq, zo_of eb]
    by_cases hc : q < l
    · have hbq := hb q (by omega) hc
      rw [if_pos hc] at eb ⊢
      rw [zo_of (m_isDigit ⟨by omega, by omega⟩)]
      by_cases hz : zdig (B q)
      · left
        rw [if_pos hz, zg_pos (by decide), if_neg (by decide), zg_pos ⟨by omega, by omega⟩]
        have hne : q ≠ j := fun e => a3 ⟨by omega, decide_eq_true (by rw [← e]; exact hz)⟩
        have g2 : gI (sI σ 177 26 (q + 1)) 177 26 = q + 1 := gI_same ⟨by omega, by omega⟩
        by_cases h7 : n < 3
        · rw [if_pos h7, zo_of eb]
          refine ⟨_, rfl, ⟨zfr_sI q0 rfl, ?_, ?_, ?_, ?_⟩, ?_⟩
          · dsimp only; rw [g2]; omega
          · dsimp only; rw [g2]; omega
          · dsimp only; rw [g2]; omega
          · dsimp only
            rw [if_pos h7] at q4
            rw [show (if n + 1 < 3 then n + 1 else 3).toNat = n.toNat + 1 by split <;> omega, znm, ← q4, show p + (n.toNat : Int) = q by omega]
          · dsimp only; rw [g2]; omega
        · rw [if_neg h7]
          refine ⟨_, rfl, ⟨zfr_sI q0 rfl, ?_, ?_, ?_, ?_⟩, ?_⟩
          · dsimp only; rw [g2]; omega
          · dsimp only; rw [g2]; omega
          · dsimp only; rw [g2]; omega
          · dsimp only
            rw [if_neg h7] at q4
            rw [if_neg (by omega)]
            exact q4
          · dsimp only; rw [g2]; omega
      · right
        rw [if_neg hz, zg_pos (by decide), if_pos rfl]
        have e : q = j := by
          by_cases hj : q < j
          · exact absurd (of_decide_eq_true (a2 q q1 hj).2) hz
          · omega
        refine ⟨_, rfl, q0, by dsimp only; rw [hq, e], by dsimp only; omega, ?_⟩
        dsimp only
        rw [q4, q3, e]
    · right
      rw [if_neg hc, zo_of (m_isDigit (by decide)), if_neg (by decide), zg_pos (by decide), if_pos rfl]
      have e : q = j := by omega
      refine ⟨_, rfl, q0, by dsimp only; rw [hq, e], by dsimp only; omega, ?_⟩
      dsimp only
      rw [q4, q3, e]) (s := (0, 0, s)) ⟨zfr_rf _ _, by dsimp only; omega, by dsimp only; omega, by dsimp only; omega, rfl⟩ (by dsimp only; omega)
  obtain ⟨⟨w, n, t⟩, e, z, hj, hn, hw⟩ := hl
  dsimp only at z hj hn hw
  subst hn
  have g26 : ∀ (x y : Int), gI (sI (sI t 177 27 x) 177 30 y) 177 26 = j := fun x y => by
    rw [gI_ni (by decide), gI_ni (by decide)]; exact hj
  have g27 : ∀ (x y : Int), zR x → gI (sI (sI t 177 27 x) 177 30 y) 177 27 = x := fun x y hx => by
    rw [gI_ni (by decide)]; exact gI_same hx
  unfold f_163
  rw [zo_of e]
  dsimp only
  rw [zg_pos ⟨by omega, by omega⟩]
  by_cases h7 : 3 < j - p
  · rw [if_pos h7, if_pos h7]
    exact ⟨_, rfl, g26 _ _, g27 _ _ (by decide), fun h => by omega⟩
  · rw [if_neg h7, if_neg h7]
    have hw' : w = znm B p (j - p).toNat := by
      rw [hw]
      by_cases h : j - p < 3
      · rw [if_pos h]
      · rw [if_neg h, show (3 : Int).toNat = (j - p).toNat by omega]
    have hbd := znm_b3 (B := B) (i := p) (n := (j - p).toNat) (by omega) (fun k k0 k1 => of_decide_eq_true (a2 k k0 (by omega)).2)
    refine ⟨_, rfl, g26 _ _, g27 _ _ (by decide), fun _ => ?_⟩
    rw [gI_same (by rw [hw']; exact ⟨by omega, by omega⟩), hw']
theorem m_blanks {s : zS} (h : TB B l) (hT : MT s B l) (hc : gI s 177 26 = c) (c0 : 0 ≤ c) (cl : c ≤ l) : ∃ t, zlp (fun (q : zS) => b_159_0 q) zF s = some t ∧ zfr 173291855882550928723650886508942731464777317210988535948154973788413831737851601439998400381508723631086950685087723239310884864 s t ∧ gI t 177 26 = tkP B l c := by
  obtain ⟨⟨a1, a2, a3⟩, a4⟩ := tkP_spec h c0 cl
  obtain ⟨l0, l6, hb⟩ := h
  generalize tkP B l c = j at a1 a2 a3 a4
  exact zlp_F (B := fun (q : zS) => b_159_0 q) (I := fun q => zfr 173291855882550928723650886508942731464777317210988535948154973788413831737851601439998400381508723631086950685087723239310884864 s q ∧ c ≤ gI q 177 26 ∧ gI q 177 26 ≤ j) (μ := fun q => (j - gI q 177 26).toNat) (Q := fun t => zfr 173291855882550928723650886508942731464777317210988535948154973788413831737851601439998400381508723631086950685087723239310884864 s t ∧ gI t 177 26 = j) (by
    rintro σ ⟨z, q0, q1⟩
    have hTσ : MT σ B l := hT.of (z.i rfl) (fun i => z.ia (c := 178) rfl rfl i)
    generalize hq : gI σ 177 26 = q at q0 q1
    unfold b_159_0
    rw [hq, hTσ.1]
    by_cases hc : q < l
    · rw [if_pos hc, zg_pos ⟨by omega, by omega⟩, hTσ.2 q (by omega) hc]
      by_cases h32 : 32 < B q
      · right
        rw [if_pos h32]
        refine ⟨_, rfl, z, ?_⟩
        by_cases hj : q < j
        · have := of_decide_eq_true (a2 q q0 hj).2
          omega
        · omega
      · left
        rw [if_neg h32]
        have hne : q ≠ j := fun e => a3 ⟨by omega, decide_eq_true (by rw [← e]; omega)⟩
        have g2 : gI (sI σ 177 26 (q + 1)) 177 26 = q + 1 := gI_same ⟨by omega, by omega⟩
        exact ⟨_, rfl, ⟨zfr_sI z rfl, by rw [g2]; omega, by rw [g2]; omega⟩, by rw [g2]; omega⟩
    · right
      rw [if_neg hc]
      exact ⟨_, rfl, z, by omega⟩) (s := s) ⟨zfr_rf _ _, by omega, by omega⟩ (by omega)
theorem m_pairs {s : zS} {b d : Int} {x : Int} (hb : zR b) (hd : zR d) (hx : f_164 b = some x) : (if b = 45 then zg (zR d) (if d = 62 then some ((), sI (sI s 177 27 30) 177 26 (gI s 177 26 + 2)) else j_159_138 b d s) else j_159_138 b d s) = some ((), if psk b d = 0 then sI (sI s 177 27 x) 177 26 (gI s 177 26 + 1) else sI (sI s 177 27 (psk b d + 10)) 177 26 (gI s 177 26 + 2)) := by
  have h231 : j_159_231 b s = some ((), sI (sI s 177 27 x) 177 26 (gI s 177 26 + 1)) := by
    unfold j_159_231
    rw [zo_of hx]
  have h138 : ¬ (b = 45 ∧ d = 62) → j_159_138 b d s = some ((), if psk b d = 0 then sI (sI s 177 27 x) 177 26 (gI s 177 26 + 1) else sI (sI s 177 27 (psk b d + 10)) 177 26 (gI s 177 26 + 2)) := by
    intro h0
    unfold j_159_138
    rw [zg_pos hb, zg_pos hd]
    by_cases h1 : b = 43
    · rw [if_pos h1]
      by_cases h2 : d = 43
      · have hq : psk b d = 21 := by unfold psk; rw [if_neg h0, if_pos ⟨h1, h2⟩]
        rw [if_pos h2, hq, if_neg (by decide)]
        rfl
      · have hq : psk b d = 0 := by unfold psk; rw [if_neg h0, if_neg (fun h => h2 h.2), if_neg (by omega), if_neg (by omega)]
        rw [if_neg h2, hq, if_pos rfl]
        unfold j_159_169 j_159_200
        rw [zg_pos hb, if_neg (by omega), zg_pos hb, if_neg (by omega), h231]
    · rw [if_neg h1]
      unfold j_159_169
      rw [zg_pos hb, zg_pos hd]
      by_cases h3 : b = 60
      · rw [if_pos h3]
        by_cases h4 : d = 58
        · have hq : psk b d = 22 := by unfold psk; rw [if_neg h0, if_neg (by omega), if_pos ⟨h3, h4⟩]
          rw [if_pos h4, hq, if_neg (by decide)]
          rfl
        · have hq : psk b d = 0 := by unfold psk; rw [if_neg h0, if_neg (by omega), if_neg (by omega), if_neg (by omega)]
          rw [if_neg h4, hq, if_pos rfl]
          unfold j_159_200
          rw [zg_pos hb, if_neg (by omega), h231]
      · rw [if_neg h3]
        unfold j_159_200
        rw [zg_pos hb, zg_pos hd]
        by_cases h5 : b = 58
        · rw [if_pos h5]
          by_cases h6 : d = 62
          · have hq : psk b d = 23 := by unfold psk; rw [if_neg h0, if_neg (by omega), if_neg (by omega), if_pos ⟨h5, h6⟩]
            rw [if_pos h6, hq, if_neg (by decide)]
            rfl
          · have hq : psk b d = 0 := by unfold psk; rw [if_neg h0, if_neg (by omega), if_neg (by omega), if_neg (by omega)]
            rw [if_neg h6, hq, if_pos rfl, h231]
        · have hq : psk b d = 0 := by unfold psk; rw [if_neg h0, if_neg (by omega), if_neg (by omega), if_neg (by omega)]
          rw [if_neg h5, hq, if_pos rfl, h231]
  by_cases h1 : b = 45
  · rw [if_pos h1, zg_pos hd]
    by_cases h2 : d = 62
    · rw [if_pos h2]
      have : psk b d = 20 := by unfold psk; rw [if_pos ⟨h1, h2⟩]
      rw [this, if_neg (by decide)]
      rfl
    · rw [if_neg h2]
      exact h138 (fun h => h2 h.2)
  · rw [if_neg h1]
    exact h138 (fun h => h1 h.1)
theorem psk_N (p : Int) (b : Int) : psk b (if p + 1 < l then B (p + 1) else -1) = psk b (tkN B l p) := by
  unfold tkN
  by_cases h : p + 1 < l
  · rw [if_pos h, if_pos h]
  · rw [if_neg h, if_neg h]
    unfold psk
    rw [if_neg (by omega), if_neg (by omega), if_neg (by omega), if_neg (by omega), if_neg (by omega), if_neg (by omega), if_neg (by omega), if_neg (by omega)]
theorem m_readToken {s : zS} (h : TB B l) (hT : MT s B l) (hc : gI s 177 26 = c) (c0 : 0 ≤ c) (cl : c ≤ l) : ∃ s', f_159 s = some ((), s') ∧ gI s' 177 26 = tkE B l c ∧ gI s' 177 27 = km (tkK B l c) ∧ gI s' 177 28 = tkP B l c ∧ (tkK B l c = 2 → gJ s' 177 29 = tkW B l c) ∧ (tkK B l c = 3 → gI s' 177 30 = tkV B l c) := by
  obtain ⟨⟨a1, a2, a3⟩, a4⟩ := tkP_spec h c0 cl
  obtain ⟨t, e, z, hp26⟩ := m_blanks h hT hc c0 cl
  obtain ⟨l0, l6, hb⟩ := id h
  unfold tkK tkW tkV tkE
  generalize tkP B l c = p at a1 a2 a3 a4 hp26
  have hT1 : MT (sI t 177 28 p) B l := hT.of (by rw [gI_ni (by decide)]; exact z.i rfl) (fun i => by rw [gI_nc (by decide)]; exact z.ia (c := 178) rfl rfl i)
  have x26 : gI (sI t 177 28 p) 177 26 = p := by rw [gI_ni (by decide)]; exact hp26
  have x28 : gI (sI t 177 28 p) 177 28 = p := gI_same ⟨by omega, by omega⟩
  unfold f_159
  rw [zo_of e]
  unfold j_159_38
  rw [hp26, zo_of (m_byteAt h hT1 (by omega) (by omega)), zo_of (m_byteAt h hT1 (i := p + 1) (by omega) (by omega))]
  by_cases hp : p < l
  · have hbp := hb p (by omega) hp
    rw [if_pos hp, if_pos hp, if_pos hp, zg_pos ⟨by omega, by omega⟩, if_neg (by omega), zo_of (m_isLetter ⟨by omega, by omega⟩)]
    by_cases hz : zlet (B p)
    · obtain ⟨s', w1, w2, w3, w4⟩ := m_readWord h hT1 x26 (by omega) hp
      rw [if_pos hz, zg_pos (by decide), if_neg (by decide), zb_of w1, if_pos hz, if_pos hz]
      refine ⟨s', rfl, w2, w3, ?_, ?_, ?_⟩
      · rw [(fr_161 w1).i rfl]; exact x28
      · intro h2
        apply w4
        by_cases h7 : 7 < rn (fun i => decide (zlet (B i))) l p - p
        · rw [if_pos h7] at h2
          omega
        · omega
      · intro h3
        have := (kwk_spec (zwd B p (rn (fun i => decide (zlet (B i))) l p - p).toNat) s).2.2
        split at h3
        · omega
        · split at h3 <;> omega
    · rw [if_neg hz, zg_pos (by decide), if_pos rfl, zo_of (m_isDigit ⟨by omega, by omega⟩), if_neg hz, if_neg hz]
      by_cases hd : zdig (B p)
      · obtain ⟨s', w1, w2, w3, w4⟩ := m_readNumber h hT1 x26 (by omega) hp
        rw [if_pos hd, zg_pos (by decide), if_neg (by decide), zb_of w1, if_pos hd, if_pos hd]
        refine ⟨s', rfl, w2, w3, ?_, ?_, ?_⟩
        · rw [(fr_163 w1).i rfl]; exact x28
        · intro h2
          split at h2 <;> omega
        · intro h3
          exact w4 (by split at h3 <;> omega)
      · rw [if_neg hd, zg_pos (by decide), if_pos rfl, if_neg hd, if_neg hd]
        obtain ⟨r, -, -, h3⟩ := c_sign (s := s) hbp.1 hbp.2
        have hdR : zR (if p + 1 < l then B (p + 1) else -1) := by
          split
          · have := hb (p + 1) (by omega) (by omega)
            exact ⟨by omega, by omega⟩
          · decide
        have hx : f_164 (B p) = some (km (sgk (B p))) ∧ (sgk (B p) = 1 ∨ 24 ≤ sgk (B p)) ∧ zR (km (sgk (B p))) := by
          rcases h3 with ⟨h3, h4, h5⟩ | ⟨h3, h5, h4, h6, -⟩
          · rw [h4, h5]
            exact ⟨rfl, by omega, by decide⟩
          · have : km (24 + r) = 34 + r := by
              unfold km
              rw [if_neg (by omega), if_neg (by omega), if_neg (by omega), if_neg (by omega), if_neg (by omega)]
              omega
            rw [h4, h6, this]
            exact ⟨rfl, by omega, by omega, by omega⟩
        have hm := m_pairs (s := sI t 177 28 p) (b := B p) (d := if p + 1 < l then B (p + 1) else -1) ⟨by omega, by omega⟩ hdR hx.1
        rw [x26, psk_N, show gI t 177 26 = p from hp26] at *
        rw [hm]
        have hps := psk_b (B p) (tkN B l p)
        by_cases h0 : psk (B p) (tkN B l p) = 0
        · rw [if_pos h0, if_pos h0, if_pos h0]
          refine ⟨_, rfl, gI_same ⟨by omega, by omega⟩, ?_, ?_, fun h2 => by omega, fun h2 => by omega⟩
          · rw [gI_ni (by decide), gI_same hx.2.2]
          · rw [gI_ni (by decide), gI_ni (by decide)]; exact x28
        · rw [if_neg h0, if_neg h0, if_neg h0]
          refine ⟨_, rfl, gI_same ⟨by omega, by omega⟩, ?_, ?_, fun h2 => by omega, fun h2 => by omega⟩
          · rw [gI_ni (by decide), gI_same ⟨by omega, by omega⟩]
            unfold km
            rw [if_neg (by omega), if_neg (by omega), if_neg (by omega), if_neg (by omega), if_neg (by omega)]
          · rw [gI_ni (by decide), gI_ni (by decide)]; exact x28
  · rw [if_neg hp, if_neg hp, if_neg hp, zg_pos (by decide), if_pos rfl]
    refine ⟨_, rfl, ?_, gI_same (by decide), ?_, fun h2 => by omega, fun h2 => by omega⟩
    · rw [gI_ni (by decide)]; exact x26
    · rw [gI_ni (by decide)]; exact x28
end TOK
