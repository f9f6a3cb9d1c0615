/-! SEGMENTS of the reference's code: operators with one and with two operands. -/
theorem MP.tr {σ τ ω : zS} {T L N N2 : Int} {V V2 : Vl} (h : MP σ τ T L N V) (h2 : MP τ ω T L N2 V2) : MP σ ω T L N2 V2 := by
  obtain ⟨a1, a2, a3, a4, a5, a6⟩ := h
  obtain ⟨b1, b2, b3, b4, b5, b6⟩ := h2
  refine ⟨zfr_tr a1 b1, b2, b3, b4, fun j j0 j1 => ?_, fun j j0 j1 => ?_⟩
  · rw [(b5 j j0 j1).1, (b5 j j0 j1).2]
    exact a5 j j0 j1
  · rw [(b6 j j0 j1).1, (b6 j j0 j1).2.1, (b6 j j0 j1).2.2.1, (b6 j j0 j1).2.2.2]
    exact a6 j j0 j1
/-- as MP, over a second value that goes -/
theorem MP.tr2 {σ τ ω : zS} {T L N N2 : Int} {V V2 : Vl} (h : MP σ τ (T + 1) L N V) (h2 : MP τ ω T L N2 V2) : MP σ ω T L N2 V2 := by
  obtain ⟨a1, a2, a3, a4, a5, a6⟩ := h
  obtain ⟨b1, b2, b3, b4, b5, b6⟩ := h2
  refine ⟨zfr_tr a1 b1, b2, b3, b4, fun j j0 j1 => ?_, fun j j0 j1 => ?_⟩
  · rw [(b5 j j0 j1).1, (b5 j j0 j1).2]
    exact a5 j j0 (by omega)
  · rw [(b6 j j0 j1).1, (b6 j j0 j1).2.1, (b6 j j0 j1).2.2.1, (b6 j j0 j1).2.2.2]
    exact a6 j j0 j1
section SEG2
variable {n R : Int} {ra cd wt al : Int → Int} {a b c L N N1 N2 : Int} {m m1 m2 : Nat} {D D1 D2 : Dn}
theorem MS.pop {σ : zS} {T T2 : Int} {e : Int → Int} {A : Int → Bool} (h : MS σ n R ra L T e A) (h0 : 0 ≤ T2) (h1 : T2 ≤ 1000) : MS (sI σ 177 46 T2) n R ra L T2 e A := by
  obtain ⟨h1', h2, h3, h4, h5, h6, h7, h8, h9⟩ := h
  refine ⟨by rw [gI_ni (by decide)]; exact h1', h2, h3, h4, gI_same ⟨by omega, by omega⟩, h0, by rw [gI_ni (by decide)]; exact h7, h8, fun j j0 j1 => ?_⟩
  rw [gI_nc (by decide)]
  exact h9 j j0 j1
theorem MP.pop {σ τ : zS} {T T2 : Int} {V : Vl} (h : MP (sI σ 177 46 T2) τ T L N V) : MP σ τ T L N V := by
  obtain ⟨a1, a2, a3, a4, a5, a6⟩ := h
  exact ⟨zfr_tr (zfr_I rfl) a1, a2, a3, a4, a5, a6⟩
theorem pow6 (k : Nat) : 1 ≤ 6 ^ k := Nat.one_le_pow _ _ (by decide)
theorem cost_un {x : Nat} : x * 6 ^ m + 1 ≤ (x + 1) * 6 ^ m := by
  rw [Nat.add_mul, Nat.one_mul]
  have := pow6 m
  omega
theorem cost_bin {x y : Nat} (h1 : m1 ≤ m) (h2 : m2 ≤ m) : x * 6 ^ m1 + y * 6 ^ m2 + 1 ≤ (x + y + 1) * 6 ^ m := by
  have e1 : x * 6 ^ m1 ≤ x * 6 ^ m := Nat.mul_le_mul_left _ (Nat.pow_le_pow_right (by decide) h1)
  have e2 : y * 6 ^ m2 ≤ y * 6 ^ m := Nat.mul_le_mul_left _ (Nat.pow_le_pow_right (by decide) h2)
  rw [Nat.add_mul, Nat.add_mul, Nat.one_mul]
  have := pow6 m
  omega
theorem seg_un (h1 : RSeg n R ra cd wt al a b L m N1 D1) (hstep : ∀ (τ : zS) (row : Int) (e : Int → Int) (A : Int → Bool) (T : Int), RC τ row b (b + 1) cd wt al → MS τ n R ra L (T + 1) e A → 0 ≤ T → T ≤ 100 → RV N1 (gJ τ 198 T) (gJ τ 199 T) (D1 e A) → ∃ ω, b_199_12 row b τ = some (.inl (b + 1, ω)) ∧ MP τ ω T L N (D e A)) : RSeg n R ra cd wt al a (b + 1) L m N D := by
  obtain ⟨hab, h1⟩ := h1
  refine ⟨by omega, fun σ row e A T hC hM hT hL => ?_⟩
  obtain ⟨τ, r1, p1⟩ := h1 σ row e A T (hC.sub (by omega) (by omega)) hM hT hL
  obtain ⟨ω, s1, s2⟩ := hstep τ row e A T ((hC.fr p1.1).sub (by omega) (by omega)) (hM.next p1) hM.2.2.2.2.2.1 (by omega) p1.2.2.2.1
  refine ⟨ω, (r1.tr (zrch.one s1)).le ?_, p1.tr s2⟩
  rw [show (b + 1 - a).toNat = (b - a).toNat + 1 by omega]
  exact cost_un
theorem seg_bin (h1 : RSeg n R ra cd wt al a c L m1 N1 D1) (h2 : RSeg n R ra cd wt al c b L m2 N2 D2) (hm1 : m1 ≤ m) (hm2 : m2 + 1 ≤ m) (hstep : ∀ (τ : zS) (row : Int) (e : Int → Int) (A : Int → Bool) (T : Int), RC τ row b (b + 1) cd wt al → MS τ n R ra L (T + 2) e A → 0 ≤ T → T ≤ 99 → RV N1 (gJ τ 198 T) (gJ τ 199 T) (D1 e A) → RV N2 (gJ τ 198 (T + 1)) (gJ τ 199 (T + 1)) (D2 e A) → ∃ ω, b_199_12 row b τ = some (.inl (b + 1, ω)) ∧ MP τ ω T L N (D e A)) : RSeg n R ra cd wt al a (b + 1) L m N D := by
  obtain ⟨hac, h1⟩ := h1
  obtain ⟨hcb, h2⟩ := h2
  refine ⟨by omega, fun σ row e A T hC hM hT hL => ?_⟩
  obtain ⟨τ, r1, p1⟩ := h1 σ row e A T (hC.sub (by omega) (by omega)) hM (by omega) (by omega)
  have hM1 := hM.next p1
  obtain ⟨υ, r2, p2⟩ := h2 τ row e A (T + 1) ((hC.fr p1.1).sub (by omega) (by omega)) hM1 (by omega) (by omega)
  have hM2 := hM1.next p2
  rw [show T + 1 + 1 = T + 2 by omega] at hM2
  have hT0 := hM.2.2.2.2.2.1
  have k1 := p2.2.2.2.2.1 T hT0 (by omega)
  have hRV1 : RV N1 (gJ υ 198 T) (gJ υ 199 T) (D1 e A) := by
    rw [k1.1, k1.2]
    exact p1.2.2.2.1
  obtain ⟨ω, s1, s2⟩ := hstep υ row e A T (((hC.fr p1.1).fr p2.1).sub (by omega) (by omega)) hM2 hT0 (by omega) hRV1 p2.2.2.2.1
  refine ⟨ω, ((r1.tr r2).tr (zrch.one s1)).le ?_, p1.tr (MP.tr2 p2 s2)⟩
  rw [show (b + 1 - a).toNat = (c - a).toNat + (b - c).toNat + 1 by omega]
  exact cost_bin hm1 (by omega)
/-- the top of the stack, one less -/
theorem top1 {τ : zS} {T : Int} (h : gI τ 177 46 = T + 1) (h0 : 0 ≤ T) (h1 : T ≤ 1000) : sI τ 177 46 (gI τ 177 46 - 1) = sI τ 177 46 T ∧ gI (sI τ 177 46 T) 177 46 = T := by
  rw [h, show T + 1 - 1 = T by omega]
  exact ⟨rfl, gI_same ⟨by omega, by omega⟩⟩
theorem top2 {τ : zS} {T : Int} (h : gI τ 177 46 = T + 2) (h0 : 0 ≤ T) (h1 : T ≤ 1000) : sI τ 177 46 (gI τ 177 46 - 2) = sI τ 177 46 T ∧ gI (sI τ 177 46 T) 177 46 = T := by
  rw [h, show T + 2 - 2 = T by omega]
  exact ⟨rfl, gI_same ⟨by omega, by omega⟩⟩
theorem seg_not (h1 : RSeg n R ra cd wt al a b L m 1 D1) (hb : 0 ≤ b) (hc : cd b = 15) : RSeg n R ra cd wt al a (b + 1) L m 1 (fun e A _ => !D1 e A 0) := by
  refine seg_un h1 (fun τ row e A T hC hM h0 hT hV => ?_)
  obtain ⟨t1, t2⟩ := top1 hM.2.2.2.2.1 h0 (by omega)
  have hp := hM.pop (T2 := T) h0 (by omega)
  have hlo := RV1_lo hV
  obtain ⟨ω, w1, w2⟩ := m_truth (v := !D1 e A 0) (V := fun _ => !D1 e A 0) hp (by omega) rfl
  refine ⟨ω, m_turn_simple (lv := 5) hC (by omega) (by omega) hc (by decide) (by decide) (by decide) rfl rfl (by decide) (by decide) rfl ?_, w2.pop⟩
  unfold f_220
  rw [zg_pos (by decide), show t_220_1 15 = 274 from rfl, if_neg (by decide), if_neg (by decide), if_neg (by decide), if_neg (by decide), if_neg (by decide), if_neg (by decide), if_pos rfl, t1, t2, zg_pos ⟨h0, by omega⟩, hlo]
  cases hd : D1 e A 0 with
  | true =>
    rw [hd] at w1
    rw [if_neg (by decide), zb_of (show f_206 0 (sI τ 177 46 T) = some ((), ω) from w1)]
  | false =>
    rw [hd] at w1
    rw [if_pos (by decide), zb_of (show f_206 1 (sI τ 177 46 T) = some ((), ω) from w1)]
theorem seg_mult {q : Int} (h1 : RSeg n R ra cd wt al a b L m N1 D1) (hN0 : 0 ≤ N1) (hN : N1 ≤ 125) (hb : 0 ≤ b) (hc : cd b = 6) (hw : wt b = q) (q1 : 1 ≤ q) (q4 : q ≤ 4) : RSeg n R ra cd wt al a (b + 1) L m 1 (fun e A _ => vQty q (zcnt N1.toNat (D1 e A)) (-1)) := by
  refine seg_un h1 (fun τ row e A T hC hM h0 hT hV => ?_)
  obtain ⟨t1, t2⟩ := top1 hM.2.2.2.2.1 h0 (by omega)
  have hp := hM.pop (T2 := T) h0 (by omega)
  have hcb := zcnt_b (D1 e A) N1.toNat
  obtain ⟨ω, w1, w2⟩ := m_truth (v := vQty q (zcnt N1.toNat (D1 e A)) (-1)) (V := fun _ => vQty q (zcnt N1.toNat (D1 e A)) (-1)) hp (by omega) rfl
  refine ⟨ω, m_turn_simple (lv := 0) hC (by omega) (by omega) hc (by decide) (by decide) (by decide) rfl rfl (by decide) (by decide) rfl ?_, w2.pop⟩
  unfold f_220
  rw [zg_pos (by decide), show t_220_1 6 = 462 from rfl, if_neg (by decide), if_neg (by decide), if_neg (by decide), if_neg (by decide), if_neg (by decide), if_neg (by decide), if_neg (by decide), if_neg (by decide), if_neg (by decide), if_pos rfl, t1, t2, zg_pos ⟨h0, by omega⟩, m_amount, zo_of rfl, m_count hV hN0 hN, hw, m_isQuantity (by omega) q4 ⟨by omega, by omega⟩ (by decide), zo_of rfl, zb_of w1]
/-- # E compared with a number: 42 =, 43 <, 44 > -/
def vSize (sg x k : Int) : Bool := if sg = 42 then decide (x = k) else if sg = 43 then decide (x < k) else decide (k < x)
theorem seg_count {sg k : Int} (h1 : RSeg n R ra cd wt al a b L m N1 D1) (hN0 : 0 ≤ N1) (hN : N1 ≤ 125) (hb : 0 ≤ b) (hc : cd b = 5) (hw : wt b = sg) (ha : al b = k) (hs0 : zR sg) (hk : zR k) : RSeg n R ra cd wt al a (b + 1) L m 1 (fun e A _ => vSize sg (zcnt N1.toNat (D1 e A)) k) := by
  refine seg_un h1 (fun τ row e A T hC hM h0 hT hV => ?_)
  obtain ⟨t1, t2⟩ := top1 hM.2.2.2.2.1 h0 (by omega)
  have hp := hM.pop (T2 := T) h0 (by omega)
  have hcb := zcnt_b (D1 e A) N1.toNat
  obtain ⟨ω, w1, w2⟩ := m_truth (v := vSize sg (zcnt N1.toNat (D1 e A)) k) (V := fun _ => vSize sg (zcnt N1.toNat (D1 e A)) k) hp (by omega) rfl
  refine ⟨ω, m_turn_simple (lv := 0) hC (by omega) (by omega) hc (by decide) (by decide) (by decide) rfl rfl (by decide) (by decide) rfl ?_, w2.pop⟩
  have hx : zR (zcnt N1.toNat (D1 e A)) := ⟨by omega, by omega⟩
  unfold f_220
  rw [zg_pos (by decide), show t_220_1 5 = 505 from rfl, if_neg (by decide), if_neg (by decide), if_neg (by decide), if_neg (by decide), if_neg (by decide), if_neg (by decide), if_neg (by decide), if_neg (by decide), if_neg (by decide), if_neg (by decide), if_pos rfl, t1, t2, zg_pos ⟨h0, by omega⟩, m_amount, zo_of rfl, m_count hV hN0 hN, hw, ha, zg_pos hs0]
  generalize zcnt N1.toNat (D1 e A) = x at *
  unfold vSize at w1
  by_cases h42 : sg = 42
  · rw [if_pos h42] at w1 ⊢
    rw [zg_pos hx, zg_pos hk]
    by_cases hq : x = k
    · rw [decide_eq_true hq] at w1
      rw [if_pos hq, zb_of (show f_206 1 (sI τ 177 46 T) = some ((), ω) from w1)]
    · rw [decide_eq_false hq] at w1
      rw [if_neg hq, zb_of (show f_206 0 (sI τ 177 46 T) = some ((), ω) from w1)]
  · rw [if_neg h42] at w1 ⊢
    by_cases h43 : sg = 43
    · rw [if_pos h43] at w1 ⊢
      rw [zg_pos hx, zg_pos hk]
      by_cases hq : x < k
      · rw [decide_eq_true hq] at w1
        rw [if_pos hq, zb_of (show f_206 1 (sI τ 177 46 T) = some ((), ω) from w1)]
      · rw [decide_eq_false hq] at w1
        rw [if_neg hq, zb_of (show f_206 0 (sI τ 177 46 T) = some ((), ω) from w1)]
    · rw [if_neg h43] at w1 ⊢
      rw [zg_pos hx, zg_pos hk]
      by_cases hq : k < x
      · rw [decide_eq_true hq] at w1
        rw [if_pos hq, zb_of (show f_206 1 (sI τ 177 46 T) = some ((), ω) from w1)]
      · rw [decide_eq_false hq] at w1
        rw [if_neg hq, zb_of (show f_206 0 (sI τ 177 46 T) = some ((), ω) from w1)]
theorem seg_in (h1 : RSeg n R ra cd wt al a c L m1 N1 D1) (h2 : RSeg n R ra cd wt al c b L m2 N1 D2) (hm1 : m1 ≤ m) (hm2 : m2 + 1 ≤ m) (hN : N1 ≤ 125) (hb : 0 ≤ b) (hc : cd b = 20) : RSeg n R ra cd wt al a (b + 1) L m 1 (fun e A _ => vIn N1 (D1 e A) (D2 e A)) := by
  refine seg_bin h1 h2 hm1 hm2 (fun τ row e A T hC hM h0 hT hV hV2 => ?_)
  obtain ⟨t1, t2⟩ := top2 hM.2.2.2.2.1 h0 (by omega)
  have hp := hM.pop (T2 := T) h0 (by omega)
  have hw := m_in_words hV hV2 (by omega)
  obtain ⟨ω, w1, w2⟩ := m_truth (v := vIn N1 (D1 e A) (D2 e A)) (V := fun _ => vIn N1 (D1 e A) (D2 e A)) hp (by omega) rfl
  refine ⟨ω, m_turn_simple (lv := 0) hC (by omega) (by omega) hc (by decide) (by decide) (by decide) rfl rfl (by decide) (by decide) rfl ?_, w2.pop⟩
  unfold f_220
  rw [zg_pos (by decide), show t_220_1 20 = 310 from rfl, if_neg (by decide), if_neg (by decide), if_neg (by decide), if_neg (by decide), if_neg (by decide), if_neg (by decide), if_neg (by decide), if_pos rfl, t1, t2, zg_pos ⟨h0, by omega⟩, zg_pos ⟨by omega, by omega⟩]
  cases hd : vIn N1 (D1 e A) (D2 e A) with
  | true =>
    rw [hd] at w1
    have hw2 := hw.mpr hd
    rw [if_pos hw2.1, if_pos hw2.2, zb_of (show f_206 1 (sI τ 177 46 T) = some ((), ω) from w1)]
  | false =>
    rw [hd] at w1
    by_cases hq : (gJ τ 198 T &&& (gJ τ 198 (T + 1) ^^^ 18446744073709551615#64)) = 0#64
    · rw [if_pos hq, if_neg (fun hq2 => by have := hw.mp ⟨hq, hq2⟩; rw [hd] at this; cases this), zb_of (show f_206 0 (sI τ 177 46 T) = some ((), ω) from w1)]
    · rw [if_neg hq, zb_of (show f_206 0 (sI τ 177 46 T) = some ((), ω) from w1)]
theorem seg_eq (h1 : RSeg n R ra cd wt al a c L m1 N1 D1) (h2 : RSeg n R ra cd wt al c b L m2 N1 D2) (hm1 : m1 ≤ m) (hm2 : m2 + 1 ≤ m) (hN : N1 ≤ 125) (hb : 0 ≤ b) (hc : cd b = 42) : RSeg n R ra cd wt al a (b + 1) L m 1 (fun e A _ => vEq N1 (D1 e A) (D2 e A)) := by
  refine seg_bin h1 h2 hm1 hm2 (fun τ row e A T hC hM h0 hT hV hV2 => ?_)
  obtain ⟨t1, t2⟩ := top2 hM.2.2.2.2.1 h0 (by omega)
  have hp := hM.pop (T2 := T) h0 (by omega)
  have hw := m_eq_words hV hV2 (by omega)
  obtain ⟨ω, w1, w2⟩ := m_truth (v := vEq N1 (D1 e A) (D2 e A)) (V := fun _ => vEq N1 (D1 e A) (D2 e A)) hp (by omega) rfl
  refine ⟨ω, m_turn_simple (lv := 0) hC (by omega) (by omega) hc (by decide) (by decide) (by decide) rfl rfl (by decide) (by decide) rfl ?_, w2.pop⟩
  unfold f_220
  rw [zg_pos (by decide), show t_220_1 42 = 392 from rfl, if_neg (by decide), if_neg (by decide), if_neg (by decide), if_neg (by decide), if_neg (by decide), if_neg (by decide), if_neg (by decide), if_neg (by decide), if_pos rfl, t1, t2, zg_pos ⟨h0, by omega⟩, zg_pos ⟨by omega, by omega⟩]
  cases hd : vEq N1 (D1 e A) (D2 e A) with
  | true =>
    rw [hd] at w1
    have hw2 := hw.mpr hd
    rw [if_pos hw2.1, if_pos hw2.2, zb_of (show f_206 1 (sI τ 177 46 T) = some ((), ω) from w1)]
  | false =>
    rw [hd] at w1
    by_cases hq : gJ τ 198 T = gJ τ 198 (T + 1)
    · rw [if_pos hq, if_neg (fun hq2 => by have := hw.mp ⟨hq, hq2⟩; rw [hd] at this; cases this), zb_of (show f_206 0 (sI τ 177 46 T) = some ((), ω) from w1)]
    · rw [if_neg hq, zb_of (show f_206 0 (sI τ 177 46 T) = some ((), ω) from w1)]
end SEG2
