/-! SEGMENTS of the reference's code: quantifiers and sets, whole. -/
section SEG6
variable {n R : Int} {ra cd wt al : Int → Int} {a b c L N N1 N2 : Int} {m m1 m2 : Nat} {D D1 D2 : Dn}
theorem m_endLoop2 {τ : zS} {T w : Int} {e : Int → Int} {A : Int → Bool} {G S : Vl} (hM2 : MS (sI τ 177 53 L) n R ra L T e A) (h53 : gI τ 177 53 = L + 1) (L0 : 0 ≤ L) (hL : L ≤ 30) (hT : T ≤ 100) (hw0 : 0 ≤ w) (hw : w ≤ 5) (hg0 : 0 ≤ gI τ 203 L) (hg1 : gI τ 203 L < 32) (hs0 : 0 ≤ gI τ 202 L) (hs1 : gI τ 202 L < 32) (hG : ∀ i, 0 ≤ i → i < 5 → ib (gI τ 203 L) i = (decide (i < n) && G i)) (hS : ∀ i, 0 ≤ i → i < 5 → ib (gI τ 202 L) i = (decide (i < n) && S i)) : ∃ ω, f_202 w τ = some ((), ω) ∧ MP (sI τ 177 53 L) ω T L (if w = 5 then n else 1) (fun t => if w = 5 then G t else vQty w (zcnt n.toNat G) (zcnt n.toNat S)) := by
  have e53 : gI τ 177 53 - 1 = L := by omega
  have g53 : gI (sI τ 177 53 L) 177 53 = L := gI_same ⟨by omega, by omega⟩
  have h2 := hM2.2.1
  have h3 := hM2.2.2.1
  unfold f_202
  rw [e53, g53, zg_pos ⟨by omega, by omega⟩, zg_pos ⟨by omega, by omega⟩]
  by_cases h5w : w = 5
  · rw [if_pos h5w, if_pos h5w]
    have hval : RV n (BitVec.ofInt 64 (gI τ 203 L)) (0#64) (fun t => if w = 5 then G t else vQty w (zcnt n.toNat G) (zcnt n.toNat S)) := by
      refine RV_of (by omega) (fun t t0 t1 => ?_)
      rw [if_pos h5w]
      show (BitVec.ofInt 64 (gI τ 203 L)).toNat.testBit t.toNat = _
      have hnat : (BitVec.ofInt 64 (gI τ 203 L)).toNat = (gI τ 203 L).toNat := by
        rw [BitVec.toNat_ofInt]
        omega
      rw [hnat]
      by_cases ht : t < 5
      · exact hG t t0 ht
      · rw [decide_eq_false (by omega), Bool.false_and]
        apply Nat.testBit_lt_two_pow
        have : (gI τ 203 L).toNat < 2 ^ 5 := by omega
        exact Nat.lt_of_lt_of_le this (Nat.pow_le_pow_right (by decide) (by omega))
    obtain ⟨ω, w1, w2⟩ := m_give hM2 hT hval
    exact ⟨ω, by rw [zb_of w1], w2⟩
  · rw [if_neg h5w, if_neg h5w]
    have c1 : f_204 (gI τ 203 L) (sI τ 177 53 L) = some (zcnt n.toNat G) := by
      rw [m_many hg0 (zR_gI _ _ _), zcnt_5 h2 h3 hG]
    have c2 : f_204 (gI τ 202 L) (sI τ 177 53 L) = some (zcnt n.toNat S) := by
      rw [m_many hs0 (zR_gI _ _ _), zcnt_5 h2 h3 hS]
    have b1 := zcnt_b G n.toNat
    have b2 := zcnt_b S n.toNat
    obtain ⟨ω, w1, w2⟩ := m_truth (v := vQty w (zcnt n.toNat G) (zcnt n.toNat S)) (V := fun t => if w = 5 then G t else vQty w (zcnt n.toNat G) (zcnt n.toNat S)) hM2 hT (by rw [if_neg h5w])
    exact ⟨ω, by rw [zo_of c1, zo_of c2, m_isQuantity hw0 (by omega) ⟨by omega, by omega⟩ ⟨by omega, by omega⟩, zo_of rfl, zb_of w1], w2⟩
theorem cost_q {x y k : Nat} (h1 : m1 ≤ m) (h2 : m2 + 1 ≤ m) (hk : k ≤ 5) : x * 6 ^ m1 + 1 + k * (y * 6 ^ m2 + 1) ≤ (x + y + 2) * 6 ^ m := by
  have e1 : x * 6 ^ m1 ≤ x * 6 ^ m := Nat.mul_le_mul_left _ (Nat.pow_le_pow_right (by decide) h1)
  have e2 : 6 ^ (m2 + 1) ≤ 6 ^ m := Nat.pow_le_pow_right (by decide) h2
  rw [Nat.pow_succ] at e2
  have e3 : (y + 2) * (6 ^ m2 * 6) ≤ (y + 2) * 6 ^ m := Nat.mul_le_mul_left _ e2
  have e4 : k * (y * 6 ^ m2 + 1) ≤ 5 * (y * 6 ^ m2 + 1) := Nat.mul_le_mul_right _ hk
  have e5 : (y + 2) * (6 ^ m2 * 6) = 6 * (y * 6 ^ m2) + 12 * 6 ^ m2 := by
    rw [Nat.add_mul, ← Nat.mul_assoc, Nat.mul_comm (y * 6 ^ m2) 6]
    omega
  have e6 := pow6 m2
  rw [show x + y + 2 = x + (y + 2) by omega, Nat.add_mul]
  omega
theorem seg_quant {w : Int} (h1 : RSeg n R ra cd wt al a c L m1 n D1) (h2 : RSeg n R ra cd wt al (c + 1) b (L + 1) m2 1 D2) (hm1 : m1 ≤ m) (hm2 : m2 + 1 ≤ m) (hc : cd c = 3) (hwc : wt c = b + 1) (hcb : cd b = 4) (hwb : wt b = w) (hw0 : 0 ≤ w) (hw : w ≤ 5) : RSeg n R ra cd wt al a (b + 1) L m (if w = 5 then n else 1) (dQ n w L D1 D2) := by
  have h2s := h2
  obtain ⟨hac, h1⟩ := h1
  obtain ⟨hcb2, h2'⟩ := h2
  refine ⟨by omega, fun σ row e A T hC hM hT hL => ?_⟩
  obtain ⟨τ, r1, p1⟩ := h1 σ row e A T (hC.sub (by omega) (by omega)) hM (by omega) (by omega)
  have hMτ := hM.next p1
  have hCτ := hC.fr p1.1
  have T0 := hM.2.2.2.2.2.1
  have L0 := hM.2.2.2.2.2.2.2.1
  have n1 := hM.2.1
  have n5 := hM.2.2.1
  obtain ⟨t1, t2⟩ := top1 hMτ.2.2.2.2.1 T0 (by omega)
  have h53 : gI τ 177 53 = L := p1.2.2.1
  -- the domain as an int
  have hRL := RL_of p1.2.2.2.1
  generalize hset : (gJ τ 198 T).toNat = st at *
  have hbits : ∀ i : Int, 0 ≤ i → i < 64 → st.testBit i.toNat = (decide (i < n) && D1 e A i) := fun i i0 i1 => by
    rw [← hset]
    exact hRL i i0 i1
  have hst : st < 32 := bits32 (fun i hi => by
    by_cases h64 : i < 64
    · have := hbits (i : Int) (by omega) (by omega)
      rw [show ((i : Int)).toNat = i by omega, decide_eq_false (by omega), Bool.false_and] at this
      exact this
    · rw [← hset]
      exact BitVec.getLsbD_of_ge _ _ (by omega))
  have hsi : ((st : Nat) : Int).toNat = st := by omega
  -- the state at LOOP's end
  have hMp := hMτ.pop (T2 := T) T0 (by omega)
  obtain ⟨y, y1, y2, y3, y4, y5⟩ := m_nextAtom (x := (st : Int)) (v := 0) (s := sI (sI (sI (sI τ 177 46 T) 202 L (st : Int)) 203 L 0) 200 L (c + 1)) (n := n) hMp.1 n5 (by omega) ⟨by omega, by omega⟩ (by decide) (by omega)
  have cb := hC.2.2.1
  have hlen := hC.2.2.2.2.1
  have hlen2 := hC.2.2.2.1
  let q0 := sI (sI (sI (sI (sI (sI τ 177 46 T) 202 L (st : Int)) 203 L 0) 200 L (c + 1)) 201 L y) 177 53 (L + 1)
  have z53 : gI q0 177 53 = L + 1 := gI_same ⟨by omega, by omega⟩
  have z201 : gI q0 201 L = y := by
    rw [show gI q0 201 L = gI (sI τ 201 L y) 201 L from rfl, gI_same ⟨by omega, by omega⟩]
  have z202 : gI q0 202 L = (st : Int) := by
    rw [show gI q0 202 L = gI (sI τ 202 L (st : Int)) 202 L from rfl, gI_same ⟨by omega, by omega⟩]
  have z203 : gI q0 203 L = 0 := by
    rw [show gI q0 203 L = gI (sI τ 203 L 0) 203 L from rfl, gI_same (by decide)]
  have z200 : gI q0 200 L = c + 1 := by
    rw [show gI q0 200 L = gI (sI τ 200 L (c + 1)) 200 L from rfl, gI_same ⟨by omega, by omega⟩]
  have Fq : zfr 24530806944976732556039678516220153034435395923196984534500294222346575973852489186456027058429306240630108415201208202408871792121741312 σ q0 := zfr_tr p1.1 (zfr_tr (zfr_tr (zfr_tr (zfr_tr (zfr_tr (zfr_I rfl) (zfr_IA rfl rfl)) (zfr_IA rfl rfl)) (zfr_IA rfl rfl)) (zfr_IA rfl rfl)) (zfr_I rfl))
  have keep : (∀ j, 0 ≤ j → j < T → gJ q0 198 j = gJ σ 198 j ∧ gJ q0 199 j = gJ σ 199 j) ∧ ∀ j, 0 ≤ j → j < L → gI q0 200 j = gI σ 200 j ∧ gI q0 201 j = gI σ 201 j ∧ gI q0 202 j = gI σ 202 j ∧ gI q0 203 j = gI σ 203 j := by
    refine ⟨fun j j0 j1 => p1.2.2.2.2.1 j j0 j1, fun j j0 j1 => ?_⟩
    have a1 : gI q0 200 j = gI τ 200 j := by rw [show gI q0 200 j = gI (sI τ 200 L (c + 1)) 200 j from rfl, gI_ni (by omega)]
    have a2 : gI q0 201 j = gI τ 201 j := by rw [show gI q0 201 j = gI (sI τ 201 L y) 201 j from rfl, gI_ni (by omega)]
    have a3 : gI q0 202 j = gI τ 202 j := by rw [show gI q0 202 j = gI (sI τ 202 L (st : Int)) 202 j from rfl, gI_ni (by omega)]
    have a4 : gI q0 203 j = gI τ 203 j := by rw [show gI q0 203 j = gI (sI τ 203 L 0) 203 j from rfl, gI_ni (by omega)]
    rw [a1, a2, a3, a4]
    exact p1.2.2.2.2.2 j j0 j1
  have hS : ∀ i, 0 ≤ i → i < 5 → ib (gI q0 202 L) i = (decide (i < n) && D1 e A i) := by
    intro i i0 i1
    rw [z202]
    show ((st : Int)).toNat.testBit i.toNat = _
    rw [hsi]
    exact hbits i i0 (by omega)
  obtain ⟨-, cw, -⟩ := hCτ.2.2.2.2.2 c (by omega) (by omega)
  obtain ⟨-, bw, -⟩ := hCτ.2.2.2.2.2 b (by omega) (by omega)
  have h200 : f_200 row c τ = (if y < n then some (c + 1, q0) else (zb (f_202 w q0) (fun _ s11 => some ((b + 1), s11)))) := by
    unfold f_200
    have e1 : gI τ 177 1 = n := hMτ.1
    have r0 := hC.1
    have r1' := hC.2.1
    rw [t1, t2, zg_pos ⟨T0, by omega⟩, h53, zg_pos ⟨L0, by omega⟩, hset, zo_of y1, gI_same ⟨by omega, by omega⟩, show L + 1 - 1 = L by omega, zg_pos ⟨L0, by omega⟩, gI_same ⟨by omega, by omega⟩, e1, cw, hwc]
    by_cases hy : y < n
    · rw [if_pos hy, if_pos hy]
    · rw [if_neg hy, if_neg hy, zg_pos ⟨by omega, by omega⟩, zg_pos ⟨by omega, by omega⟩, show 320 * row + (b + 1) - 1 = 320 * row + b by omega, bw, hwb]
  have hturn : ∀ r : Int × zS, f_200 row c τ = some r → b_199_12 row c τ = some (.inl r) := by
    intro r hr
    obtain ⟨r0, r1', a0, r2, r3, r4⟩ := hCτ
    obtain ⟨c1, -, -⟩ := r4 c (by omega) (by omega)
    unfold b_199_12
    rw [zg_pos ⟨r0, r1'⟩, zg_pos ⟨by omega, by omega⟩, if_pos (by omega), zg_pos ⟨by omega, by omega⟩, c1, hc, if_pos rfl, zb_of (show f_200 row c τ = some (r.1, r.2) from hr)]
  have hcost : (b + 1 - a).toNat = (c - a).toNat + (b - (c + 1)).toNat + 2 := by omega
  by_cases hy : y < n
  · rw [if_pos hy] at h200
    have hdy : D1 e A y = true := by
      have h4 := y5 hy
      have h5 := hbits y y2 (by omega)
      rw [show ib (st : Int) y = st.testBit y.toNat by show ((st : Int)).toNat.testBit y.toNat = _; rw [hsi], h5, decide_eq_true hy, Bool.true_and] at h4
      exact h4
    have hQ : QS σ q0 n R ra L T c e A (D1 e A) (dGot L D1 D2 e A) y := by
      obtain ⟨m1', m2', m3', m4', m5', m6', m7', m8', m9'⟩ := hMp
      refine ⟨Fq, ⟨m1', m2', m3', m4', m5', m6', z53, by omega, fun j j0 j1 => ?_⟩, z200, by omega, by omega, hS, by omega, by omega, fun i i0 i1 => ?_, keep.1, keep.2⟩
      · unfold eUp
        by_cases hj : j = L
        · rw [hj, z201, if_pos rfl]
          exact ⟨rfl, y2, hy⟩
        · rw [if_neg hj, show gI q0 201 j = gI (sI τ 201 L y) 201 j from rfl, gI_ni hj]
          exact hMτ.2.2.2.2.2.2.2.2 j j0 (by omega)
      · rw [z203]
        by_cases hi : i < y
        · have h4 := y4 i i0 hi
          have h5 := hbits i i0 (by omega)
          rw [show ib (st : Int) i = st.testBit i.toNat by show ((st : Int)).toNat.testBit i.toNat = _; rw [hsi], h5] at h4
          unfold dGot
          rw [decide_eq_true hi, Bool.true_and, ← Bool.and_assoc, h4]
          simp [ib]
        · rw [decide_eq_false hi]
          simp [ib]
    obtain ⟨ω, r2, p2⟩ := m_atoms (m2 := m2) h2s (hC.sub (by omega) (by omega)) hcb hwb hw0 hw L0 (by omega) (by omega) 5 y q0 (by omega) y2 hy hdy hQ
    refine ⟨ω, ((r1.tr (zrch.one (hturn _ h200))).tr r2).le ?_, p2⟩
    rw [hcost]
    exact cost_q hm1 hm2 (Nat.le_refl _)
  · rw [if_neg hy] at h200
    have hem : ∀ i, 0 ≤ i → i < n → D1 e A i = false := by
      intro i i0 i1
      have h4 := y4 i i0 (by omega)
      have h5 := hbits i i0 (by omega)
      rw [show ib (st : Int) i = st.testBit i.toNat by show ((st : Int)).toNat.testBit i.toNat = _; rw [hsi], h5, decide_eq_true i1, Bool.true_and] at h4
      exact h4
    have hM2 : MS (sI q0 177 53 L) n R ra L T e A := by
      obtain ⟨m1', m2', m3', m4', m5', m6', m7', m8', m9'⟩ := hMp
      refine ⟨m1', m2', m3', m4', m5', m6', gI_same ⟨by omega, by omega⟩, L0, fun j j0 j1 => ?_⟩
      rw [show gI (sI q0 177 53 L) 201 j = gI (sI τ 201 L y) 201 j from rfl, gI_ni (by omega)]
      exact hMτ.2.2.2.2.2.2.2.2 j j0 j1
    obtain ⟨ω, w1, w2⟩ := m_endLoop2 (w := w) (G := dGot L D1 D2 e A) (S := D1 e A) hM2 z53 L0 (by omega) (by omega) hw0 hw (by omega) (by omega) (by omega) (by omega) (fun i i0 i1 => by
      rw [z203]
      by_cases hi : i < n
      · unfold dGot
        rw [hem i i0 hi]
        simp [ib]
      · rw [decide_eq_false hi]
        simp [ib]) hS
    rw [zb_of w1] at h200
    obtain ⟨a1, a2, a3, a4, a5, a6⟩ := w2
    refine ⟨ω, (r1.tr (zrch.one (hturn _ h200))).le ?_, zfr_tr Fq (zfr_tr (zfr_I rfl) a1), a2, a3, a4, fun j j0 j1 => ?_, fun j j0 j1 => ?_⟩
    · rw [hcost]
      have := cost_q (x := (c - a).toNat) (y := (b - (c + 1)).toNat) (k := 0) hm1 hm2 (by decide)
      omega
    · rw [(a5 j j0 j1).1, (a5 j j0 j1).2]
      exact keep.1 j j0 j1
    · rw [(a6 j j0 j1).1, (a6 j j0 j1).2.1, (a6 j j0 j1).2.2.1, (a6 j j0 j1).2.2.2]
      exact keep.2 j j0 j1
/-- the work on a whole row -/
theorem m_work {σ : zS} {row len : Int} {e : Int → Int} {A : Int → Bool} (h : RSeg n R ra cd wt al 0 len 0 m N D) (hm : m ≤ 20) (hC : RC σ row 0 len cd wt al) (hlen : gI σ 187 row = len) (hM : MS (sI (sI σ 177 46 0) 177 53 0) n R ra 0 0 e A) : ∃ τ, f_199 row σ = some ((), τ) ∧ RV N (gJ τ 198 0) (gJ τ 199 0) (D e A) := by
  obtain ⟨h0, h1⟩ := h
  have hC2 : RC (sI (sI σ 177 46 0) 177 53 0) row 0 len cd wt al := hC.fr (zfr_tr (zfr_I rfl) (zfr_I rfl))
  obtain ⟨τ, r1, p1⟩ := h1 _ row e A 0 hC2 hM (by omega) (by omega)
  have hend : b_199_12 row len τ = some (.inr τ) := by
    obtain ⟨r0, r1', a0, r2, r3, r4⟩ := hC2.fr p1.1
    have e1 : gI τ 187 row = len := by
      rw [p1.1.ia (c := 187) rfl rfl]
      exact hlen
    unfold b_199_12
    rw [zg_pos ⟨r0, r1'⟩, zg_pos ⟨by omega, by omega⟩, e1, if_neg (by omega)]
  refine ⟨τ, ?_, p1.2.2.2.1⟩
  unfold f_199
  have hlt : (len - 0).toNat * 6 ^ m < zF := by
    have e1 : (len - 0).toNat ≤ 320 := by have := hC.2.2.2.2.1; omega
    have e2 : 6 ^ m ≤ 6 ^ 20 := Nat.pow_le_pow_right (by decide) hm
    have e3 : (len - 0).toNat * 6 ^ m ≤ 320 * 6 ^ 20 := Nat.mul_le_mul e1 e2
    exact Nat.lt_of_le_of_lt e3 (by decide)
  rw [zo_of (r1.ends hend hlt)]
end SEG6
