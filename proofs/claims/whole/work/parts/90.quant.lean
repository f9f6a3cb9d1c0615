/-! SEGMENTS of the reference's code: the loop over atoms. -/
section SEG5
variable {n R : Int} {ra cd wt al : Int → Int} {a b c L N N1 N2 : Int} {m m1 m2 : Nat} {D D1 D2 : Dn}
theorem bits32 {x : Nat} (h : ∀ i, 5 ≤ i → x.testBit i = false) : x < 32 := Nat.lt_pow_two_of_testBit (n := 5) x h
/-- at the head of the body, with atom x: what was got so far, the set, and nothing below touched -/
def QS (σ τ : zS) (n R : Int) (ra : Int → Int) (L T c : Int) (e : Int → Int) (A : Int → Bool) (S G : Vl) (x : Int) : Prop :=
  zfr 24530806944976732556039678516220153034435395923196984534500294222346575973852489186456027058429306240630108415201208202408871792121741312 σ τ ∧ MS τ n R ra (L + 1) T (eUp e L x) A ∧ gI τ 200 L = c + 1 ∧ 0 ≤ gI τ 202 L ∧ gI τ 202 L < 32 ∧ (∀ i, 0 ≤ i → i < 5 → ib (gI τ 202 L) i = (decide (i < n) && S i)) ∧ 0 ≤ gI τ 203 L ∧ gI τ 203 L < 32 ∧ (∀ i, 0 ≤ i → i < 5 → ib (gI τ 203 L) i = (decide (i < x) && (decide (i < n) && G i))) ∧ (∀ j, 0 ≤ j → j < T → gJ τ 198 j = gJ σ 198 j ∧ gJ τ 199 j = gJ σ 199 j) ∧ ∀ j, 0 ≤ j → j < L → gI τ 200 j = gI σ 200 j ∧ gI τ 201 j = gI σ 201 j ∧ gI τ 202 j = gI σ 202 j ∧ gI τ 203 j = gI σ 203 j
/-- the end of the loop, seen from before it -/
theorem m_quit {σ τ : zS} {T w x : Int} {e : Int → Int} {A : Int → Bool} {S G : Vl} (h : QS σ τ n R ra L T c e A S G x) (hx : n ≤ x) (L0 : 0 ≤ L) (hL : L ≤ 30) (hT : T ≤ 100) (hw0 : 0 ≤ w) (hw : w ≤ 5) : ∃ ω, f_202 w τ = some ((), ω) ∧ MP σ ω T L (if w = 5 then n else 1) (fun t => if w = 5 then G t else vQty w (zcnt n.toNat G) (zcnt n.toNat S)) := by
  obtain ⟨q1, q2, q3, q4, q5, q6, q7, q8, q9, q10, q11⟩ := h
  obtain ⟨ω, w1, w2⟩ := m_endLoop (w := w) (G := G) (S := S) q2 L0 hL hT hw0 hw q7 q8 q4 q5 (fun i i0 i1 => by
    rw [q9 i i0 i1]
    by_cases hi : i < n
    · rw [decide_eq_true (show i < x by omega), Bool.true_and]
    · rw [decide_eq_false hi, Bool.false_and, Bool.and_false]) q6
  obtain ⟨a1, a2, a3, a4, a5, a6⟩ := w2
  refine ⟨ω, w1, zfr_tr q1 a1, a2, a3, a4, fun j j0 j1 => ?_, fun j j0 j1 => ?_⟩
  · rw [(a5 j j0 j1).1, (a5 j j0 j1).2]
    exact q10 j j0 j1
  · rw [(a6 j j0 j1).1, (a6 j j0 j1).2.1, (a6 j j0 j1).2.2.1, (a6 j j0 j1).2.2.2]
    exact q11 j j0 j1
/-- the atoms from x on -/
theorem m_atoms {σ : zS} {row T w : Int} {e : Int → Int} {A : Int → Bool} (h2 : RSeg n R ra cd wt al (c + 1) b (L + 1) m2 1 D2) (hC : RC σ row c (b + 1) cd wt al) (hcb : cd b = 4) (hwb : wt b = w) (hw0 : 0 ≤ w) (hw : w ≤ 5) (L0 : 0 ≤ L) (hT : T + (m2 + 1) ≤ 100) (hL : L + (m2 + 1) ≤ 30) : ∀ (k : Nat) (x : Int) (τ : zS), (n - x).toNat ≤ k → 0 ≤ x → x < n → D1 e A x = true → QS σ τ n R ra L T c e A (D1 e A) (dGot L D1 D2 e A) x → ∃ ω, zrch (fun (q : Int × zS) => b_199_12 row q.1 q.2) (k * ((b - (c + 1)).toNat * 6 ^ m2 + 1)) (c + 1, τ) (b + 1, ω) ∧ MP σ ω T L (if w = 5 then n else 1) (dQ n w L D1 D2 e A) := by
  intro k
  induction k with
  | zero => intro x τ hk h0 h1; omega
  | succ k ih =>
    intro x τ hk x0 x1 hdx hQ
    have hQ0 := hQ
    obtain ⟨q1, q2, q3, q4, q5, q6, q7, q8, q9, q10, q11⟩ := hQ
    have hT0 := q2.2.2.2.2.2.1
    have n5 := q2.2.2.1
    have hn := q2.1
    obtain ⟨hlt, h2'⟩ := h2
    -- the body
    obtain ⟨υ, r1, p1⟩ := h2' τ row (eUp e L x) A T ((hC.fr q1).sub (by omega) (by omega)) q2 (by omega) (by omega)
    have hMυ := q2.next p1
    have hCυ := (hC.fr q1).fr p1.1
    have hlo := RV1_lo p1.2.2.2.1
    -- what stands in the loop's places
    obtain ⟨k1, k2, k3, k4⟩ := p1.2.2.2.2.2 L L0 (by omega)
    have hxe : gI τ 201 L = x := by
      rw [(q2.2.2.2.2.2.2.2.2 L L0 (by omega)).1]
      exact if_pos rfl
    -- NEXT: bookkeeping
    have hgot : ∃ g : Int, 0 ≤ g ∧ g < 32 ∧ (∀ i, 0 ≤ i → i < 5 → ib g i = (decide (i < x + 1) && (decide (i < n) && dGot L D1 D2 e A i))) ∧ f_207 w b υ = j_207_60 w b L L g (sI υ 177 46 T) := by
      obtain ⟨t1, t2⟩ := top1 hMυ.2.2.2.2.1 hT0 (by omega)
      have e53 : gI υ 177 53 - 1 = L := by rw [p1.2.2.1]; omega
      unfold f_207
      rw [t1, t2, zg_pos ⟨hT0, by omega⟩, hlo, e53, zg_pos ⟨L0, by omega⟩, k2, k4, hxe]
      cases hd : D2 (eUp e L x) A 0 with
      | true =>
        rw [if_pos (show zw true = 1#64 from rfl), (zpow_b x0 (by omega)).1]
        have hpw : (2 ^ x.toNat : Nat) < 32 := by
          have : (2 : Nat) ^ x.toNat < 2 ^ 5 := Nat.pow_lt_pow_right (by decide) (by omega)
          exact this
        have hN : (0 : Int) ≤ ((2 ^ x.toNat : Nat) : Int) := Int.natCast_nonneg _
        have hN2 : ((2 ^ x.toNat : Nat) : Int) < 32 := Int.ofNat_lt.mpr hpw
        have hor := zor_nat (a := gI τ 203 L) (b := ((2 ^ x.toNat : Nat) : Int)) q7 (zR_gI _ _ _) hN ⟨Int.le_trans (by decide) hN, Int.lt_trans hN2 (by decide)⟩
        rw [hor, Int.toNat_natCast]
        have hlt32 : (gI τ 203 L).toNat ||| 2 ^ x.toNat < 32 := Nat.or_lt_two_pow (n := 5) (by omega) hpw
        refine ⟨_, Int.natCast_nonneg _, Int.ofNat_lt.mpr hlt32, fun i i0 i1 => ?_, rfl⟩
        show (((gI τ 203 L).toNat ||| 2 ^ x.toNat : Nat) : Int).toNat.testBit i.toNat = _
        rw [Int.toNat_natCast, Nat.testBit_or, Nat.testBit_two_pow, show (gI τ 203 L).toNat.testBit i.toNat = ib (gI τ 203 L) i from rfl, q9 i i0 i1]
        by_cases hi : i = x
        · rw [decide_eq_true (show x.toNat = i.toNat by omega), Bool.or_true, decide_eq_true (show i < x + 1 by omega), decide_eq_true (show i < n by omega)]
          unfold dGot
          rw [hi, hdx, hd]
          rfl
        · rw [decide_eq_false (show ¬ x.toNat = i.toNat by omega), Bool.or_false]
          congr 1
          apply decide_eq_decide.mpr
          omega
      | false =>
        rw [if_neg (show ¬ zw false = 1#64 by decide)]
        refine ⟨gI τ 203 L, q7, q8, fun i i0 i1 => ?_, zg_pos ⟨L0, by omega⟩⟩
        rw [q9 i i0 i1]
        by_cases hi : i = x
        · have : dGot L D1 D2 e A i = false := by
            unfold dGot
            rw [hi, hd, Bool.and_false]
          rw [this]
          simp
        · congr 1
          apply decide_eq_decide.mpr
          omega
    obtain ⟨g, g0, g1, g2, hf⟩ := hgot
    -- the state behind: one value less, got and atom new
    have hMp := hMυ.pop (T2 := T) hT0 (by omega)
    have hset : gI υ 202 L = gI τ 202 L := k3
    obtain ⟨y, y1, y2, y3, y4, y5⟩ := m_nextAtom (x := gI υ 202 L) (v := x + 1) (s := sI (sI υ 177 46 T) 203 L g) (n := n) (by rw [gI_nc (by decide)]; exact hMp.1) n5 (by omega) (zR_gI _ _ _) (by omega) (by omega)
    let τ2 := sI (sI (sI υ 177 46 T) 203 L g) 201 L y
    have z201 : gI τ2 201 L = y := gI_same ⟨by omega, by omega⟩
    -- bits of what was got, up to y
    have gy : ∀ i, 0 ≤ i → i < 5 → ib g i = (decide (i < y) && (decide (i < n) && dGot L D1 D2 e A i)) := by
      intro i i0 i1
      rw [g2 i i0 i1]
      by_cases h1 : i < x + 1
      · rw [decide_eq_true h1, decide_eq_true (show i < y by omega)]
      · by_cases h3 : i < y
        · have h4 := y4 i (by omega) h3
          rw [hset] at h4
          have h5 := q6 i i0 i1
          rw [h4] at h5
          rw [decide_eq_false h1, decide_eq_true h3, Bool.false_and, Bool.true_and]
          unfold dGot
          cases hin : decide (i < n) with
          | false => rfl
          | true =>
            rw [hin, Bool.true_and] at h5
            rw [← h5]
            rfl
        · rw [decide_eq_false h1, decide_eq_false h3]
    have Fz : zfr 24530806944976732556039678516220153034435395923196984534500294222346575973852489186456027058429306240630108415201208202408871792121741312 σ τ2 := zfr_tr (zfr_tr q1 p1.1) (zfr_tr (zfr_tr (zfr_I rfl) (zfr_IA rfl rfl)) (zfr_IA rfl rfl))
    have keep : (∀ j, 0 ≤ j → j < T → gJ τ2 198 j = gJ σ 198 j ∧ gJ τ2 199 j = gJ σ 199 j) ∧ ∀ j, 0 ≤ j → j < L → gI τ2 200 j = gI σ 200 j ∧ gI τ2 201 j = gI σ 201 j ∧ gI τ2 202 j = gI σ 202 j ∧ gI τ2 203 j = gI σ 203 j := by
      refine ⟨fun j j0 j1 => ?_, fun j j0 j1 => ?_⟩
      · rw [show gJ τ2 198 j = gJ υ 198 j from rfl, show gJ τ2 199 j = gJ υ 199 j from rfl, (p1.2.2.2.2.1 j j0 j1).1, (p1.2.2.2.2.1 j j0 j1).2]
        exact q10 j j0 j1
      · obtain ⟨v1, v2, v3, v4⟩ := p1.2.2.2.2.2 j j0 (by omega)
        have a1 : gI τ2 200 j = gI υ 200 j := rfl
        have a2 : gI τ2 201 j = gI υ 201 j := by
          show gI (sI _ 201 L y) 201 j = _
          rw [gI_ni (by omega)]
          rfl
        have a3 : gI τ2 202 j = gI υ 202 j := rfl
        have a4 : gI τ2 203 j = gI υ 203 j := by
          rw [show gI τ2 203 j = gI (sI υ 203 L g) 203 j from rfl, gI_ni (by omega)]
        rw [a1, a2, a3, a4, v1, v2, v3, v4]
        exact q11 j j0 j1
    have z203 : gI τ2 203 L = g := by
      rw [show gI τ2 203 L = gI (sI υ 203 L g) 203 L from rfl, gI_same ⟨by omega, by omega⟩]
    have z202 : gI τ2 202 L = gI τ 202 L := k3
    have z200 : gI τ2 200 L = c + 1 := by rw [show gI τ2 200 L = gI υ 200 L from rfl, k1]; exact q3
    have hMτ2 : y < n → MS τ2 n R ra (L + 1) T (eUp e L y) A := by
      intro hy
      obtain ⟨m1', m2', m3', m4', m5', m6', m7', m8', m9'⟩ := hMp
      refine ⟨?_, m2', m3', m4', ?_, m6', ?_, m8', fun j j0 j1 => ?_⟩
      · exact m1'
      · exact m5'
      · exact m7'
      · by_cases hj : j = L
        · rw [hj, z201]
          unfold eUp
          rw [if_pos rfl]
          exact ⟨rfl, by omega, hy⟩
        · have hj2 : gI τ2 201 j = gI (sI υ 177 46 T) 201 j := by
            show gI (sI _ 201 L y) 201 j = _
            rw [gI_ni hj]
            rfl
          rw [hj2]
          have := m9' j j0 j1
          unfold eUp at this ⊢
          rw [if_neg hj] at this ⊢
          exact this
    -- the turn at NEXT
    have hturn : ∀ r : Int × zS, f_207 w b υ = some r → b_199_12 row b υ = some (.inl r) := by
      intro r hr
      obtain ⟨r0, r1', a0, r2, r3, r4⟩ := hCυ
      obtain ⟨c1, c2, c3⟩ := r4 b (by omega) (by omega)
      unfold b_199_12
      rw [zg_pos ⟨r0, r1'⟩, zg_pos ⟨by omega, by omega⟩, if_pos (by omega), zg_pos ⟨by omega, by omega⟩, c1, hcb, if_neg (by decide), if_pos rfl, c2, hwb, zb_of (show f_207 w b υ = some (r.1, r.2) from hr)]
    have h60 : j_207_60 w b L L g (sI υ 177 46 T) = (if y < n then some (c + 1, τ2) else (zb (f_202 w τ2) (fun _ s8 => some ((b + 1), s8)))) := by
      unfold j_207_60
      have e201 : gI (sI υ 177 46 T) 201 L = x := by rw [gI_nc (by decide), k2]; exact hxe
      have e202 : gI (sI υ 177 46 T) 202 L = gI υ 202 L := gI_nc (by decide)
      have e1 : gI (sI υ 177 46 T) 177 1 = n := hMp.1
      have e200 : gI (sI υ 177 46 T) 200 L = c + 1 := by rw [gI_nc (by decide), k1]; exact q3
      rw [zg_pos ⟨L0, by omega⟩, zg_pos ⟨L0, by omega⟩, e201, e202, zo_of y1, z201, e1, e200]
    by_cases hy : y < n
    · -- on with the next atom
      have hdy : D1 e A y = true := by
        have h4 := y5 hy
        rw [hset] at h4
        have h5 := q6 y (by omega) (by omega)
        rw [h4, decide_eq_true hy, Bool.true_and] at h5
        exact h5.symm
      rw [if_pos hy] at h60
      have hQn : QS σ τ2 n R ra L T c e A (D1 e A) (dGot L D1 D2 e A) y := ⟨Fz, hMτ2 hy, z200, by omega, by omega, by rw [z202]; exact q6, by omega, by omega, by rw [z203]; exact gy, keep.1, keep.2⟩
      obtain ⟨ω, r2, p2⟩ := ih y τ2 (by omega) (by omega) hy hdy hQn
      refine ⟨ω, ((r1.tr (zrch.one (hturn _ (hf.trans h60)))).tr r2).le ?_, p2⟩
      rw [Nat.succ_mul]
      omega
    · -- the end
      rw [if_neg hy] at h60
      have yn : y = n := by omega
      -- endLoop's own premises, without the last atom
      have hpre : ∃ ω, f_202 w τ2 = some ((), ω) ∧ MP σ ω T L (if w = 5 then n else 1) (fun t => if w = 5 then dGot L D1 D2 e A t else vQty w (zcnt n.toNat (dGot L D1 D2 e A)) (zcnt n.toNat (D1 e A))) := by
        obtain ⟨m1', m2', m3', m4', m5', m6', m7', m8', m9'⟩ := hMp
        have e53 : gI τ2 177 53 - 1 = L := by
          have : gI τ2 177 53 = L + 1 := m7'
          omega
        have g53 : gI (sI τ2 177 53 L) 177 53 = L := gI_same ⟨by omega, by omega⟩
        have hM2 : MS (sI τ2 177 53 L) n R ra L T e A := by
          refine ⟨m1', m2', m3', m4', m5', m6', g53, L0, fun j j0 j1 => ?_⟩
          have hj2 : gI (sI τ2 177 53 L) 201 j = gI (sI υ 177 46 T) 201 j := by
            show gI (sI _ 201 L y) 201 j = _
            rw [gI_ni (by omega)]
            rfl
          rw [hj2]
          have := m9' j j0 (by omega)
          unfold eUp at this
          rw [if_neg (by omega)] at this
          exact this
        have hpop : ∀ {ω : zS} {N : Int} {V : Vl}, MP (sI τ2 177 53 L) ω T L N V → MP σ ω T L N V := by
          intro ω N V h
          obtain ⟨a1, a2, a3, a4, a5, a6⟩ := h
          refine ⟨zfr_tr Fz (zfr_tr (zfr_I rfl) a1), a2, a3, a4, fun j j0 j1 => ?_, fun j j0 j1 => ?_⟩
          · rw [(a5 j j0 j1).1, (a5 j j0 j1).2]
            exact keep.1 j j0 j1
          · rw [(a6 j j0 j1).1, (a6 j j0 j1).2.1, (a6 j j0 j1).2.2.1, (a6 j j0 j1).2.2.2]
            exact keep.2 j j0 j1
        have hG : ∀ i, 0 ≤ i → i < 5 → ib (gI τ2 203 L) i = (decide (i < n) && dGot L D1 D2 e A i) := by
          intro i i0 i1
          rw [z203, gy i i0 i1, yn]
          cases decide (i < n) <;> rfl
        have hS : ∀ i, 0 ≤ i → i < 5 → ib (gI τ2 202 L) i = (decide (i < n) && D1 e A i) := by
          rw [z202]; exact q6
        unfold f_202
        rw [e53, g53, zg_pos ⟨by omega, by omega⟩, zg_pos ⟨by omega, by omega⟩]
        by_cases h5w : w = 5
        · rw [if_pos h5w, if_pos h5w]
          have hval : RV n (BitVec.ofInt 64 (gI τ2 203 L)) (0#64) (fun t => if w = 5 then dGot L D1 D2 e A t else vQty w (zcnt n.toNat (dGot L D1 D2 e A)) (zcnt n.toNat (D1 e A))) := by
            refine RV_of (by omega) (fun t t0 t1 => ?_)
            rw [if_pos h5w]
            show (BitVec.ofInt 64 (gI τ2 203 L)).toNat.testBit t.toNat = _
            have hnat : (BitVec.ofInt 64 (gI τ2 203 L)).toNat = (gI τ2 203 L).toNat := by
              rw [BitVec.toNat_ofInt]
              omega
            rw [hnat]
            by_cases ht : t < 5
            · exact hG t t0 ht
            · rw [decide_eq_false (by omega), Bool.false_and]
              apply Nat.testBit_lt_two_pow
              have : (gI τ2 203 L).toNat < 2 ^ 5 := by omega
              exact Nat.lt_of_lt_of_le this (Nat.pow_le_pow_right (by decide) (by omega))
          obtain ⟨ω, w1, w2⟩ := m_give hM2 (by omega) hval
          exact ⟨ω, by rw [zb_of w1], hpop w2⟩
        · rw [if_neg h5w, if_neg h5w]
          have c1 : f_204 (gI τ2 203 L) (sI τ2 177 53 L) = some (zcnt n.toNat (dGot L D1 D2 e A)) := by
            rw [m_many (by omega) (zR_gI _ _ _), zcnt_5 m2' m3' hG]
          have c2 : f_204 (gI τ2 202 L) (sI τ2 177 53 L) = some (zcnt n.toNat (D1 e A)) := by
            rw [m_many (by omega) (zR_gI _ _ _), zcnt_5 m2' m3' hS]
          have b1 := zcnt_b (dGot L D1 D2 e A) n.toNat
          have b2 := zcnt_b (D1 e A) n.toNat
          obtain ⟨ω, w1, w2⟩ := m_truth (v := vQty w (zcnt n.toNat (dGot L D1 D2 e A)) (zcnt n.toNat (D1 e A))) (V := fun t => if w = 5 then dGot L D1 D2 e A t else vQty w (zcnt n.toNat (dGot L D1 D2 e A)) (zcnt n.toNat (D1 e A))) hM2 (by omega) (by rw [if_neg h5w])
          exact ⟨ω, by rw [zo_of c1, zo_of c2, m_isQuantity hw0 (by omega) ⟨by omega, by omega⟩ ⟨by omega, by omega⟩, zo_of rfl, zb_of w1], hpop w2⟩
      obtain ⟨ω, w1, w2⟩ := hpre
      rw [zb_of w1] at h60
      refine ⟨ω, (r1.tr (zrch.one (hturn _ (hf.trans h60)))).le ?_, w2⟩
      rw [Nat.succ_mul]
      omega
end SEG5
