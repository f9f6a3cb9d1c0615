/-! VALUES: the reference's ~, ^, * and iden. -/
/-- row a takes what row k has, if a leads to k -/
def vRowStep (n k a : Int) (X : Vl) : Vl := fun t => X t || (decide (t / n = a) && (X (a * n + k) && X (k * n + t % n)))
def vRows (n k : Int) : Nat → Vl → Vl
  | 0, X => X
  | j + 1, X => vRowStep n k j (vRows n k j X)
def vHats (n : Int) : Nat → Vl → Vl
  | 0, X => X
  | k + 1, X => vRows n k n.toNat (vHats n k X)
def vHat (n : Int) (X : Vl) : Vl := vHats n n.toNat X
def vStar (n : Int) (X : Vl) : Vl := fun t => vHat n X t || vIden n t
/-- one word holds the first N of a value -/
def RL (N : Int) (w : BitVec 64) (V : Vl) : Prop := ∀ t : Int, 0 ≤ t → t < 64 → w.getLsbD t.toNat = (decide (t < N) && V t)
theorem RV_of {N : Int} {lo : BitVec 64} {V : Vl} (hN : N ≤ 64) (h : RL N lo V) : RV N lo (0#64) V := by
  intro t t0 t1
  by_cases h1 : t < 64
  · rw [tb_lo h1, h t t0 h1]
  · rw [tb_hi h1, decide_eq_false (by omega)]
    simp
theorem RL_of {N : Int} {lo hi : BitVec 64} {V : Vl} (h : RV N lo hi V) : RL N lo V := by
  intro t t0 t1
  rw [← tb_lo (hi := hi) t1, h t t0 (by omega)]
theorem RL_bit {N t : Int} {w : BitVec 64} {V : Vl} (h : RL N w V) (t0 : 0 ≤ t) (t1 : t < 64) (hi : BitVec 64) : tb w hi t = (decide (t < N) && V t) := by rw [tb_lo t1, h t t0 t1]
theorem nn25 {n : Int} (n1 : 1 ≤ n) (n5 : n ≤ 5) : n * n ≤ 25 ∧ 1 ≤ n * n := by
  have hc : n = 1 ∨ n = 2 ∨ n = 3 ∨ n = 4 ∨ n = 5 := by omega
  rcases hc with rfl | rfl | rfl | rfl | rfl <;> decide
section PRS
variable {s : zS} {n : Int}
theorem m_identity (hn : gI s 177 1 = n) (n1 : 1 ≤ n) (n5 : n ≤ 5) : ∃ w, f_218 s = some w ∧ RL (n * n) w (vIden n) := by
  have hnn := nn25 n1 n5
  have hloop := zlp_F (B := fun (q : BitVec 64 × Int) => b_218_4 s q.1 q.2) (I := fun q => 0 ≤ q.2 ∧ q.2 ≤ n ∧ ∀ t : Int, 0 ≤ t → t < 64 → q.1.getLsbD t.toNat = (decide (t < q.2 * n) && vIden n t)) (μ := fun q => (n - q.2).toNat) (Q := fun w => RL (n * n) w (vIden n)) (by
    rintro ⟨w, i⟩ ⟨a1, a2, a3⟩
    dsimp only at a1 a2 a3 ⊢
    unfold b_218_4
    rw [zg_pos ⟨by omega, by omega⟩, hn]
    by_cases hc : i < n
    · left
      have hiN : i * n + n ≤ n * n := by
        have := mul_mono (m := n) (show i + 1 ≤ n by omega) (by omega)
        rw [succ_mul'] at this
        exact this
      have hin : 0 ≤ i * n := Int.mul_nonneg a1 (by omega)
      rw [if_pos hc, zg_pos ⟨by omega, by omega⟩, zshl_eq (by omega) (by omega)]
      refine ⟨_, rfl, ⟨by dsimp only; omega, by dsimp only; omega, fun t t0 t1 => ?_⟩, by dsimp only; omega⟩
      dsimp only
      rw [bv_setbit _ _ _ (by omega), a3 t t0 t1, succ_mul']
      by_cases hu : t < i * n
      · rw [decide_eq_true hu, decide_eq_true (show t < i * n + n by omega), decide_eq_false (show ¬ t.toNat = (i * n + i).toNat by omega), Bool.or_false]
      · rw [decide_eq_false hu, Bool.false_and, Bool.false_or]
        by_cases hu2 : t < i * n + n
        · obtain ⟨d1, d2⟩ := div_block (by omega) (show i * n ≤ t by omega) hu2
          rw [decide_eq_true hu2, Bool.true_and]
          unfold vIden
          apply decide_eq_decide.mpr
          rw [d1, d2]
          omega
        · rw [decide_eq_false hu2, Bool.false_and]
          exact decide_eq_false (by omega)
    · right
      rw [if_neg hc]
      have e : i = n := by omega
      rw [e] at a3
      exact ⟨_, rfl, a3⟩) (s := (0#64, 0)) (by
    refine ⟨by dsimp only; omega, by dsimp only; omega, fun t t0 t1 => ?_⟩
    dsimp only
    rw [Int.zero_mul, decide_eq_false (by omega)]
    simp) (by dsimp only; omega)
  obtain ⟨w, hw, hq⟩ := hloop
  exact ⟨w, by unfold f_218; rw [zo_of hw], hq⟩
theorem m_tilde {w0 : BitVec 64} {X : Vl} (hn : gI s 177 1 = n) (n1 : 1 ≤ n) (n5 : n ≤ 5) (hX : RL (n * n) w0 X) : ∃ w, zlp (fun (q : BitVec 64 × Int) => b_217_24 w0 s q.1 q.2) zF ((0#64), 0) = some w ∧ RL (n * n) w (vTilde n X) := by
  have hnn := nn25 n1 n5
  refine zlp_F (I := fun q => 0 ≤ q.2 ∧ q.2 ≤ n * n ∧ ∀ t : Int, 0 ≤ t → t < 64 → q.1.getLsbD t.toNat = (decide (t < n * n) && (decide (t % n * n + t / n < q.2) && vTilde n X t))) (μ := fun q => (n * n - q.2).toNat) _ ?_ ?_ ?_
  · rintro ⟨w, i⟩ ⟨a1, a2, a3⟩
    dsimp only at a1 a2 a3 ⊢
    unfold b_217_24
    rw [zg_pos ⟨by omega, by omega⟩, hn, zg_pos ⟨by omega, by omega⟩]
    by_cases hc : i < n * n
    · left
      have hm0 := Int.emod_nonneg i (show n ≠ 0 by omega)
      have hm1 := Int.emod_lt_of_pos i (show 0 < n by omega)
      have hd0 : 0 ≤ i / n := Int.ediv_nonneg a1 (by omega)
      have hd1 : i / n < n := div_lt (by omega) hc
      have hmn0 : 0 ≤ i % n * n := Int.mul_nonneg hm0 (by omega)
      have hmn1 : i % n * n + n ≤ n * n := by
        have := mul_mono (m := n) (show i % n + 1 ≤ n by omega) (by omega)
        rw [succ_mul'] at this
        exact this
      -- t is the turned i just where i is the turned t
      have hturn : ∀ t : Int, 0 ≤ t → t < n * n → (t % n * n + t / n = i ↔ t = i % n * n + i / n) := by
        intro t t0 t1
        have tm0 := Int.emod_nonneg t (show n ≠ 0 by omega)
        have tm1 := Int.emod_lt_of_pos t (show 0 < n by omega)
        have td0 : 0 ≤ t / n := Int.ediv_nonneg t0 (by omega)
        have td1 : t / n < n := div_lt (by omega) t1
        constructor
        · intro h
          obtain ⟨e1, e2⟩ := div_block (m := n) (t := t % n) (u := i) (by omega) (by omega) (by omega)
          rw [e1, e2]
          have := div_mul_mod t n
          have e3 : i - t % n * n = t / n := by omega
          rw [e3]
          omega
        · intro h
          obtain ⟨e1, e2⟩ := div_block (m := n) (t := i % n) (u := t) (by omega) (by omega) (by omega)
          rw [e1, e2]
          have := div_mul_mod i n
          have e3 : t - i % n * n = i / n := by omega
          rw [e3]
          omega
      rw [if_pos hc, m_bit a1 (by omega), zo_of rfl, RL_bit hX a1 (by omega), decide_eq_true hc, Bool.true_and]
      by_cases hxi : X i = true
      · rw [if_pos hxi, zg_pos (by decide), if_neg (by decide), zg_pos ⟨a1, ⟨by omega, by omega⟩, by omega, ⟨by omega, by omega⟩⟩, zg_pos ⟨by omega, by omega⟩, zshl_eq (by omega) (by omega)]
        refine ⟨_, rfl, ⟨by dsimp only; omega, by dsimp only; omega, fun t t0 t1 => ?_⟩, by dsimp only; omega⟩
        dsimp only
        rw [bv_setbit _ _ _ (by omega), a3 t t0 t1]
        by_cases htn : t < n * n
        · rw [decide_eq_true htn, Bool.true_and, Bool.true_and]
          have ht := hturn t t0 htn
          by_cases he : t = i % n * n + i / n
          · have he2 := ht.mpr he
            rw [decide_eq_true (show t.toNat = (i % n * n + i / n).toNat by omega), decide_eq_true (show t % n * n + t / n < i + 1 by omega), Bool.or_true, Bool.true_and]
            unfold vTilde
            rw [he2, hxi]
          · have he2 : ¬ t % n * n + t / n = i := fun h => he (ht.mp h)
            rw [decide_eq_false (show ¬ t.toNat = (i % n * n + i / n).toNat by omega), Bool.or_false]
            congr 1
            apply decide_eq_decide.mpr
            omega
        · rw [decide_eq_false htn, Bool.false_and, Bool.false_and, Bool.false_or]
          exact decide_eq_false (by omega)
      · rw [if_neg hxi, zg_pos (by decide), if_pos rfl]
        refine ⟨_, rfl, ⟨by dsimp only; omega, by dsimp only; omega, fun t t0 t1 => ?_⟩, by dsimp only; omega⟩
        dsimp only
        rw [a3 t t0 t1]
        by_cases htn : t < n * n
        · rw [decide_eq_true htn, Bool.true_and, Bool.true_and]
          have ht := hturn t t0 htn
          by_cases he2 : t % n * n + t / n = i
          · unfold vTilde
            rw [he2, Bool.not_eq_true _ |>.mp hxi]
            simp
          · congr 1
            apply decide_eq_decide.mpr
            omega
        · rw [decide_eq_false htn, Bool.false_and, Bool.false_and]
    · right
      rw [if_neg hc]
      have e : i = n * n := by omega
      refine ⟨_, rfl, fun t t0 t1 => ?_⟩
      rw [a3 t t0 t1, e]
      by_cases htn : t < n * n
      · have tm0 := Int.emod_nonneg t (show n ≠ 0 by omega)
        have tm1 := Int.emod_lt_of_pos t (show 0 < n by omega)
        have td0 : 0 ≤ t / n := Int.ediv_nonneg t0 (by omega)
        have td1 : t / n < n := div_lt (by omega) htn
        have := mul_mono (m := n) (show t % n + 1 ≤ n by omega) (by omega)
        rw [succ_mul'] at this
        rw [decide_eq_true (show t % n * n + t / n < n * n by omega), Bool.true_and]
      · rw [decide_eq_false htn, Bool.false_and, Bool.false_and]
  · refine ⟨by dsimp only; omega, by dsimp only; omega, fun t t0 t1 => ?_⟩
    dsimp only
    have tm0 := Int.emod_nonneg t (show n ≠ 0 by omega)
    have td0 : 0 ≤ t / n := Int.ediv_nonneg t0 (by omega)
    have := Int.mul_nonneg tm0 (show 0 ≤ n by omega)
    rw [decide_eq_false (show ¬ t % n * n + t / n < 0 by omega)]
    simp
  · dsimp only; omega
theorem m_reach {v : Int} {w0 : BitVec 64} {X : Vl} (hn : gI s 177 1 = n) (n1 : 1 ≤ n) (n5 : n ≤ 5) (hX : RL (n * n) w0 X) : ∃ w, zlp (fun (q : BitVec 64 × Int) => b_217_95 v s q.1 q.2) zF (w0, 0) = some w ∧ RL (n * n) w (vHat n X) := by
  have hnn := nn25 n1 n5
  refine zlp_F (I := fun q => 0 ≤ q.2 ∧ q.2 ≤ n ∧ RL (n * n) q.1 (vHats n q.2.toNat X)) (μ := fun q => (n - q.2).toNat) _ ?_ ?_ ?_
  · rintro ⟨w, k⟩ ⟨a1, a2, a3⟩
    dsimp only at a1 a2 a3 ⊢
    unfold b_217_95
    rw [zg_pos ⟨by omega, by omega⟩, hn]
    by_cases hc : k < n
    · left
      have ek : ((k.toNat : Nat) : Int) = k := by omega
      have hkn0 : 0 ≤ k * n := Int.mul_nonneg a1 (by omega)
      have hkn1 : k * n + n ≤ n * n := by
        have := mul_mono (m := n) (show k + 1 ≤ n by omega) (by omega)
        rw [succ_mul'] at this
        exact this
      -- the rows, one by one
      have hin := zlp_F (B := fun (q : BitVec 64 × Int) => b_217_107 v k s q.1 q.2) (I := fun q => 0 ≤ q.2 ∧ q.2 ≤ n ∧ RL (n * n) q.1 (vRows n k q.2.toNat (vHats n k.toNat X))) (μ := fun q => (n - q.2).toNat) (Q := fun w => RL (n * n) w (vRows n k n.toNat (vHats n k.toNat X))) (by
        rintro ⟨y, i⟩ ⟨b1, b2, b3⟩
        dsimp only at b1 b2 b3 ⊢
        have ei : ((i.toNat : Nat) : Int) = i := by omega
        have es : (i + 1).toNat = i.toNat + 1 := by omega
        unfold b_217_107
        rw [zg_pos ⟨by omega, by omega⟩, hn]
        by_cases hc2 : i < n
        · left
          have hin0 : 0 ≤ i * n := Int.mul_nonneg b1 (by omega)
          have hin1 : i * n + n ≤ n * n := by
            have := mul_mono (m := n) (show i + 1 ≤ n by omega) (by omega)
            rw [succ_mul'] at this
            exact this
          rw [if_pos hc2, m_bit (by omega) (by omega), zo_of rfl, RL_bit b3 (by omega) (by omega), decide_eq_true (show i * n + k < n * n by omega), Bool.true_and]
          generalize hZ : vRows n k i.toNat (vHats n k.toNat X) = Z at *
          have hnext : ∀ t, vRows n k (i + 1).toNat (vHats n k.toNat X) t = (Z t || (decide (t / n = i) && (Z (i * n + k) && Z (k * n + t % n)))) := by
            intro t
            rw [es, vRows, hZ, ei]
            rfl
          by_cases hz : Z (i * n + k) = true
          · obtain ⟨r, hr, hrb⟩ := m_part (lo := y) (hi := 0#64) (v := k * n) (m := n) hkn0 (by omega) (by omega) (by omega) (by omega)
            rw [if_pos hz, zg_pos (by decide), if_neg (by decide), zo_of hr, zg_pos ⟨by omega, by omega⟩, zshl_eq (by omega) (by omega)]
            refine ⟨_, rfl, ⟨by dsimp only; omega, by dsimp only; omega, fun t t0 t1 => ?_⟩, by dsimp only; omega⟩
            dsimp only
            rw [hnext, BitVec.getLsbD_or, BitVec.getLsbD_shiftLeft, b3 t t0 t1, decide_eq_true (show t.toNat < 64 by omega), Bool.true_and, hz, Bool.true_and]
            by_cases hr0 : i * n ≤ t
            · rw [decide_eq_false (show ¬ t.toNat < (i * n).toNat by omega), Bool.not_false, Bool.true_and, show t.toNat - (i * n).toNat = (t - i * n).toNat by omega, hrb (t - i * n) (by omega) (by omega)]
              by_cases hr1 : t < i * n + n
              · obtain ⟨d1, d2⟩ := div_block (by omega) hr0 hr1
                rw [decide_eq_true (show t - i * n < n by omega), Bool.true_and, RL_bit b3 (by omega) (by omega), decide_eq_true (show k * n + (t - i * n) < n * n by omega), Bool.true_and, d1, d2, decide_eq_true (show t < n * n by omega), Bool.true_and, Bool.true_and, decide_eq_true rfl, Bool.true_and]
              · have hd := div_ge (m := n) (t := i + 1) (u := t) (by omega) (by rw [succ_mul']; omega)
                rw [decide_eq_false (show ¬ t - i * n < n by omega), Bool.false_and, Bool.or_false, decide_eq_false (show ¬ t / n = i by omega), Bool.false_and, Bool.or_false]
            · have hd := div_lt (m := n) (t := i) (u := t) (by omega) (by omega)
              rw [decide_eq_true (show t.toNat < (i * n).toNat by omega), Bool.not_true, Bool.false_and, Bool.or_false, decide_eq_false (show ¬ t / n = i by omega), Bool.false_and, Bool.or_false]
          · rw [if_neg hz, zg_pos (by decide), if_pos rfl]
            refine ⟨_, rfl, ⟨by dsimp only; omega, by dsimp only; omega, fun t t0 t1 => ?_⟩, by dsimp only; omega⟩
            dsimp only
            rw [hnext, b3 t t0 t1, Bool.not_eq_true _ |>.mp hz, Bool.false_and, Bool.and_false, Bool.or_false]
        · right
          rw [if_neg hc2]
          have e : i = n := by omega
          rw [e] at b3
          exact ⟨_, rfl, b3⟩) (s := (w, 0)) ⟨by dsimp only; omega, by dsimp only; omega, a3⟩ (by dsimp only; omega)
      obtain ⟨y, hy, hq⟩ := hin
      rw [if_pos hc, zo_of hy]
      refine ⟨_, rfl, ⟨by dsimp only; omega, by dsimp only; omega, ?_⟩, by dsimp only; omega⟩
      dsimp only
      rw [show (k + 1).toNat = k.toNat + 1 by omega, vHats, ek]
      exact hq
    · right
      rw [if_neg hc]
      have e : k = n := by omega
      rw [e] at a3
      exact ⟨_, rfl, a3⟩
  · exact ⟨by dsimp only; omega, by dsimp only; omega, hX⟩
  · dsimp only; omega
end PRS
