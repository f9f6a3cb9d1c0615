/-! WORDS of the reference: masks, part, join, amount. -/
theorem bv_mask (m j : Nat) (hm : m < 64) (hj : j < 64) : (((1#64) <<< m) - (1#64)).getLsbD j = decide (j < m) := by
  have h1 : ((1#64) <<< m) = BitVec.ofNat 64 (2 ^ m) := by
    apply BitVec.eq_of_toNat_eq
    rw [BitVec.toNat_shiftLeft, BitVec.toNat_ofNat, BitVec.toNat_ofNat, Nat.shiftLeft_eq]
    show 1 % 2 ^ 64 * 2 ^ m % 2 ^ 64 = _
    rw [show 1 % 2 ^ 64 = 1 from rfl, Nat.one_mul]
  have hp : 2 ^ m < 2 ^ 64 := Nat.pow_lt_pow_right (by decide) hm
  have hp1 : 1 ≤ 2 ^ m := Nat.one_le_two_pow
  have h2 : (((1#64) <<< m) - (1#64)).toNat = 2 ^ m - 1 := by
    rw [h1, BitVec.toNat_sub, BitVec.toNat_ofNat, BitVec.toNat_ofNat, Nat.mod_eq_of_lt hp, show 1 % 2 ^ 64 = 1 from rfl]
    omega
  show (((1#64) <<< m) - (1#64)).toNat.testBit j = _
  rw [h2, Nat.testBit_two_pow_sub_one]
/-- 128 bits: what stands at t -/
theorem tb_lo {lo hi : BitVec 64} {t : Int} (h : t < 64) : tb lo hi t = lo.getLsbD t.toNat := if_pos h
theorem tb_hi {lo hi : BitVec 64} {t : Int} (h : ¬ t < 64) : tb lo hi t = hi.getLsbD (t - 64).toNat := if_neg h
theorem m_part {lo hi : BitVec 64} {v m : Int} (v0 : 0 ≤ v) (v1 : v < 128) (m0 : 0 ≤ m) (m1 : m < 64) (hvm : v + m ≤ 128) : ∃ w, f_210 lo hi v m = some w ∧ ∀ j : Int, 0 ≤ j → j < 64 → w.getLsbD j.toNat = (decide (j < m) && tb lo hi (v + j)) := by
  have em : zshl m = m.toNat := zshl_eq m0 m1
  have hmask : ∀ j : Int, 0 ≤ j → j < 64 → (((1#64) <<< zshl m) - (1#64)).getLsbD j.toNat = decide (j < m) := by
    intro j j0 j1
    rw [em, bv_mask _ _ (by omega) (by omega)]
    apply decide_eq_decide.mpr
    omega
  unfold f_210
  rw [zg_pos ⟨by omega, by omega⟩]
  by_cases h1 : v < 64
  · rw [if_pos h1]
    by_cases h2 : v = 0
    · rw [if_pos h2, zg_pos ⟨by omega, by omega⟩]
      refine ⟨_, rfl, fun j j0 j1 => ?_⟩
      rw [BitVec.getLsbD_and, hmask j j0 j1, h2, Int.zero_add, tb_lo j1, Bool.and_comm]
    · rw [if_neg h2, zg_pos ⟨by omega, by omega⟩, zg_pos ⟨by omega, by omega⟩]
      refine ⟨_, rfl, fun j j0 j1 => ?_⟩
      rw [BitVec.getLsbD_and, hmask j j0 j1, Bool.and_comm]
      by_cases hj : j < m
      · rw [decide_eq_true hj, Bool.true_and, Bool.true_and, BitVec.getLsbD_or, zshl_eq v0 h1, zshl_eq (by omega) (by omega), BitVec.getLsbD_ushiftRight, BitVec.getLsbD_shiftLeft]
        by_cases h3 : v + j < 64
        · rw [tb_lo h3, show (v + j).toNat = v.toNat + j.toNat by omega]
          have : decide (j.toNat < (64 - v).toNat) = true := decide_eq_true (by omega)
          rw [this]
          simp
        · rw [tb_hi h3, BitVec.getLsbD_of_ge lo _ (by omega), Bool.false_or]
          have h4 : decide (j.toNat < (64 - v).toNat) = false := decide_eq_false (by omega)
          have h5 : decide (j.toNat < 64) = true := decide_eq_true (by omega)
          rw [h4, h5, show (v + j - 64).toNat = j.toNat - (64 - v).toNat by omega]
          simp
      · rw [decide_eq_false hj, Bool.false_and, Bool.false_and]
  · rw [if_neg h1, zg_pos ⟨by omega, by omega⟩, zg_pos ⟨by omega, by omega⟩]
    refine ⟨_, rfl, fun j j0 j1 => ?_⟩
    rw [BitVec.getLsbD_and, hmask j j0 j1, Bool.and_comm, zshl_eq (by omega) (by omega), BitVec.getLsbD_ushiftRight, tb_hi (show ¬ v + j < 64 by omega), show (v + j - 64).toNat = (v - 64).toNat + j.toNat by omega]
theorem m_join {s : zS} {v : Int} {w : BitVec 64} (v0 : 0 ≤ v) (v1 : v < 128) : ∃ s', f_212 v w s = some ((), s') ∧ ∀ t, 0 ≤ t → t < 128 → tb (gJ s' 177 47) (gJ s' 177 48) t = (tb (gJ s 177 47) (gJ s 177 48) t || (decide (v ≤ t) && w.getLsbD (t - v).toNat)) := by
  unfold f_212
  rw [zg_pos ⟨by omega, by omega⟩]
  by_cases h1 : v < 64
  · rw [if_pos h1]
    by_cases h2 : v = 0
    · rw [if_pos h2]
      refine ⟨_, rfl, fun t t0 t1 => ?_⟩
      rw [gJ_ni (i' := 47) (by decide), gJ_same, gJ_same, h2, decide_eq_true t0, Bool.true_and, Int.sub_zero]
      by_cases h3 : t < 64
      · rw [tb_lo h3, tb_lo h3, BitVec.getLsbD_or, show zshl 0 = 0 from rfl, BitVec.shiftLeft_zero]
      · rw [tb_hi h3, tb_hi h3, BitVec.getLsbD_of_ge w _ (by omega), Bool.or_false]
    · rw [if_neg h2, zg_pos ⟨by omega, by omega⟩]
      refine ⟨_, rfl, fun t t0 t1 => ?_⟩
      rw [gJ_ni (i' := 47) (by decide), gJ_same, gJ_same]
      by_cases h3 : t < 64
      · rw [tb_lo h3, tb_lo h3, BitVec.getLsbD_or, zshl_eq v0 h1, BitVec.getLsbD_shiftLeft, decide_eq_true (show t.toNat < 64 by omega), Bool.true_and]
        congr 1
        by_cases h4 : v ≤ t
        · rw [decide_eq_true h4, decide_eq_false (show ¬ t.toNat < v.toNat by omega), show (t - v).toNat = t.toNat - v.toNat by omega]
          simp
        · rw [decide_eq_false h4, decide_eq_true (show t.toNat < v.toNat by omega)]
          simp
      · rw [tb_hi h3, tb_hi h3, BitVec.getLsbD_or, zshl_eq (by omega) (by omega), BitVec.getLsbD_ushiftRight, decide_eq_true (show v ≤ t by omega), Bool.true_and, show (64 - v).toNat + (t - 64).toNat = (t - v).toNat by omega]
  · rw [if_neg h1, zg_pos ⟨by omega, by omega⟩]
    refine ⟨_, rfl, fun t t0 t1 => ?_⟩
    rw [gJ_ni (i' := 47) (by decide), gJ_same]
    by_cases h3 : t < 64
    · rw [tb_lo h3, tb_lo h3, decide_eq_false (show ¬ v ≤ t by omega), Bool.false_and, Bool.or_false]
    · rw [tb_hi h3, tb_hi h3, BitVec.getLsbD_or, zshl_eq (by omega) (by omega), BitVec.getLsbD_shiftLeft, decide_eq_true (show (t - 64).toNat < 64 by omega), Bool.true_and]
      congr 1
      by_cases h4 : v ≤ t
      · rw [decide_eq_true h4, decide_eq_false (show ¬ (t - 64).toNat < (v - 64).toNat by omega), show (t - v).toNat = (t - 64).toNat - (v - 64).toNat by omega]
        simp
      · rw [decide_eq_false h4, decide_eq_true (show (t - 64).toNat < (v - 64).toNat by omega)]
        simp
/-- how many of the first N are in a set -/
def zcnt : Nat → (Int → Bool) → Int
  | 0, _ => 0
  | n + 1, f => zcnt n f + (if f n then 1 else 0)
theorem zcnt_b (f : Int → Bool) : ∀ n : Nat, 0 ≤ zcnt n f ∧ zcnt n f ≤ n
  | 0 => by simp [zcnt]
  | n + 1 => by
    have := zcnt_b f n
    rw [zcnt]
    split <;> omega
theorem zcnt_congr {f g : Int → Bool} : ∀ {n : Nat}, (∀ i : Int, 0 ≤ i → i < n → f i = g i) → zcnt n f = zcnt n g
  | 0, _ => rfl
  | n + 1, h => by
    rw [zcnt, zcnt, zcnt_congr (n := n) (fun i hi hi2 => h i hi (by omega)), h n (by omega) (by omega)]
/-- beyond N nothing counts -/
theorem zcnt_ext {f : Int → Bool} {N : Nat} : ∀ {k : Nat}, (∀ i : Int, N ≤ i → f i = false) → zcnt (N + k) f = zcnt N f
  | 0, _ => rfl
  | k + 1, h => by
    rw [← Nat.add_assoc, zcnt, zcnt_ext h, h _ (by omega)]
    simp
theorem m_amount {lo hi : BitVec 64} {s : zS} : f_221 lo hi s = some (zcnt 125 (tb lo hi)) := by
  have hloop := zlp_F (B := fun (q : Int × Int) => b_221_6 lo hi s q.1 q.2) (I := fun q => 0 ≤ q.2 ∧ q.2 ≤ 125 ∧ q.1 = zcnt q.2.toNat (tb lo hi)) (μ := fun q => (125 - q.2).toNat) (Q := fun t => t = zcnt 125 (tb lo hi)) (by
    rintro ⟨v, i⟩ ⟨a1, a2, a3⟩
    dsimp only at a1 a2 a3 ⊢
    unfold b_221_6
    rw [zg_pos ⟨by omega, by omega⟩]
    by_cases hc : i < 125
    · left
      have e : (i + 1).toNat = i.toNat + 1 := by omega
      have e2 : ((i.toNat : Nat) : Int) = i := by omega
      rw [if_pos hc, m_bit a1 (by omega), zo_of rfl]
      by_cases hb : tb lo hi i = true
      · rw [if_pos hb, zg_pos (by decide), if_neg (by decide)]
        refine ⟨_, rfl, ⟨by dsimp only; omega, by dsimp only; omega, ?_⟩, by dsimp only; omega⟩
        dsimp only
        rw [e, zcnt, e2, hb, a3, if_pos rfl]
      · rw [if_neg hb, zg_pos (by decide), if_pos rfl]
        refine ⟨_, rfl, ⟨by dsimp only; omega, by dsimp only; omega, ?_⟩, by dsimp only; omega⟩
        dsimp only
        rw [e, zcnt, e2, if_neg hb, a3]
        omega
    · right
      rw [if_neg hc]
      have e : i = 125 := by omega
      rw [e] at a3
      exact ⟨_, rfl, a3⟩) (s := (0, 0)) ⟨by decide, by decide, rfl⟩ (by decide)
  obtain ⟨t, ht, hq⟩ := hloop
  unfold f_221
  rw [zo_of ht, hq]
