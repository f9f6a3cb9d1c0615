/-! BITS of ints. -/
theorem bv_small {b : BitVec 32} (h : b.toNat < 2147483648) : b.toInt = (b.toNat : Int) := by
  rw [BitVec.toInt_eq_toNat_cond, if_pos (by omega)]
theorem zand_nat {a b : Int} (ha : 0 ≤ a) (hra : zR a) (hb : 0 ≤ b) (hrb : zR b) : zand a b = ((a.toNat &&& b.toNat : Nat) : Int) := by
  have h : (BitVec.ofInt 32 a &&& BitVec.ofInt 32 b).toNat = a.toNat &&& b.toNat := by rw [BitVec.toNat_and, z_bvnat ha hra, z_bvnat hb hrb]
  have hl : a.toNat &&& b.toNat ≤ a.toNat := Nat.and_le_left
  have := hra.2
  unfold zand
  rw [bv_small (by rw [h]; omega), h]
theorem zor_nat {a b : Int} (ha : 0 ≤ a) (hra : zR a) (hb : 0 ≤ b) (hrb : zR b) : zor a b = ((a.toNat ||| b.toNat : Nat) : Int) := by
  have h : (BitVec.ofInt 32 a ||| BitVec.ofInt 32 b).toNat = a.toNat ||| b.toNat := by rw [BitVec.toNat_or, z_bvnat ha hra, z_bvnat hb hrb]
  have hl : a.toNat ||| b.toNat < 2 ^ 31 := Nat.or_lt_two_pow (by have := hra.2; omega) (by have := hrb.2; omega)
  unfold zor
  rw [bv_small (by rw [h]; omega), h]
theorem zand_one {a : Int} (ha : 0 ≤ a) (hra : zR a) : zand a 1 = a % 2 := by
  rw [zand_nat ha hra (by decide) (by decide)]
  show ((a.toNat &&& 1 : Nat) : Int) = a % 2
  rw [Nat.and_one_is_mod]
  omega
theorem bv_m1 (b : BitVec 32) : b ^^^ BitVec.ofInt 32 (-1) = ~~~ b := by
  have e : BitVec.ofInt 32 (-1) = BitVec.allOnes 32 := by decide
  rw [e, BitVec.xor_allOnes]
/-- a without the bits of b -/
theorem zandn_spec {a b : Int} (ha : 0 ≤ a) (hra : zR a) (hb : 0 ≤ b) (hrb : zR b) : ∃ c : Nat, zand a (zxor b (-1)) = (c : Int) ∧ c ≤ a.toNat ∧ ∀ i, c.testBit i = (a.toNat.testBit i && !b.toNat.testBit i) := by
  have e1 : BitVec.ofInt 32 (zxor b (-1)) = ~~~ BitVec.ofInt 32 b := by
    unfold zxor
    rw [BitVec.ofInt_toInt, bv_m1]
  have h : (BitVec.ofInt 32 a &&& ~~~ BitVec.ofInt 32 b).toNat ≤ a.toNat := by
    rw [BitVec.toNat_and, z_bvnat ha hra]
    exact Nat.and_le_left
  refine ⟨(BitVec.ofInt 32 a &&& ~~~ BitVec.ofInt 32 b).toNat, ?_, h, ?_⟩
  · unfold zand
    rw [e1, bv_small (by have := hra.2; omega)]
  · intro i
    rw [BitVec.toNat_and, Nat.testBit_and, z_bvnat ha hra]
    by_cases hi : i < 32
    · rw [show (~~~ BitVec.ofInt 32 b).toNat.testBit i = (~~~ BitVec.ofInt 32 b).getLsbD i from rfl, BitVec.getLsbD_not]
      rw [show (BitVec.ofInt 32 b).getLsbD i = (BitVec.ofInt 32 b).toNat.testBit i from rfl, z_bvnat hb hrb]
      simp [hi]
    · have : a.toNat.testBit i = false := by
        apply Nat.testBit_lt_two_pow
        have h1 : a.toNat < 2 ^ 31 := by have := hra.2; omega
        exact Nat.lt_of_lt_of_le h1 (Nat.pow_le_pow_right (by decide) (by omega))
      rw [this]
      rfl
/-- bit i of a, read as the programs read it -/
theorem zbit_eq {a : Int} {i : Nat} (ha : 0 ≤ a) : (a / 2 ^ i) % 2 = if a.toNat.testBit i then 1 else 0 := by
  have e : a = (a.toNat : Int) := by omega
  have e2 : ((2 : Int) ^ i) = ((2 ^ i : Nat) : Int) := by norm_cast
  rw [Nat.testBit_eq_decide_div_mod_eq]
  have h : a / 2 ^ i % 2 = ((a.toNat / 2 ^ i % 2 : Nat) : Int) := by
    rw [e2]
    conv => lhs; rw [e]
    rw [← Int.natCast_ediv]
    omega
  rw [h]
  by_cases hc : a.toNat / 2 ^ i % 2 = 1
  · rw [hc, decide_eq_true rfl]; rfl
  · rw [decide_eq_false hc]
    have : a.toNat / 2 ^ i % 2 = 0 := by omega
    rw [this]
    rfl
theorem zdiv_R {a : Int} {i : Nat} (ha : 0 ≤ a) (hra : zR a) : 0 ≤ a / 2 ^ i ∧ zR (a / 2 ^ i) := by
  have h0 : 0 ≤ a / 2 ^ i := Int.ediv_nonneg ha (Int.pow_nonneg (by decide))
  have h1 : a / 2 ^ i ≤ a := Int.ediv_le_self _ ha
  exact ⟨h0, by omega, by have := hra.2; omega⟩
/-- the test that the programs make: a >>> i & 1 -/
theorem ztest {a b : Int} (ha : 0 ≤ a) (hra : zR a) (hb : 0 ≤ b) (hb2 : b < 32) : zand (a / 2 ^ zsh b) 1 = if a.toNat.testBit b.toNat then 1 else 0 := by
  have e : zsh b = b.toNat := by unfold zsh; omega
  have h := zdiv_R (i := zsh b) ha hra
  rw [zand_one h.1 h.2, e, zbit_eq ha]
theorem zpow_b {i : Int} (h0 : 0 ≤ i) (h : i ≤ 30) : (1 : Int) * 2 ^ zsh i = ((2 ^ i.toNat : Nat) : Int) ∧ (2 ^ i.toNat : Nat) ≤ 1073741824 := by
  have e : zsh i = i.toNat := by unfold zsh; omega
  rw [e, Int.one_mul]
  refine ⟨by norm_cast, ?_⟩
  have : (2 : Nat) ^ i.toNat ≤ 2 ^ 30 := Nat.pow_le_pow_right (by decide) (by omega)
  exact this
