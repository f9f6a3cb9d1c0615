/-! HOW MANY BITS a number has. -/
def nbt (f : Nat → Bool) : Nat → Nat
  | 0 => 0
  | k + 1 => nbt f k + (if f k then 1 else 0)
theorem nbt_congr {f g : Nat → Bool} : ∀ k : Nat, (∀ i, i < k → f i = g i) → nbt f k = nbt g k
  | 0, _ => rfl
  | k + 1, h => by rw [nbt, nbt, nbt_congr k (fun i hi => h i (by omega)), h k (by omega)]
theorem nbt_add (f : Nat → Bool) (a : Nat) : ∀ b : Nat, nbt f (a + b) = nbt f a + nbt (fun i => f (a + i)) b
  | 0 => rfl
  | b + 1 => by rw [← Nat.add_assoc, nbt, nbt, nbt_add f a b]; omega
theorem and_split (k a b m n : Nat) (ha : a < 2 ^ k) (hm : m < 2 ^ k) : (a + 2 ^ k * b) &&& (m + 2 ^ k * n) = (a &&& m) + 2 ^ k * (b &&& n) := by
  apply Nat.eq_of_testBit_eq
  intro i
  have ham : a &&& m < 2 ^ k := Nat.lt_of_le_of_lt Nat.and_le_left ha
  rw [Nat.testBit_and, Nat.add_comm a, Nat.add_comm m, Nat.add_comm (a &&& m), Nat.testBit_two_pow_mul_add _ ha, Nat.testBit_two_pow_mul_add _ hm, Nat.testBit_two_pow_mul_add _ ham]
  by_cases h : i < k
  · rw [if_pos h, if_pos h, if_pos h, Nat.testBit_and]
  · rw [if_neg h, if_neg h, if_neg h, Nat.testBit_and]
theorem and_split8 (a b m n : Nat) (ha : a < 256) (hm : m < 256) : (a + 256 * b) &&& (m + 256 * n) = (a &&& m) + 256 * (b &&& n) := and_split 8 a b m n ha hm
/-- the same byte over and over; each byte by itself -/
def bym (b : Nat) : Nat → Nat
  | 0 => 0
  | j + 1 => b + 256 * bym b j
def byv (f : Nat → Nat) (v : Nat) : Nat → Nat
  | 0 => 0
  | j + 1 => f (v % 256) + 256 * byv f (v / 256) j
theorem byv_comp {f g : Nat → Nat} (hg : ∀ b, b < 256 → g b < 256) : ∀ (j v : Nat), byv f (byv g v j) j = byv (fun b => f (g b)) v j
  | 0, v => rfl
  | j + 1, v => by
    have h := hg (v % 256) (Nat.mod_lt _ (by decide))
    have e1 : (g (v % 256) + 256 * byv g (v / 256) j) % 256 = g (v % 256) := by omega
    have e2 : (g (v % 256) + 256 * byv g (v / 256) j) / 256 = byv g (v / 256) j := by omega
    rw [byv, byv, e1, e2, byv_comp hg j]
    rfl
theorem byv_congr {f g : Nat → Nat} (h : ∀ b, b < 256 → f b = g b) : ∀ (j v : Nat), byv f v j = byv g v j
  | 0, v => rfl
  | j + 1, v => by rw [byv, byv, h _ (Nat.mod_lt _ (by decide)), byv_congr h j]
theorem by_1a : ∀ b : Fin 256, ∀ e : Fin 2, (b.val / 2 + 128 * e.val) &&& 85 = (b.val / 2) &&& 85 := by decide +kernel
theorem by_1 : ∀ (j v : Nat), v < 256 ^ j → v - ((v / 2) &&& bym 85 j) = byv (fun b => b - ((b / 2) &&& 85)) v j
  | 0, v, h => by
    have : v = 0 := by rw [Nat.pow_zero] at h; omega
    subst this
    rfl
  | j + 1, v, h => by
    rw [Nat.pow_succ] at h
    have ih := by_1 j (v / 256) (by omega)
    have hb := by_1a ⟨v % 256, Nat.mod_lt _ (by decide)⟩ ⟨v / 256 % 2, Nat.mod_lt _ (by decide)⟩
    dsimp only at hb
    have e : v / 2 = (v % 256 / 2 + 128 * (v / 256 % 2)) + 256 * (v / 256 / 2) := by omega
    have l1 : (v % 256 / 2) &&& 85 ≤ v % 256 / 2 := Nat.and_le_left
    have l2 : (v / 256 / 2) &&& bym 85 j ≤ v / 256 / 2 := Nat.and_le_left
    rw [bym, e, and_split8 _ _ _ _ (by omega) (by decide), hb, byv, ← ih]
    generalize (v % 256 / 2) &&& 85 = x at *
    generalize (v / 256 / 2) &&& bym 85 j = y at *
    omega
theorem by_2a : ∀ b : Fin 256, ∀ e : Fin 4, (b.val / 4 + 64 * e.val) &&& 51 = (b.val / 4) &&& 51 := by decide +kernel
theorem by_2 : ∀ (j v : Nat), (v &&& bym 51 j) + ((v / 4) &&& bym 51 j) = byv (fun b => (b &&& 51) + ((b / 4) &&& 51)) v j
  | 0, v => by
    rw [bym, Nat.and_zero, Nat.and_zero]
    rfl
  | j + 1, v => by
    have ih := by_2 j (v / 256)
    have hb := by_2a ⟨v % 256, Nat.mod_lt _ (by decide)⟩ ⟨v / 256 % 4, Nat.mod_lt _ (by decide)⟩
    dsimp only at hb
    have e : v / 4 = (v % 256 / 4 + 64 * (v / 256 % 4)) + 256 * (v / 256 / 4) := by omega
    have e0 : v = v % 256 + 256 * (v / 256) := by omega
    have e1 : v &&& bym 51 (j + 1) = (v % 256 &&& 51) + 256 * (v / 256 &&& bym 51 j) := by
      rw [bym]
      conv => lhs; rw [e0]
      exact and_split8 _ _ _ _ (by omega) (by decide)
    have e2 : (v / 4) &&& bym 51 (j + 1) = ((v % 256 / 4) &&& 51) + 256 * ((v / 256 / 4) &&& bym 51 j) := by
      rw [bym, e, and_split8 _ _ _ _ (by omega) (by decide), hb]
    rw [e1, e2, byv, ← ih]
    omega
theorem by_3a : ∀ b : Fin 256, b.val &&& 15 = b.val % 16 := by decide +kernel
theorem byv_16 {g : Nat → Nat} (hg : ∀ b, b < 256 → g b % 16 ≤ 4 ∧ g b / 16 ≤ 4) : ∀ (j w : Nat), byv g w j % 16 ≤ 4
  | 0, w => by show 0 % 16 ≤ 4; decide
  | j + 1, w => by
    have := hg (w % 256) (Nat.mod_lt _ (by decide))
    rw [byv]
    omega
theorem by_3 {g : Nat → Nat} (hg : ∀ b, b < 256 → g b % 16 ≤ 4 ∧ g b / 16 ≤ 4) : ∀ (j w : Nat), (byv g w j + byv g w j / 16) &&& bym 15 j = byv (fun b => g b % 16 + g b / 16) w j
  | 0, w => by
    rw [bym, Nat.and_zero]
    rfl
  | j + 1, w => by
    have ih := by_3 hg j (w / 256)
    have h1 := hg (w % 256) (Nat.mod_lt _ (by decide))
    have h2 := byv_16 hg j (w / 256)
    rw [byv, byv, bym, ← ih]
    generalize g (w % 256) = b at *
    generalize byv g (w / 256) j = h at *
    have e : b + 256 * h + (b + 256 * h) / 16 = (b + b / 16 + 16 * (h % 16)) + 256 * (h + h / 16) := by omega
    have h3 := by_3a ⟨b + b / 16 + 16 * (h % 16), by omega⟩
    dsimp only at h3
    rw [e, and_split8 _ _ _ _ (by omega) (by decide), h3]
    congr 1
    omega
def pb (b : Nat) : Nat := nbt (fun i => b.testBit i) 8
theorem by_pb : ∀ b : Fin 256, (((b.val - ((b.val / 2) &&& 85)) &&& 51) + (((b.val - ((b.val / 2) &&& 85)) / 4) &&& 51)) % 16 + (((b.val - ((b.val / 2) &&& 85)) &&& 51) + (((b.val - ((b.val / 2) &&& 85)) / 4) &&& 51)) / 16 = pb b.val ∧ (((b.val - ((b.val / 2) &&& 85)) &&& 51) + (((b.val - ((b.val / 2) &&& 85)) / 4) &&& 51)) % 16 ≤ 4 ∧ (((b.val - ((b.val / 2) &&& 85)) &&& 51) + (((b.val - ((b.val / 2) &&& 85)) / 4) &&& 51)) / 16 ≤ 4 := by decide +kernel
/-- the three first steps -/
def pc1 (j v : Nat) : Nat := v - ((v / 2) &&& bym 85 j)
def pc2 (j v : Nat) : Nat := (pc1 j v &&& bym 51 j) + ((pc1 j v / 4) &&& bym 51 j)
def pc3 (j v : Nat) : Nat := (pc2 j v + pc2 j v / 16) &&& bym 15 j
theorem pc3_eq (j v : Nat) (h : v < 256 ^ j) : pc3 j v = byv pb v j := by
  have e2 : pc2 j v = byv (fun b => ((b - ((b / 2) &&& 85)) &&& 51) + (((b - ((b / 2) &&& 85)) / 4) &&& 51)) v j := by
    unfold pc2 pc1
    rw [by_1 j v h, by_2, byv_comp (fun b hb => Nat.lt_of_le_of_lt (Nat.sub_le _ _) hb)]
  unfold pc3
  rw [e2, by_3 (fun b hb => (by_pb ⟨b, hb⟩).2)]
  exact byv_congr (fun b hb => (by_pb ⟨b, hb⟩).1) j v
theorem pb_b {b : Nat} : pb b ≤ 8 := by
  unfold pb nbt nbt nbt nbt nbt nbt nbt nbt nbt
  repeat' split
  all_goals omega
theorem nbt_byte (v k : Nat) : nbt (fun i => v.testBit i) (8 + k) = pb (v % 256) + nbt (fun i => (v / 256).testBit i) k := by
  rw [nbt_add]
  congr 1
  · unfold pb
    refine nbt_congr 8 (fun i hi => ?_)
    rw [show (256 : Nat) = 2 ^ 8 from rfl, Nat.testBit_mod_two_pow, decide_eq_true hi, Bool.true_and]
  · refine nbt_congr k (fun i hi => ?_)
    rw [show (256 : Nat) = 2 ^ 8 from rfl, Nat.testBit_div_two_pow, Nat.add_comm]
theorem and63 : ∀ x : Nat, x &&& 63 = x % 64 := fun x => Nat.and_two_pow_sub_one_eq_mod x 6
theorem and127 : ∀ x : Nat, x &&& 127 = x % 128 := fun x => Nat.and_two_pow_sub_one_eq_mod x 7
theorem dv256 (lo hi : Nat) (h : lo < 256) : (lo + 256 * hi) / 256 = hi := by omega
theorem dv64k (lo hi : Nat) (h : lo < 65536) : (lo + 65536 * hi) / 65536 = hi := by omega
theorem dv4g (lo hi : Nat) (h : lo < 4294967296) : (lo + 4294967296 * hi) / 4294967296 = hi := by omega
theorem md64 (lo hi : Nat) (h : lo < 64) : (lo + 64 * hi) % 64 = lo := by omega
theorem md128 (lo hi : Nat) (h : lo < 128) : (lo + 128 * hi) % 128 = lo := by omega
/-- Integer.bitCount and Long.bitCount -/
theorem popcount32 (v : Nat) (h : v < 4294967296) : ((pc3 4 v + pc3 4 v / 256) + (pc3 4 v + pc3 4 v / 256) / 65536) &&& 63 = nbt (fun i => v.testBit i) 32 := by
  rw [and63, pc3_eq 4 v (by omega), show (32 : Nat) = 8 + (8 + (8 + (8 + 0))) from rfl, nbt_byte, nbt_byte, nbt_byte, nbt_byte]
  have h0 := @pb_b (v % 256)
  have h1 := @pb_b (v / 256 % 256)
  have h2 := @pb_b (v / 256 / 256 % 256)
  have h3 := @pb_b (v / 256 / 256 / 256 % 256)
  unfold byv byv byv byv byv nbt
  generalize pb (v % 256) = r0 at *
  generalize pb (v / 256 % 256) = r1 at *
  generalize pb (v / 256 / 256 % 256) = r2 at *
  generalize pb (v / 256 / 256 / 256 % 256) = r3 at *
  rw [dv256 _ _ (by omega)]
  have e1 : r0 + 256 * (r1 + 256 * (r2 + 256 * (r3 + 256 * 0))) + (r1 + 256 * (r2 + 256 * (r3 + 256 * 0))) = ((r0 + r1) + 256 * (r1 + r2)) + 65536 * ((r2 + r3) + 256 * r3) := by omega
  rw [e1, dv64k _ _ (by omega)]
  have e2 : (r0 + r1) + 256 * (r1 + r2) + 65536 * ((r2 + r3) + 256 * r3) + ((r2 + r3) + 256 * r3) = (r0 + r1 + r2 + r3) + 64 * (4 * (r1 + r2 + r3) + 1024 * ((r2 + r3) + 256 * r3)) := by omega
  rw [e2, md64 _ _ (by omega)]
  omega
theorem popcount64 (v : Nat) (h : v < 18446744073709551616) : (((pc3 8 v + pc3 8 v / 256) + (pc3 8 v + pc3 8 v / 256) / 65536) + ((pc3 8 v + pc3 8 v / 256) + (pc3 8 v + pc3 8 v / 256) / 65536) / 4294967296) &&& 127 = nbt (fun i => v.testBit i) 64 := by
  rw [and127, pc3_eq 8 v (by omega), show (64 : Nat) = 8 + (8 + (8 + (8 + (8 + (8 + (8 + (8 + 0))))))) from rfl, nbt_byte, nbt_byte, nbt_byte, nbt_byte, nbt_byte, nbt_byte, nbt_byte, nbt_byte]
  have h0 := @pb_b (v % 256)
  have h1 := @pb_b (v / 256 % 256)
  have h2 := @pb_b (v / 256 / 256 % 256)
  have h3 := @pb_b (v / 256 / 256 / 256 % 256)
  have h4 := @pb_b (v / 256 / 256 / 256 / 256 % 256)
  have h5 := @pb_b (v / 256 / 256 / 256 / 256 / 256 % 256)
  have h6 := @pb_b (v / 256 / 256 / 256 / 256 / 256 / 256 % 256)
  have h7 := @pb_b (v / 256 / 256 / 256 / 256 / 256 / 256 / 256 % 256)
  unfold byv byv byv byv byv byv byv byv byv nbt
  generalize pb (v % 256) = r0 at *
  generalize pb (v / 256 % 256) = r1 at *
  generalize pb (v / 256 / 256 % 256) = r2 at *
  generalize pb (v / 256 / 256 / 256 % 256) = r3 at *
  generalize pb (v / 256 / 256 / 256 / 256 % 256) = r4 at *
  generalize pb (v / 256 / 256 / 256 / 256 / 256 % 256) = r5 at *
  generalize pb (v / 256 / 256 / 256 / 256 / 256 / 256 % 256) = r6 at *
  generalize pb (v / 256 / 256 / 256 / 256 / 256 / 256 / 256 % 256) = r7 at *
  rw [dv256 _ _ (by omega)]
  have e1 : r0 + 256 * (r1 + 256 * (r2 + 256 * (r3 + 256 * (r4 + 256 * (r5 + 256 * (r6 + 256 * (r7 + 256 * 0))))))) + (r1 + 256 * (r2 + 256 * (r3 + 256 * (r4 + 256 * (r5 + 256 * (r6 + 256 * (r7 + 256 * 0))))))) = ((r0 + r1) + 256 * (r1 + r2)) + 65536 * ((r2 + r3) + 256 * (r3 + r4) + 65536 * ((r4 + r5) + 256 * (r5 + r6) + 65536 * ((r6 + r7) + 256 * r7))) := by omega
  rw [e1, dv64k _ _ (by omega)]
  have e2 : ((r0 + r1) + 256 * (r1 + r2)) + 65536 * ((r2 + r3) + 256 * (r3 + r4) + 65536 * ((r4 + r5) + 256 * (r5 + r6) + 65536 * ((r6 + r7) + 256 * r7))) + ((r2 + r3) + 256 * (r3 + r4) + 65536 * ((r4 + r5) + 256 * (r5 + r6) + 65536 * ((r6 + r7) + 256 * r7))) = ((r0 + r1 + r2 + r3) + 256 * (r1 + r2 + r3 + r4) + 65536 * ((r2 + r3 + r4 + r5) + 256 * (r3 + r4 + r5 + r6))) + 4294967296 * ((r4 + r5 + r6 + r7) + 256 * (r5 + r6 + r7) + 65536 * ((r6 + r7) + 256 * r7)) := by omega
  rw [e2, dv4g _ _ (by omega)]
  have e3 : ((r0 + r1 + r2 + r3) + 256 * (r1 + r2 + r3 + r4) + 65536 * ((r2 + r3 + r4 + r5) + 256 * (r3 + r4 + r5 + r6))) + 4294967296 * ((r4 + r5 + r6 + r7) + 256 * (r5 + r6 + r7) + 65536 * ((r6 + r7) + 256 * r7)) + ((r4 + r5 + r6 + r7) + 256 * (r5 + r6 + r7) + 65536 * ((r6 + r7) + 256 * r7)) = (r0 + r1 + r2 + r3 + r4 + r5 + r6 + r7) + 128 * (2 * (r1 + r2 + r3 + r4 + r5 + r6 + r7) + 512 * ((r2 + r3 + r4 + r5 + r6 + r7) + 256 * (r3 + r4 + r5 + r6 + r7)) + 33554432 * ((r4 + r5 + r6 + r7) + 256 * (r5 + r6 + r7) + 65536 * ((r6 + r7) + 256 * r7))) := by omega
  rw [e3, md128 _ _ (by omega)]
  omega
