/-! VALUES: truths, comparisons, quantities of the reference. -/
theorem bv_ext2 {a b : BitVec 64} (h : ∀ t : Int, 0 ≤ t → t < 64 → a.getLsbD t.toNat = b.getLsbD t.toNat) : a = b := by
  apply BitVec.eq_of_getLsbD_eq
  intro i hi
  have := h (i : Int) (by omega) (by omega)
  rw [show ((i : Int)).toNat = i by omega] at this
  exact this
theorem RV_lo {N : Int} {lo hi : BitVec 64} {V : Vl} (h : RV N lo hi V) {t : Int} (t0 : 0 ≤ t) (t1 : t < 64) : lo.getLsbD t.toNat = (decide (t < N) && V t) := by rw [← tb_lo (hi := hi) t1]; exact h t t0 (by omega)
theorem RV_hi {N : Int} {lo hi : BitVec 64} {V : Vl} (h : RV N lo hi V) {t : Int} (t0 : 0 ≤ t) (t1 : t < 64) : hi.getLsbD t.toNat = (decide (t + 64 < N) && V (t + 64)) := by
  have := h (t + 64) (by omega) (by omega)
  rw [tb_hi (by omega), show t + 64 - 64 = t by omega] at this
  exact this
def zw (b : Bool) : BitVec 64 := cond b (1#64) (0#64)
theorem zw_bit (b : Bool) {t : Int} (t0 : 0 ≤ t) : (zw b).getLsbD t.toNat = (decide (t < 1) && b) := by
  cases b with
  | false => simp [zw]
  | true =>
    show (1#64).getLsbD t.toNat = _
    rw [BitVec.getLsbD_one, Bool.and_true]
    by_cases h : t < 1
    · rw [decide_eq_true h, show t.toNat = 0 by omega]; rfl
    · rw [decide_eq_false h, decide_eq_false (show ¬ t.toNat = 0 by omega), Bool.and_false]
theorem RV1_of (b : Bool) (V : Vl) (hV : V 0 = b) : RV 1 (zw b) (0#64) V := by
  intro t t0 t1
  by_cases h1 : t < 64
  · rw [tb_lo h1, zw_bit b t0]
    by_cases h : t < 1
    · rw [show t = 0 by omega, hV]
    · rw [decide_eq_false h, Bool.false_and, Bool.false_and]
  · rw [tb_hi h1, decide_eq_false (by omega)]
    simp
theorem RV1_lo {lo hi : BitVec 64} {V : Vl} (h : RV 1 lo hi V) : lo = zw (V 0) := by
  apply bv_ext2
  intro t t0 t1
  rw [RV_lo h t0 t1, zw_bit _ t0]
  by_cases h1 : t < 1
  · rw [show t = 0 by omega]
  · rw [decide_eq_false h1, Bool.false_and, Bool.false_and]
theorem zw_one (b : Bool) : (zw b = 1#64) ↔ b = true := by cases b <;> simp [zw]
theorem zw_zero (b : Bool) : (zw b = 0#64) ↔ b = false := by cases b <;> simp [zw]
def vIn (N : Int) (X Y : Vl) : Bool := !zany N.toNat (fun t => X t && !Y t)
def vEq (N : Int) (X Y : Vl) : Bool := !zany N.toNat (fun t => X t != Y t)
theorem vIn_iff {N : Int} {X Y : Vl} : vIn N X Y = true ↔ ∀ t, 0 ≤ t → t < N → X t = true → Y t = true := by
  unfold vIn
  rw [Bool.not_eq_true', ← Bool.not_eq_true, zany_iff]
  constructor
  · intro h t t0 t1 hx
    cases hy : Y t with
    | true => rfl
    | false => exact absurd ⟨t, t0, by omega, by rw [hx, hy]; rfl⟩ h
  · rintro h ⟨t, t0, t1, ht⟩
    rw [Bool.and_eq_true] at ht
    have := h t t0 (by omega) ht.1
    rw [this] at ht
    simp at ht
theorem vEq_iff {N : Int} {X Y : Vl} : vEq N X Y = true ↔ ∀ t, 0 ≤ t → t < N → X t = Y t := by
  unfold vEq
  rw [Bool.not_eq_true', ← Bool.not_eq_true, zany_iff]
  constructor
  · intro h t t0 t1
    cases hx : X t <;> cases hy : Y t <;> first | rfl | exact absurd ⟨t, t0, by omega, by rw [hx, hy]; rfl⟩ h
  · rintro h ⟨t, t0, t1, ht⟩
    rw [h t t0 (by omega)] at ht
    simp at ht
theorem bv_andn {a b : BitVec 64} {i : Nat} (hi : i < 64) : (a &&& (b ^^^ (18446744073709551615#64))).getLsbD i = (a.getLsbD i && !b.getLsbD i) := by
  have e : (18446744073709551615#64) = BitVec.allOnes 64 := by decide
  rw [BitVec.getLsbD_and, e, BitVec.xor_allOnes, BitVec.getLsbD_not]
  simp [hi]
theorem m_in_words {N : Int} {l1 h1 l2 h2 : BitVec 64} {X Y : Vl} (hX : RV N l1 h1 X) (hY : RV N l2 h2 Y) (hN : N ≤ 128) : ((l1 &&& (l2 ^^^ (18446744073709551615#64))) = 0#64 ∧ (h1 &&& (h2 ^^^ (18446744073709551615#64))) = 0#64) ↔ vIn N X Y = true := by
  rw [vIn_iff]
  constructor
  · rintro ⟨u1, u2⟩ t t0 t1 hx
    by_cases h64 : t < 64
    · have := congrArg (fun w : BitVec 64 => w.getLsbD t.toNat) u1
      rw [bv_andn (by omega), RV_lo hX t0 h64, RV_lo hY t0 h64, decide_eq_true t1, hx] at this
      simpa using this
    · have := congrArg (fun w : BitVec 64 => w.getLsbD (t - 64).toNat) u2
      rw [bv_andn (by omega), RV_hi hX (by omega) (by omega), RV_hi hY (by omega) (by omega), show t - 64 + 64 = t by omega, decide_eq_true t1, hx] at this
      simpa using this
  · intro h
    refine ⟨bv_ext2 (fun t t0 t1 => ?_), bv_ext2 (fun t t0 t1 => ?_)⟩
    · rw [bv_andn (by omega), RV_lo hX t0 t1, RV_lo hY t0 t1]
      by_cases hc : t < N
      · cases hx : X t with
        | false => simp
        | true => rw [h t t0 hc hx]; simp
      · rw [decide_eq_false hc]; simp
    · rw [bv_andn (by omega), RV_hi hX t0 t1, RV_hi hY t0 t1]
      by_cases hc : t + 64 < N
      · cases hx : X (t + 64) with
        | false => simp
        | true => rw [h (t + 64) (by omega) hc hx]; simp
      · rw [decide_eq_false hc]; simp
theorem m_eq_words {N : Int} {l1 h1 l2 h2 : BitVec 64} {X Y : Vl} (hX : RV N l1 h1 X) (hY : RV N l2 h2 Y) (hN : N ≤ 128) : (l1 = l2 ∧ h1 = h2) ↔ vEq N X Y = true := by
  rw [vEq_iff]
  constructor
  · rintro ⟨u1, u2⟩ t t0 t1
    have a := hX t t0 (by omega)
    have b := hY t t0 (by omega)
    rw [u1, u2, b, decide_eq_true t1, Bool.true_and, Bool.true_and] at a
    exact a.symm
  · intro h
    refine ⟨bv_ext2 (fun t t0 t1 => ?_), bv_ext2 (fun t t0 t1 => ?_)⟩
    · rw [RV_lo hX t0 t1, RV_lo hY t0 t1]
      by_cases hc : t < N
      · rw [h t t0 hc]
      · rw [decide_eq_false hc, Bool.false_and, Bool.false_and]
    · rw [RV_hi hX t0 t1, RV_hi hY t0 t1]
      by_cases hc : t + 64 < N
      · rw [h (t + 64) (by omega) hc]
      · rw [decide_eq_false hc, Bool.false_and, Bool.false_and]
/-- the count of a set's words is the count of the value -/
theorem m_count {N : Int} {lo hi : BitVec 64} {V : Vl} (h : RV N lo hi V) (hN0 : 0 ≤ N) (hN : N ≤ 125) : zcnt 125 (tb lo hi) = zcnt N.toNat V := by
  have e : 125 = N.toNat + (125 - N.toNat) := by omega
  have h1 : zcnt 125 (tb lo hi) = zcnt 125 (fun t => decide (t < N) && V t) := zcnt_congr (fun i i0 i1 => h i i0 (by omega))
  rw [h1]
  conv => lhs; rw [e]
  rw [zcnt_ext (fun i hi => by rw [decide_eq_false (by omega), Bool.false_and])]
  exact zcnt_congr (fun i i0 i1 => by rw [decide_eq_true (by omega), Bool.true_and])
/-- quantities: 0 all of, 1 some, 2 no, 3 lone, else one -/
def vQty (word got of_ : Int) : Bool := if word = 0 then decide (got = of_) else if word = 1 then decide (0 < got) else if word = 2 then decide (got = 0) else if word = 3 then decide (got ≤ 1) else decide (got = 1)
theorem m_isQuantity {word got of_ : Int} (hw0 : 0 ≤ word) (hw : word ≤ 4) (hg : zR got) (ho : zR of_) : f_205 word got of_ = some (if vQty word got of_ then 1 else 0) := by
  unfold f_205 vQty
  rw [zg_pos ⟨by omega, by omega⟩]
  have hc : word = 0 ∨ word = 1 ∨ word = 2 ∨ word = 3 ∨ word = 4 := by omega
  rcases hc with rfl | rfl | rfl | rfl | rfl
  · show zg (zR got) (zg (zR of_) (if got = of_ then some 1 else some 0)) = some (if decide (got = of_) = true then 1 else 0)
    rw [zg_pos hg, zg_pos ho]
    by_cases h : got = of_
    · rw [if_pos h, decide_eq_true h]; rfl
    · rw [if_neg h, decide_eq_false h]; rfl
  · show zg (zR got) (if 0 < got then some 1 else some 0) = some (if decide (0 < got) = true then 1 else 0)
    rw [zg_pos hg]
    by_cases h : 0 < got
    · rw [if_pos h, decide_eq_true h]; rfl
    · rw [if_neg h, decide_eq_false h]; rfl
  · show zg (zR got) (if got = 0 then some 1 else some 0) = some (if decide (got = 0) = true then 1 else 0)
    rw [zg_pos hg]
    by_cases h : got = 0
    · rw [if_pos h, decide_eq_true h]; rfl
    · rw [if_neg h, decide_eq_false h]; rfl
  · show zg (zR got) (if 1 < got then some 0 else some 1) = some (if decide (got ≤ 1) = true then 1 else 0)
    rw [zg_pos hg]
    by_cases h : 1 < got
    · rw [if_pos h, decide_eq_false (show ¬ got ≤ 1 by omega)]; rfl
    · rw [if_neg h, decide_eq_true (show got ≤ 1 by omega)]; rfl
  · show zg (zR got) (if got = 1 then some 1 else some 0) = some (if decide (got = 1) = true then 1 else 0)
    rw [zg_pos hg]
    by_cases h : got = 1
    · rw [if_pos h, decide_eq_true h]; rfl
    · rw [if_neg h, decide_eq_false h]; rfl
/-- sets of atoms as ints -/
abbrev ib (x a : Int) : Bool := x.toNat.testBit a.toNat
theorem m_many {x : Int} {s : zS} (h0 : 0 ≤ x) (hx : zR x) : f_204 x s = some (zcnt 5 (ib x)) := by
  have hloop := zlp_F (B := fun (q : Int × Int) => b_204_4 x s q.1 q.2) (I := fun q => 0 ≤ q.2 ∧ q.2 ≤ 5 ∧ q.1 = zcnt q.2.toNat (ib x)) (μ := fun q => (5 - q.2).toNat) (Q := fun t => t = zcnt 5 (ib x)) (by
    rintro ⟨v, i⟩ ⟨a1, a2, a3⟩
    dsimp only at a1 a2 a3 ⊢
    unfold b_204_4
    rw [zg_pos ⟨by omega, by omega⟩]
    by_cases hc : i < 5
    · left
      have e : (i + 1).toNat = i.toNat + 1 := by omega
      have e2 : ((i.toNat : Nat) : Int) = i := by omega
      rw [if_pos hc, zg_pos ⟨h0, hx⟩, ztest h0 hx a1 (by omega)]
      refine ⟨_, rfl, ⟨by dsimp only; omega, by dsimp only; omega, ?_⟩, by dsimp only; omega⟩
      dsimp only
      rw [e, zcnt, e2, a3]
    · right
      rw [if_neg hc]
      have e : i = 5 := by omega
      rw [e] at a3
      exact ⟨_, rfl, a3⟩) (s := (0, 0)) ⟨by decide, by decide, rfl⟩ (by decide)
  obtain ⟨t, ht, hq⟩ := hloop
  unfold f_204
  rw [zo_of ht, hq]
/-- the next atom of a set, or n -/
theorem m_nextAtom {x v n : Int} {s : zS} (hn : gI s 177 1 = n) (n5 : n ≤ 5) (h0 : 0 ≤ x) (hx : zR x) (v0 : 0 ≤ v) (v1 : v ≤ n) : ∃ r, f_201 x v s = some r ∧ v ≤ r ∧ r ≤ n ∧ (∀ i, v ≤ i → i < r → ib x i = false) ∧ (r < n → ib x r = true) := by
  have hloop := zlp_F (B := fun (q : Int) => b_201_2 x s q) (I := fun q => v ≤ q ∧ q ≤ n ∧ ∀ i, v ≤ i → i < q → ib x i = false) (μ := fun q => (n - q).toNat) (Q := fun r => v ≤ r ∧ r ≤ n ∧ (∀ i, v ≤ i → i < r → ib x i = false) ∧ (r < n → ib x r = true)) (by
    rintro i ⟨a1, a2, a3⟩
    unfold b_201_2
    rw [zg_pos ⟨by omega, by omega⟩, hn]
    by_cases hc : i < n
    · rw [if_pos hc, zg_pos ⟨h0, hx⟩, ztest h0 hx (by omega) (by omega)]
      by_cases hb : ib x i = true
      · right
        rw [if_pos hb, if_neg (by decide)]
        exact ⟨_, rfl, a1, a2, a3, fun _ => hb⟩
      · left
        rw [if_neg hb, if_pos rfl]
        refine ⟨_, rfl, ⟨by omega, by omega, fun j j0 j1 => ?_⟩, by omega⟩
        by_cases e : j = i
        · rw [e]; exact Bool.not_eq_true _ |>.mp hb
        · exact a3 j j0 (by omega)
    · right
      rw [if_neg hc]
      exact ⟨_, rfl, a1, a2, a3, fun h => absurd h hc⟩) (s := v) ⟨by omega, v1, fun i h1 h2 => by omega⟩ (by omega)
  obtain ⟨r, hr, hq⟩ := hloop
  exact ⟨r, by unfold f_201; rw [zo_of hr], hq⟩
