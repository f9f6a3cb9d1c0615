/-! THE CLASS'S MACHINE: counting by planes. -/
/-- the number whose bits f tells, k of them from p on -/
def tv (f : Int → Bool) : Int → Nat → Int
  | _, 0 => 0
  | p, k + 1 => (if f p then 1 else 0) + 2 * tv f (p + 1) k
theorem tv_b (f : Int → Bool) : ∀ (k : Nat) (p : Int), 0 ≤ tv f p k ∧ tv f p k < 2 ^ k
  | 0, p => by simp [tv]
  | k + 1, p => by
    have := tv_b f k (p + 1)
    rw [tv, Int.pow_succ]
    split <;> omega
theorem tv_congr {f g : Int → Bool} : ∀ (k : Nat) (p : Int), (∀ i, p ≤ i → f i = g i) → tv f p k = tv g p k
  | 0, p, _ => rfl
  | k + 1, p, h => by rw [tv, tv, h p (by omega), tv_congr k (p + 1) (fun i hi => h i (by omega))]
theorem tv_zero {f : Int → Bool} : ∀ (k : Nat) (p : Int), (∀ i, p ≤ i → i < p + k → f i = false) → tv f p k = 0
  | 0, p, _ => rfl
  | k + 1, p, h => by rw [tv, h p (by omega) (by omega), tv_zero k (p + 1) (fun i hi hj => h i (by omega) (by omega))]; rfl
theorem tv_nat (x : Nat) : ∀ (k : Nat) (p : Nat), tv (fun i => x.testBit i.toNat) (p : Int) k = ((x / 2 ^ p % 2 ^ k : Nat) : Int)
  | 0, p => by simp [tv, Nat.mod_one]
  | k + 1, p => by
    have ih := tv_nat x k (p + 1)
    have e : ((p : Int) + 1) = ((p + 1 : Nat) : Int) := by omega
    have e2 : x / 2 ^ p % 2 ^ (k + 1) = x / 2 ^ p % 2 + 2 * (x / 2 ^ (p + 1) % 2 ^ k) := by
      rw [Nat.pow_succ, Nat.mul_comm (2 ^ k) 2, Nat.mod_mul, Nat.pow_succ, Nat.div_div_eq_div_mul]
    rw [tv, e, ih, e2, Int.toNat_natCast, Nat.testBit_eq_decide_div_mod_eq]
    by_cases h : x / 2 ^ p % 2 = 1
    · rw [decide_eq_true h, h]
      simp
    · rw [decide_eq_false h, show x / 2 ^ p % 2 = 0 by omega]
      simp
/-- the planes' bits -/
abbrev pl (s : zS) (β : Nat) : Int → Bool := fun i => gb s 22 i β
theorem c_ripple {v1 v2 v3 v4 v5 : Int} : ∀ (k : Nat) (p : Int) (w : BitVec 64) (σ : zS), p = 10 - k → 0 ≤ p → (∀ β, β < 64 → tv (pl σ β) p k + (if w.getLsbD β then 1 else 0) < 2 ^ k) → ∃ τ, (∀ N, k < N → zlp (fun (q : BitVec 64 × Int × zS) => b_118_71 v1 v2 v3 v4 v5 q.1 q.2.1 q.2.2) N (w, p, σ) = some τ) ∧ oJ 22 σ τ ∧ (∀ i, i < p → gJ τ 22 i = gJ σ 22 i) ∧ ∀ β, β < 64 → tv (pl τ β) p k = tv (pl σ β) p k + (if w.getLsbD β then 1 else 0)
  | 0, p, w, σ, hp, h0, hb => by
    refine ⟨σ, fun N hN => ?_, oJ.rf _ _, fun _ _ => rfl, fun β hβ => ?_⟩
    · obtain ⟨M, rfl⟩ : ∃ M, N = M + 1 := ⟨N - 1, by omega⟩
      apply zlp_r
      unfold b_118_71
      rw [zg_pos ⟨by dsimp only; omega, by dsimp only; omega⟩, if_neg (by dsimp only; omega)]
    · have := hb β hβ
      rw [tv] at this ⊢
      have e : (2 : Int) ^ 0 = 1 := rfl
      by_cases hw : w.getLsbD β = true
      · rw [if_pos hw] at this; omega
      · rw [if_neg hw]; rfl
  | k + 1, p, w, σ, hp, h0, hb => by
    by_cases hz : w = 0#64
    · refine ⟨σ, fun N hN => ?_, oJ.rf _ _, fun _ _ => rfl, fun β hβ => ?_⟩
      · obtain ⟨M, rfl⟩ : ∃ M, N = M + 1 := ⟨N - 1, by omega⟩
        apply zlp_r
        unfold b_118_71
        rw [zg_pos ⟨by dsimp only; omega, by dsimp only; omega⟩, if_pos (by dsimp only; omega), if_pos hz]
      · rw [hz, gb_zero]
        simp
    · have ht : ∀ β, tv (pl (sJ σ 22 p (gJ σ 22 p ^^^ w)) β) (p + 1) k = tv (pl σ β) (p + 1) k := fun β => tv_congr k (p + 1) fun i hi => by
        show gb (sJ σ 22 p (gJ σ 22 p ^^^ w)) 22 i β = _
        rw [gb_set, if_neg (by omega)]
      obtain ⟨τ, r1, r2, r3, r4⟩ := c_ripple (v1 := v1) (v2 := v2) (v3 := v3) (v4 := v4) (v5 := v5) k (p + 1) (gJ σ 22 p &&& w) (sJ σ 22 p (gJ σ 22 p ^^^ w)) (by omega) (by omega) (fun β hβ => by
        have h1 := hb β hβ
        have h2 := tv_b (pl σ β) k (p + 1)
        rw [tv, Int.pow_succ] at h1
        rw [ht β, gb_and]
        cases hA : (gJ σ 22 p).getLsbD β <;> cases hB : w.getLsbD β
        · simp; omega
        · simp; omega
        · simp; omega
        · have hA' : pl σ β p = true := hA
          rw [if_pos hA', if_pos hB] at h1
          simp
          omega)
      refine ⟨τ, fun N hN => ?_, (oJ.rf 22 σ).set.tr r2, fun i hi => ?_, fun β hβ => ?_⟩
      · obtain ⟨M, rfl⟩ : ∃ M, N = M + 1 := ⟨N - 1, by omega⟩
        rw [← r1 M (by omega)]
        apply zlp_l
        unfold b_118_71
        rw [zg_pos ⟨by dsimp only; omega, by dsimp only; omega⟩, if_pos (by dsimp only; omega), if_neg hz, zg_pos ⟨h0, by dsimp only; omega⟩]
      · rw [r3 i (by omega), gJ_ni (by omega)]
      · have e4 := r4 β hβ
        have ep : pl τ β p = (pl σ β p ^^ w.getLsbD β) := by
          show (gJ τ 22 p).getLsbD β = _
          rw [r3 p (by omega), gJ_same, gb_xor]
        rw [ht β, gb_and] at e4
        rw [tv, tv, e4, ep]
        have hA : (gJ σ 22 p).getLsbD β = pl σ β p := rfl
        rw [hA]
        cases pl σ β p <;> cases w.getLsbD β <;> simp <;> omega
theorem CR.pre {C : Nat → Prop} {s e t : zS} {n H a : Int} {V : Nat → Vl} (h : oJ 22 s e) (hr : CR C e t n H a V) : CR C s t n H a V := ⟨hr.1, hr.2.1, hr.2.2.1, fun i hi => (hr.2.2.2.1 i hi).trans (h.j i (by decide)), fun j hj => (hr.2.2.2.2 j hj).trans (h.i _ _)⟩
section COPS
variable {C : Nat → Prop} {s : zS} {n H a b : Int} {X Y : Nat → Vl}
theorem c_fill0 : ∃ t, f_270 (0#64) s = some ((), t) ∧ oJ 22 s t ∧ ∀ i, 0 ≤ i → i < 10 → gJ t 22 i = 0#64 := by
  obtain ⟨t, ht, q1, q2⟩ := zlp_F (B := fun (q : Int × zS) => b_270_6 (0#64) 10 q.1 q.2) (I := fun q => 0 ≤ q.1 ∧ q.1 ≤ 10 ∧ oJ 22 s q.2 ∧ ∀ i, 0 ≤ i → i < q.1 → gJ q.2 22 i = 0#64) (μ := fun q => (10 - q.1).toNat) (Q := fun t => oJ 22 s t ∧ ∀ i, 0 ≤ i → i < 10 → gJ t 22 i = 0#64) (by
    rintro ⟨i, σ⟩ ⟨a1, a2, a3, a4⟩
    dsimp only at a1 a2 a3 a4 ⊢
    unfold b_270_6
    rw [zg_pos ⟨by omega, by omega⟩, zg_pos ⟨by omega, by omega⟩]
    by_cases hc : i < 10
    · left
      rw [if_pos hc, zg_pos ⟨by omega, by omega⟩]
      refine ⟨_, rfl, ⟨by dsimp only; omega, by dsimp only; omega, a3.set, fun j j0 j1 => ?_⟩, by dsimp only; omega⟩
      dsimp only at j1 ⊢
      rw [gJ_if]
      by_cases hj : j = i
      · rw [if_pos hj]
      · rw [if_neg hj]; exact a4 j j0 (by omega)
    · right
      rw [if_neg hc]
      exact ⟨_, rfl, a3, fun j j0 j1 => a4 j j0 (by omega)⟩) (s := (0, s)) ⟨by dsimp only; omega, by dsimp only; omega, oJ.rf _ _, fun j j0 j1 => by dsimp only at j1; omega⟩ (by dsimp only; omega)
  refine ⟨t, ?_, q1, q2⟩
  unfold f_270
  rw [zo_of ht]
theorem c_size {sg k : Int} (h : CO1 C s n H a X) (a0 : 0 ≤ a) (a3 : a ≤ 3) (hsg : zR sg) (k0 : 0 ≤ k) (k1 : k < 1024) : ∃ t, f_118 sg k s = some ((), t) ∧ CR C s t n H 0 (fun β _ => vSize (sg + 10) (zcnt (n ^ a.toNat).toNat (X β)) k) := by
  obtain ⟨hC, h17, H0, H1, ha, hX⟩ := h
  have hN := npw_b hC.2.1 hC.2.2.1 a0 a3
  have sa := hC.size a0 a3
  generalize n ^ a.toNat = N at *
  obtain ⟨s7, e7, o7, z7⟩ := c_fill0 (s := s)
  obtain ⟨e8, h8, o8, c8⟩ := zlp_F (B := fun (q : Int × zS) => b_118_50 sg k (H * 125) N q.1 q.2) (I := fun q => 0 ≤ q.1 ∧ q.1 ≤ N ∧ oJ 22 s q.2 ∧ ∀ β, β < 64 → tv (pl q.2 β) 0 10 = zcnt q.1.toNat (fun t => gb s 18 (H * 125 + t) β)) (μ := fun q => (N - q.1).toNat) (Q := fun t => oJ 22 s t ∧ ∀ β, β < 64 → tv (pl t β) 0 10 = zcnt N.toNat (fun t => gb s 18 (H * 125 + t) β)) (by
    rintro ⟨i, σ⟩ ⟨a1, a2, a3, a4⟩
    dsimp only at a1 a2 a3 a4 ⊢
    unfold b_118_50
    rw [zg_pos ⟨by omega, by omega⟩, zg_pos ⟨by omega, by omega⟩]
    by_cases hc : i < N
    · left
      obtain ⟨τ, r1, r2, r3, r4⟩ := c_ripple (v1 := sg) (v2 := k) (v3 := H * 125) (v4 := N) (v5 := i) 10 0 (gJ σ 18 (H * 125 + i)) σ (by omega) (by omega) (fun β hb => by
        have := zcnt_b (fun t => gb s 18 (H * 125 + t) β) i.toNat
        have e : (2 : Int) ^ 10 = 1024 := rfl
        rw [a4 β hb, e]
        split <;> omega)
      rw [if_pos hc, zg_pos ⟨by omega, by omega⟩, zo_of (r1 zF (by have := zF_big; omega))]
      refine ⟨_, rfl, ⟨by dsimp only; omega, by dsimp only; omega, a3.tr r2, fun β hb => ?_⟩, by dsimp only; omega⟩
      dsimp only
      rw [r4 β hb, a4 β hb, zcnt_step _ a1, a3.j _ (by decide)]
    · right
      rw [if_neg hc]
      refine ⟨_, rfl, a3, ?_⟩
      rw [show N = i by omega]
      exact a4) (s := (0, s7)) ⟨by dsimp only; omega, by dsimp only; omega, o7, fun β hb => by
      dsimp only
      rw [tv_zero 10 0 (fun i i0 i1 => by show (gJ s7 22 i).getLsbD β = _; rw [z7 i i0 (by omega), gb_zero])]
      rfl⟩ (by dsimp only; omega)
  have hkn : tv (fun i => k.toNat.testBit i.toNat) 0 10 = k := by
    have := tv_nat k.toNat 10 0
    rw [Nat.pow_zero, Nat.div_one, Nat.mod_eq_of_lt (show k.toNat < 2 ^ 10 by omega)] at this
    have e : ((0 : Nat) : Int) = 0 := rfl
    rw [e] at this
    rw [this]
    omega
  obtain ⟨w, hw, hwb⟩ := zlp_F (B := fun (q : BitVec 64 × BitVec 64 × Int) => b_118_137 sg k (H * 125) e8 q.1 q.2.1 q.2.2) (I := fun q => -1 ≤ q.2.2 ∧ q.2.2 ≤ 9 ∧ ∀ β, β < 64 → q.1.getLsbD β = decide (tv (pl e8 β) (q.2.2 + 1) (9 - q.2.2).toNat < tv (fun i => k.toNat.testBit i.toNat) (q.2.2 + 1) (9 - q.2.2).toNat) ∧ q.2.1.getLsbD β = decide (tv (pl e8 β) (q.2.2 + 1) (9 - q.2.2).toNat = tv (fun i => k.toNat.testBit i.toNat) (q.2.2 + 1) (9 - q.2.2).toNat)) (μ := fun q => (1 + q.2.2).toNat) (Q := fun w => ∀ β, β < 64 → w.1.getLsbD β = decide (tv (pl e8 β) 0 10 < k) ∧ w.2.getLsbD β = decide (tv (pl e8 β) 0 10 = k)) (by
    rintro ⟨l, e, p⟩ ⟨c1, c2, c3⟩
    dsimp only at c1 c2 c3 ⊢
    unfold b_118_137
    rw [zg_pos ⟨by omega, by omega⟩]
    by_cases hd : p < 0
    · right
      rw [if_pos hd]
      refine ⟨_, rfl, fun β hb => ?_⟩
      have e : p = -1 := by omega
      have := c3 β hb
      rw [e, show ((-1 : Int) + 1) = 0 by omega, show (9 - (-1 : Int)).toNat = 10 by omega, hkn] at this
      exact this
    · left
      rw [if_neg hd, zg_pos ⟨k0, by omega, by omega⟩, ztest k0 ⟨by omega, by omega⟩ (by omega) (by omega)]
      have eS : (9 - (p + -1)).toNat = (9 - p).toNat + 1 := by omega
      have eP : p + -1 + 1 = p := by omega
      by_cases hb1 : k.toNat.testBit p.toNat = true
      · rw [if_pos hb1, if_neg (by decide), zg_pos ⟨by omega, by omega⟩]
        refine ⟨_, rfl, ⟨by dsimp only; omega, by dsimp only; omega, fun β hb => ?_⟩, by dsimp only; omega⟩
        obtain ⟨g1, g2⟩ := c3 β hb
        dsimp only
        rw [eS, eP, tv, tv, if_pos hb1, gb_or, gb_and, gb_and, gb_not hb, g1, g2]
        by_cases hA : pl e8 β p = true
        · have hA' : (gJ e8 22 p).getLsbD β = true := hA
          rw [if_pos hA, hA', Bool.not_true, Bool.and_false, Bool.or_false, Bool.and_true]
          exact ⟨decide_eq_decide.mpr (by omega), decide_eq_decide.mpr (by omega)⟩
        · have hA' : (gJ e8 22 p).getLsbD β = false := Bool.not_eq_true _ |>.mp hA
          rw [if_neg hA, hA', Bool.not_false, Bool.and_true, Bool.and_false, ← Bool.decide_or]
          exact ⟨decide_eq_decide.mpr (by omega), (decide_eq_false (by omega)).symm⟩
      · rw [if_neg hb1, if_pos rfl, zg_pos ⟨by omega, by omega⟩]
        refine ⟨_, rfl, ⟨by dsimp only; omega, by dsimp only; omega, fun β hb => ?_⟩, by dsimp only; omega⟩
        obtain ⟨g1, g2⟩ := c3 β hb
        dsimp only
        rw [eS, eP, tv, tv, if_neg hb1, gb_and, gb_not hb, g1, g2]
        by_cases hA : pl e8 β p = true
        · have hA' : (gJ e8 22 p).getLsbD β = true := hA
          rw [if_pos hA, hA', Bool.not_true, Bool.and_false]
          exact ⟨decide_eq_decide.mpr (by omega), (decide_eq_false (by omega)).symm⟩
        · have hA' : (gJ e8 22 p).getLsbD β = false := Bool.not_eq_true _ |>.mp hA
          rw [if_neg hA, hA', Bool.not_false, Bool.and_true]
          exact ⟨decide_eq_decide.mpr (by omega), decide_eq_decide.mpr (by omega)⟩) (s := (0#64, 18446744073709551615#64, 9)) ⟨by dsimp only; omega, by dsimp only; omega, fun β hb => by
      dsimp only
      rw [show (9 - (9 : Int)).toNat = 0 by omega, tv, tv, gb_zero, gb_ones hb]
      exact ⟨rfl, rfl⟩⟩ (by dsimp only; omega)
  have e17 : gI e8 17 3 = H + 1 := by rw [o8.i]; exact h17
  have hcnt : ∀ β, β < 64 → C β → tv (pl e8 β) 0 10 = zcnt N.toNat (X β) := fun β hb cb => by
    rw [c8 β hb]
    exact zcnt_congr (fun i i0 i1 => hX β hb cb i i0 (by omega))
  have fin : ∀ v : BitVec 64, (∀ β, β < 64 → C β → v.getLsbD β = vSize (sg + 10) (zcnt N.toNat (X β)) k) → CR C s (sI (sJ e8 18 (H * 125) v) 19 H 0) n H 0 (fun β _ => vSize (sg + 10) (zcnt N.toNat (X β)) k) := fun v hv => CR.pre o8 (CR.truth e17 H0 H1 rfl hv)
  unfold f_118
  rw [if_neg (by omega), h17, show H + 1 - 1 = H by omega, zg_pos ⟨by omega, by omega⟩, ha, zo_of sa, zb_of e7, zo_of h8, zo_of hw, zg_pos hsg, zg_pos ⟨by omega, by omega⟩, e17, show H + 1 - 1 = H by omega, zg_pos ⟨by omega, by omega⟩]
  by_cases s32 : sg = 32
  · rw [if_pos s32]
    refine ⟨_, rfl, fin _ fun β hb cb => ?_⟩
    rw [(hwb β hb).2, hcnt β hb cb]
    unfold vSize
    rw [if_pos (by omega)]
  · rw [if_neg s32]
    by_cases s33 : sg = 33
    · rw [if_pos s33, zg_pos ⟨by omega, by omega⟩, zg_pos ⟨by omega, by omega⟩]
      refine ⟨_, rfl, fin _ fun β hb cb => ?_⟩
      rw [(hwb β hb).1, hcnt β hb cb]
      unfold vSize
      rw [if_neg (by omega), if_pos (by omega)]
    · rw [if_neg s33, zg_pos ⟨by omega, by omega⟩, zg_pos ⟨by omega, by omega⟩]
      refine ⟨_, rfl, fin _ fun β hb cb => ?_⟩
      rw [gb_not hb, gb_or, (hwb β hb).1, (hwb β hb).2, hcnt β hb cb, ← Bool.decide_or, ← decide_not]
      unfold vSize
      rw [if_neg (by omega), if_neg (by omega)]
      exact decide_eq_decide.mpr (by omega)
end COPS
