/-! THE CLASS'S MACHINE: operators before one operand. -/
/-- one operand, place H -/
def CO1 (C : Nat → Prop) (s : zS) (n H a : Int) (X : Nat → Vl) : Prop := CN s n ∧ gI s 17 3 = H + 1 ∧ 0 ≤ H ∧ H < 22 ∧ gI s 19 H = a ∧ CVl C s H (n ^ a.toNat) X
section COPS
variable {C : Nat → Prop} {s : zS} {n H a b : Int} {X Y : Nat → Vl}
theorem CR.of1 {t : zS} {r : Int} {V : Nat → Vl} (h17 : gI s 17 3 = H + 1) (h : oH H s t) (h19 : gI s 19 H = r) (hv : CVl C t H (n ^ r.toNat) V) : CR C s t n H r V :=
  ⟨by rw [h.i]; exact h17, by rw [h.i]; exact h19, hv, fun i hi => h.2 i (Or.inl hi), fun j hj => h.i _ _⟩
/-- a truth is put into place H -/
theorem CR.truth {t : zS} {w : BitVec 64} {V : Nat → Vl} (h17 : gI s 17 3 = H + 1) (H0 : 0 ≤ H) (H1 : H < 22) (ht : t = sI (sJ s 18 (H * 125) w) 19 H 0) (hv : ∀ β, β < 64 → C β → w.getLsbD β = V β 0) : CR C s t n H 0 V := by
  rw [ht]
  refine ⟨by rw [gI_nc (by decide), gI_sJ]; exact h17, gI_same ⟨by decide, by decide⟩, fun β hb cb u u0 u1 => ?_, fun i hi => ?_, fun j hj => ?_⟩
  · have e : u = 0 := by
      have : n ^ (0 : Int).toNat = 1 := Int.pow_zero n
      omega
    rw [e, Int.add_zero]
    show (gJ (sJ s 18 (H * 125) w) 18 (H * 125)).getLsbD β = _
    rw [gJ_same]
    exact hv β hb cb
  · show gJ (sJ s 18 (H * 125) w) 18 i = _
    rw [gJ_ni (by omega)]
  · rw [gI_ni (by omega), gI_sJ]
theorem c_turn {s1 : zS} (hC : CN s1 n) (H0 : 0 ≤ H) (H1 : H < 22) (hX : CVl C s1 H (n * n) X) : ∃ t, f_121 (H * 125) s1 = some ((), t) ∧ oH H s1 t ∧ CVl C t H (n * n) (fun β => vTilde n (X β)) := by
  obtain ⟨hn, n1, n5, -⟩ := hC
  have nn := nn25 n1 n5
  obtain ⟨t, ht, q1, q2⟩ := zlp_F (B := fun (q : Int × zS) => b_121_10 (H * 125) n q.1 q.2) (I := fun q => 0 ≤ q.1 ∧ q.1 ≤ n ∧ oH H s1 q.2 ∧ ∀ β, β < 64 → C β → ∀ r c, 0 ≤ r → r < n → 0 ≤ c → c < n → gb q.2 18 (H * 125 + (r * n + c)) β = if r < q.1 ∧ c < q.1 then X β (c * n + r) else X β (r * n + c)) (μ := fun q => (n - q.1).toNat) (Q := fun t => oH H s1 t ∧ ∀ β, β < 64 → C β → ∀ r c, 0 ≤ r → r < n → 0 ≤ c → c < n → gb t 18 (H * 125 + (r * n + c)) β = X β (c * n + r)) (by
    rintro ⟨i, σ⟩ ⟨a1, a2, a3, a4⟩
    dsimp only at a1 a2 a3 a4 ⊢
    unfold b_121_10
    rw [zg_pos ⟨by omega, by omega⟩, zg_pos ⟨by omega, by omega⟩]
    by_cases hc : i < n
    · left
      obtain ⟨t, ht, q1, q2⟩ := zlp_F (B := fun (q : Int × zS) => b_121_18 (H * 125) n i q.1 q.2) (I := fun q => 0 ≤ q.1 ∧ q.1 ≤ i ∧ oH H s1 q.2 ∧ ∀ β, β < 64 → C β → ∀ r c, 0 ≤ r → r < n → 0 ≤ c → c < n → gb q.2 18 (H * 125 + (r * n + c)) β = if (r < i ∧ c < i) ∨ (r = i ∧ c < q.1) ∨ (c = i ∧ r < q.1) then X β (c * n + r) else X β (r * n + c)) (μ := fun q => (i - q.1).toNat) (Q := fun t => oH H s1 t ∧ ∀ β, β < 64 → C β → ∀ r c, 0 ≤ r → r < n → 0 ≤ c → c < n → gb t 18 (H * 125 + (r * n + c)) β = if r < i + 1 ∧ c < i + 1 then X β (c * n + r) else X β (r * n + c)) (by
        rintro ⟨j, ω⟩ ⟨c1, c2, c3, c4⟩
        dsimp only at c1 c2 c3 c4 ⊢
        unfold b_121_18
        rw [zg_pos ⟨by omega, by omega⟩, zg_pos ⟨by omega, by omega⟩]
        by_cases hd : j < i
        · left
          have hp := pair_lt a1 hc c1 (show j < n by omega)
          have hq := pair_lt c1 (show j < n by omega) a1 hc
          rw [if_pos hd, zg_pos ⟨by omega, by omega⟩, zg_pos ⟨by omega, by omega⟩]
          refine ⟨_, rfl, ⟨by dsimp only; omega, by dsimp only; omega, (c3.set (by omega) (by omega)).set (by omega) (by omega), fun β hb cb r c r0 r1 k0 k1 => ?_⟩, by dsimp only; omega⟩
          dsimp only
          rw [gb_set, gb_set]
          by_cases hu : r * n + c = j * n + i
          · obtain ⟨e1, e2⟩ := pair_inj hu k0 k1 a1 hc
            have x1 := c4 β hb cb i j a1 hc c1 (by omega)
            rw [if_neg (by omega)] at x1
            rw [if_pos (by omega), if_pos (by omega), Int.add_assoc, e1, e2]
            exact x1
          · rw [if_neg (by omega)]
            by_cases hu2 : r * n + c = i * n + j
            · obtain ⟨e1, e2⟩ := pair_inj hu2 k0 k1 c1 (by omega)
              have x1 := c4 β hb cb j i c1 (by omega) a1 hc
              rw [if_neg (by omega)] at x1
              rw [if_pos (by omega), if_pos (by omega), Int.add_assoc, e1, e2]
              exact x1
            · rw [if_neg (by omega), c4 β hb cb r c r0 r1 k0 k1]
              have n1' : ¬ (r = i ∧ c = j) := fun h => hu2 (by rw [h.1, h.2])
              have n2' : ¬ (r = j ∧ c = i) := fun h => hu (by rw [h.1, h.2])
              by_cases hP : (r < i ∧ c < i) ∨ (r = i ∧ c < j) ∨ (c = i ∧ r < j)
              · rw [if_pos hP, if_pos (by omega)]
              · rw [if_neg hP, if_neg (by omega)]
        · right
          rw [if_neg hd]
          refine ⟨_, rfl, c3, fun β hb cb r c r0 r1 k0 k1 => ?_⟩
          rw [c4 β hb cb r c r0 r1 k0 k1]
          by_cases hrc : r = i ∧ c = i
          · rw [hrc.1, hrc.2]
            simp
          · by_cases hP : (r < i ∧ c < i) ∨ (r = i ∧ c < j) ∨ (c = i ∧ r < j)
            · rw [if_pos hP, if_pos (by omega)]
            · rw [if_neg hP, if_neg (by omega)]) (s := (0, σ)) ⟨by dsimp only; omega, by dsimp only; omega, a3, fun β hb cb r c r0 r1 k0 k1 => by
          dsimp only
          rw [a4 β hb cb r c r0 r1 k0 k1]
          by_cases hP : r < i ∧ c < i
          · rw [if_pos hP, if_pos (by omega)]
          · rw [if_neg hP, if_neg (by omega)]⟩ (by dsimp only; omega)
      rw [if_pos hc, zo_of ht]
      exact ⟨_, rfl, ⟨by dsimp only; omega, by dsimp only; omega, q1, q2⟩, by dsimp only; omega⟩
    · right
      rw [if_neg hc]
      refine ⟨_, rfl, a3, fun β hb cb r c r0 r1 k0 k1 => ?_⟩
      rw [a4 β hb cb r c r0 r1 k0 k1, if_pos (by omega)]) (s := (0, s1)) ⟨by dsimp only; omega, by dsimp only; omega, oH.rf _ _, fun β hb cb r c r0 r1 k0 k1 => by
      dsimp only
      have hp := pair_lt r0 r1 k0 k1
      rw [if_neg (by omega)]
      exact hX β hb cb _ hp.1 hp.2⟩ (by dsimp only; omega)
  refine ⟨t, ?_, q1, fun β hb cb u u0 u1 => ?_⟩
  · unfold f_121
    rw [hn, zo_of ht]
  · obtain ⟨g1, g2, g3, g4, g5⟩ := pair_of n1 u0 u1
    have := q2 β hb cb _ _ g1 g2 g3 g4
    rw [g5] at this
    exact this
theorem c_reach {s1 : zS} (hC : CN s1 n) (H0 : 0 ≤ H) (H1 : H < 22) (hX : CVl C s1 H (n * n) X) : ∃ t, f_122 (H * 125) s1 = some ((), t) ∧ oH H s1 t ∧ CVl C t H (n * n) (fun β => vHat n (X β)) := by
  obtain ⟨hn, n1, n5, -⟩ := hC
  have nn := nn25 n1 n5
  obtain ⟨t, ht, q1, q2⟩ := zlp_F (B := fun (q : Int × zS) => b_122_10 (H * 125) n q.1 q.2) (I := fun q => 0 ≤ q.1 ∧ q.1 ≤ n ∧ oH H s1 q.2 ∧ CVl C q.2 H (n * n) (fun β => vHats n q.1.toNat (X β))) (μ := fun q => (n - q.1).toNat) (Q := fun t => oH H s1 t ∧ CVl C t H (n * n) (fun β => vHats n n.toNat (X β))) (by
    rintro ⟨k, σ⟩ ⟨a1, a2, a3, a4⟩
    dsimp only at a1 a2 a3 a4 ⊢
    unfold b_122_10
    rw [zg_pos ⟨by omega, by omega⟩, zg_pos ⟨by omega, by omega⟩]
    by_cases hc : k < n
    · left
      obtain ⟨t, ht, q1, q2⟩ := zlp_F (B := fun (q : Int × zS) => b_122_18 (H * 125) n k q.1 q.2) (I := fun q => 0 ≤ q.1 ∧ q.1 ≤ n ∧ oH H s1 q.2 ∧ CVl C q.2 H (n * n) (fun β => vRows n k q.1.toNat (vHats n k.toNat (X β)))) (μ := fun q => (n - q.1).toNat) (Q := fun t => oH H s1 t ∧ CVl C t H (n * n) (fun β => vRows n k n.toNat (vHats n k.toNat (X β)))) (by
        rintro ⟨i, ω⟩ ⟨c1, c2, c3, c4⟩
        dsimp only at c1 c2 c3 c4 ⊢
        unfold b_122_18
        rw [zg_pos ⟨by omega, by omega⟩, zg_pos ⟨by omega, by omega⟩]
        by_cases hd : i < n
        · left
          generalize hZ : (fun β => vRows n k i.toNat (vHats n k.toNat (X β))) = Z at c4
          obtain ⟨t, ht, q1, q2⟩ := zlp_F (B := fun (q : Int × zS) => b_122_27 (H * 125) n k i q.1 q.2) (I := fun q => 0 ≤ q.1 ∧ q.1 ≤ n ∧ oH H s1 q.2 ∧ ∀ β, β < 64 → C β → ∀ r c, 0 ≤ r → r < n → 0 ≤ c → c < n → gb q.2 18 (H * 125 + (r * n + c)) β = if r = i ∧ c < q.1 then vRowStep n k i (Z β) (r * n + c) else Z β (r * n + c)) (μ := fun q => (n - q.1).toNat) (Q := fun t => oH H s1 t ∧ ∀ β, β < 64 → C β → ∀ r c, 0 ≤ r → r < n → 0 ≤ c → c < n → gb t 18 (H * 125 + (r * n + c)) β = vRowStep n k i (Z β) (r * n + c)) (by
            rintro ⟨j, ψ⟩ ⟨g1, g2, g3, g4⟩
            dsimp only at g1 g2 g3 g4 ⊢
            unfold b_122_27
            rw [zg_pos ⟨by omega, by omega⟩, zg_pos ⟨by omega, by omega⟩]
            by_cases he : j < n
            · left
              have hij := pair_lt c1 hd g1 he
              have hik := pair_lt c1 hd a1 hc
              have hkj := pair_lt a1 hc g1 he
              rw [if_pos he, zg_pos ⟨by omega, by omega⟩, zg_pos ⟨by omega, by omega⟩, zg_pos ⟨by omega, by omega⟩]
              refine ⟨_, rfl, ⟨by dsimp only; omega, by dsimp only; omega, g3.set (by omega) (by omega), fun β hb cb r c r0 r1 k0 k1 => ?_⟩, by dsimp only; omega⟩
              dsimp only
              rw [gb_set]
              by_cases hu : r * n + c = i * n + j
              · obtain ⟨e1, e2⟩ := pair_inj hu k0 k1 g1 he
                obtain ⟨d1, d2⟩ := pair_dm (n := n) (r := i) g1 he
                obtain ⟨d3, d4⟩ := pair_dm (n := n) (r := i) a1 hc
                have x1 := g4 β hb cb i j c1 hd g1 he
                have x2 := g4 β hb cb i k c1 hd a1 hc
                have x3 := g4 β hb cb k j a1 hc g1 he
                rw [if_neg (by omega)] at x1
                rw [if_neg (by omega)] at x3
                have x2' : gb ψ 18 (H * 125 + (i * n + k)) β = Z β (i * n + k) := by
                  rw [x2]
                  by_cases hkj' : k < j
                  · rw [if_pos ⟨rfl, hkj'⟩]
                    unfold vRowStep
                    rw [d4]
                    cases Z β (i * n + k) <;> simp
                  · rw [if_neg (by omega)]
                rw [if_pos (by omega), if_pos (by omega), e1, e2, gb_or, gb_and, Int.add_assoc, Int.add_assoc, Int.add_assoc]
                unfold vRowStep
                rw [d1, d2, decide_eq_true rfl, Bool.true_and, ← x1, ← x2', ← x3]
              · rw [if_neg (by omega), g4 β hb cb r c r0 r1 k0 k1]
                have n1' : ¬ (r = i ∧ c = j) := fun h => hu (by rw [h.1, h.2])
                by_cases hP : r = i ∧ c < j
                · rw [if_pos hP, if_pos (by omega)]
                · rw [if_neg hP, if_neg (by omega)]
            · right
              rw [if_neg he]
              refine ⟨_, rfl, g3, fun β hb cb r c r0 r1 k0 k1 => ?_⟩
              rw [g4 β hb cb r c r0 r1 k0 k1]
              by_cases hP : r = i
              · rw [if_pos (by omega)]
              · rw [if_neg (by omega)]
                obtain ⟨d1, d2⟩ := pair_dm (n := n) (r := r) k0 k1
                unfold vRowStep
                rw [d1, decide_eq_false hP, Bool.false_and, Bool.or_false]) (s := (0, ω)) ⟨by dsimp only; omega, by dsimp only; omega, c3, fun β hb cb r c r0 r1 k0 k1 => by
              dsimp only
              have hp := pair_lt r0 r1 k0 k1
              rw [if_neg (by omega)]
              exact c4 β hb cb _ hp.1 hp.2⟩ (by dsimp only; omega)
          rw [if_pos hd, zo_of ht]
          refine ⟨_, rfl, ⟨by dsimp only; omega, by dsimp only; omega, q1, fun β hb cb u u0 u1 => ?_⟩, by dsimp only; omega⟩
          obtain ⟨g1, g2, g3, g4, g5⟩ := pair_of n1 u0 u1
          have := q2 β hb cb _ _ g1 g2 g3 g4
          rw [g5] at this
          dsimp only
          rw [this, ← hZ, show (i + 1).toNat = i.toNat + 1 by omega, vRows, show ((i.toNat : Nat) : Int) = i by omega]
        · right
          rw [if_neg hd]
          refine ⟨_, rfl, c3, ?_⟩
          rw [show i = n by omega] at c4
          exact c4) (s := (0, σ)) ⟨by dsimp only; omega, by dsimp only; omega, a3, a4⟩ (by dsimp only; omega)
      rw [if_pos hc, zo_of ht]
      refine ⟨_, rfl, ⟨by dsimp only; omega, by dsimp only; omega, q1, ?_⟩, by dsimp only; omega⟩
      dsimp only
      rw [show (k + 1).toNat = k.toNat + 1 by omega]
      intro β hb cb u u0 u1
      rw [q2 β hb cb u u0 u1]
      show _ = vHats n (k.toNat + 1) (X β) u
      rw [vHats, show ((k.toNat : Nat) : Int) = k by omega]
    · right
      rw [if_neg hc]
      refine ⟨_, rfl, a3, ?_⟩
      rw [show k = n by omega] at a4
      exact a4) (s := (0, s1)) ⟨by dsimp only; omega, by dsimp only; omega, oH.rf _ _, hX⟩ (by dsimp only; omega)
  refine ⟨t, ?_, q1, q2⟩
  unfold f_122
  rw [hn, zo_of ht]
end COPS
