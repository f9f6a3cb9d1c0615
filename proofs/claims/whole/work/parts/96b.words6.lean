/-! THE CLASS'S MACHINE: not, ~, ^, *; how many there are. -/
/-- what verdict makes of two bits -/
def vV (sign : Int) (o t : Bool) : Bool := if sign = 5 then o else if sign = 7 then !t else if sign = 8 then o && !t else !o
theorem c_verdict {sign : Int} {o t : BitVec 64} (h : sign = 4 ∨ sign = 5 ∨ sign = 6 ∨ sign = 7 ∨ sign = 8) : ∃ w, f_110 sign o t = some w ∧ ∀ β, β < 64 → w.getLsbD β = vV sign (o.getLsbD β) (t.getLsbD β) := by
  rcases h with rfl | rfl | rfl | rfl | rfl
  · exact ⟨_, rfl, fun β hb => by rw [gb_not hb]; rfl⟩
  · exact ⟨_, rfl, fun β hb => rfl⟩
  · exact ⟨_, rfl, fun β hb => by rw [gb_not hb]; rfl⟩
  · exact ⟨_, rfl, fun β hb => by rw [gb_not hb]; rfl⟩
  · exact ⟨_, rfl, fun β hb => by rw [gb_and, gb_not hb]; rfl⟩
theorem vV_qty {q x k : Int} (q1 : 1 ≤ q) (q4 : q ≤ 4) (x0 : 0 ≤ x) : vV (4 + q) (decide (1 ≤ x)) (decide (2 ≤ x)) = vQty q x k := by
  unfold vV vQty
  have hq : q = 1 ∨ q = 2 ∨ q = 3 ∨ q = 4 := by omega
  rcases hq with rfl | rfl | rfl | rfl
  · rw [if_pos (by decide), if_neg (by decide), if_pos (by decide)]
    exact decide_eq_decide.mpr (by omega)
  · rw [if_neg (by decide), if_neg (by decide), if_neg (by decide), if_neg (by decide), if_neg (by decide), if_pos (by decide), ← decide_not]
    exact decide_eq_decide.mpr (by omega)
  · rw [if_neg (by decide), if_pos (by decide), if_neg (by decide), if_neg (by decide), if_neg (by decide), if_pos (by decide), ← decide_not]
    exact decide_eq_decide.mpr (by omega)
  · rw [if_neg (by decide), if_neg (by decide), if_pos (by decide), if_neg (by decide), if_neg (by decide), if_neg (by decide), if_neg (by decide), ← decide_not, ← Bool.decide_and]
    exact decide_eq_decide.mpr (by omega)
theorem zcnt_step {k : Int} (f : Int → Bool) (h : 0 ≤ k) : zcnt (k + 1).toNat f = zcnt k.toNat f + (if f k then 1 else 0) := by
  have e : (k + 1).toNat = k.toNat + 1 := by omega
  have e2 : ((k.toNat : Nat) : Int) = k := by omega
  rw [e, zcnt, e2]
section COPS
variable {C : Nat → Prop} {s : zS} {n H a b : Int} {X Y : Nat → Vl}
theorem c_not (h : CO1 C s n H 0 X) : ∃ t, f_120 9 s = some ((), t) ∧ CR C s t n H 0 (fun β _ => !X β 0) := by
  obtain ⟨⟨hn, n1, n5, -⟩, h17, H0, H1, ha, hX⟩ := h
  refine ⟨sJ s 18 (H * 125) ((gJ s 18 (H * 125)) ^^^ (18446744073709551615#64)), ?_, CR.of1 h17 ((oH.rf H s).set (by omega) (by omega)) ha ?_⟩
  · unfold f_120
    rw [if_neg (by omega), zg_pos (by decide), if_pos rfl, h17, show H + 1 - 1 = H by omega, zg_pos ⟨by omega, by omega⟩, if_neg (by decide)]
  · intro β hb cb u u0 u1
    have e0 : n ^ (0 : Int).toNat = 1 := Int.pow_zero n
    have e : u = 0 := by omega
    have x1 := hX β hb cb 0 (by omega) (by omega)
    rw [Int.add_zero] at x1
    rw [e, Int.add_zero, gb_set, if_pos rfl, gb_not hb]
    exact congrArg _ x1
theorem c_tilde (h : CO1 C s n H 2 X) : ∃ t, f_120 28 s = some ((), t) ∧ CR C s t n H 2 (fun β => vTilde n (X β)) := by
  obtain ⟨hC, h17, H0, H1, ha, hX⟩ := h
  rw [npw_2] at hX
  obtain ⟨t, ht, q1, q2⟩ := c_turn hC H0 H1 hX
  refine ⟨t, ?_, CR.of1 h17 q1 ha (by rw [npw_2]; exact q2)⟩
  unfold f_120
  rw [if_neg (by omega), zg_pos (by decide), if_neg (by decide), if_pos rfl, h17, show H + 1 - 1 = H by omega, zb_of ht, if_neg (by decide)]
theorem c_hat (h : CO1 C s n H 2 X) : ∃ t, f_120 29 s = some ((), t) ∧ CR C s t n H 2 (fun β => vHat n (X β)) := by
  obtain ⟨hC, h17, H0, H1, ha, hX⟩ := h
  rw [npw_2] at hX
  obtain ⟨t, ht, q1, q2⟩ := c_reach hC H0 H1 hX
  refine ⟨t, ?_, CR.of1 h17 q1 ha (by rw [npw_2]; exact q2)⟩
  unfold f_120
  rw [if_neg (by omega), zg_pos (by decide), if_neg (by decide), if_neg (by decide), h17, show H + 1 - 1 = H by omega, zb_of ht, if_neg (by decide)]
theorem c_star (h : CO1 C s n H 2 X) : ∃ t, f_120 30 s = some ((), t) ∧ CR C s t n H 2 (fun β => vStar n (X β)) := by
  obtain ⟨hC, h17, H0, H1, ha, hX⟩ := h
  rw [npw_2] at hX
  obtain ⟨t, ht, q1, q2⟩ := c_reach hC H0 H1 hX
  obtain ⟨t2, ht2, r1, r2⟩ := c_addIden (s1 := t) (hC.eq (q1.i _ _) (fun _ => q1.i _ _)) H0 H1 q2
  refine ⟨t2, ?_, CR.of1 h17 (q1.tr r1) ha (by rw [npw_2]; exact r2)⟩
  unfold f_120
  rw [if_neg (by omega), zg_pos (by decide), if_neg (by decide), if_neg (by decide), h17, show H + 1 - 1 = H by omega, zb_of ht, if_pos rfl, zb_of ht2]
theorem c_judge {q : Int} (h : CO1 C s n H a X) (a0 : 0 ≤ a) (a3 : a ≤ 3) (q1 : 1 ≤ q) (q4 : q ≤ 4) : ∃ t, f_119 (4 + q) s = some ((), t) ∧ CR C s t n H 0 (fun β _ => vQty q (zcnt (n ^ a.toNat).toNat (X β)) (-1)) := by
  obtain ⟨hC, h17, H0, H1, ha, hX⟩ := h
  have hN := npw_b hC.2.1 hC.2.2.1 a0 a3
  have sa := hC.size a0 a3
  generalize n ^ a.toNat = N at *
  obtain ⟨w, hw, hwb⟩ := zlp_F (B := fun (q' : BitVec 64 × BitVec 64 × Int) => b_119_47 (4 + q) (H * 125) N s q'.1 q'.2.1 q'.2.2) (I := fun p => 0 ≤ p.2.2 ∧ p.2.2 ≤ N ∧ ∀ β, β < 64 → C β → p.1.getLsbD β = decide (1 ≤ zcnt p.2.2.toNat (X β)) ∧ p.2.1.getLsbD β = decide (2 ≤ zcnt p.2.2.toNat (X β))) (μ := fun p => (N - p.2.2).toNat) (Q := fun w => ∀ β, β < 64 → C β → w.1.getLsbD β = decide (1 ≤ zcnt N.toNat (X β)) ∧ w.2.getLsbD β = decide (2 ≤ zcnt N.toNat (X β))) (by
    rintro ⟨o, t, i⟩ ⟨c1, c2, c3⟩
    dsimp only at c1 c2 c3 ⊢
    unfold b_119_47
    rw [zg_pos ⟨by omega, by omega⟩, zg_pos ⟨by omega, by omega⟩]
    by_cases hd : i < N
    · left
      rw [if_pos hd, zg_pos ⟨by omega, by omega⟩]
      refine ⟨_, rfl, ⟨by dsimp only; omega, by dsimp only; omega, fun β hb cb => ?_⟩, by dsimp only; omega⟩
      dsimp only
      have x1 : (gJ s 18 (H * 125 + i)).getLsbD β = X β i := hX β hb cb i c1 hd
      obtain ⟨g1, g2⟩ := c3 β hb cb
      have hz := (zcnt_b (X β) i.toNat).1
      rw [zcnt_step _ c1, gb_or, gb_or, gb_and, g1, g2, x1]
      by_cases hx : X β i = true
      · rw [if_pos hx, hx, Bool.or_true, Bool.and_true, ← Bool.decide_or]
        exact ⟨(decide_eq_true (by omega)).symm, decide_eq_decide.mpr (by omega)⟩
      · rw [if_neg hx, Bool.not_eq_true _ |>.mp hx, Bool.or_false, Bool.and_false, Bool.or_false, Int.add_zero]
        exact ⟨rfl, rfl⟩
    · right
      rw [if_neg hd]
      refine ⟨_, rfl, ?_⟩
      dsimp only
      rw [show N = i by omega]
      exact c3) (s := (0#64, 0#64, 0)) ⟨by dsimp only; omega, by dsimp only; omega, fun β hb cb => by
      dsimp only
      rw [gb_zero]
      exact ⟨rfl, rfl⟩⟩ (by dsimp only; omega)
  obtain ⟨v, hv, hvb⟩ := c_verdict (sign := 4 + q) (o := w.1) (t := w.2) (by omega)
  refine ⟨_, ?_, CR.truth (w := v) h17 H0 H1 rfl fun β hb cb => ?_⟩
  · unfold f_119
    rw [if_neg (by omega), h17, show H + 1 - 1 = H by omega, zg_pos ⟨by omega, by omega⟩, ha, zo_of sa, zo_of hw, zo_of hv, zg_pos ⟨by omega, by omega⟩]
  · obtain ⟨g1, g2⟩ := hwb β hb cb
    rw [hvb β hb, g1, g2]
    exact vV_qty q1 q4 (zcnt_b _ _).1
end COPS
