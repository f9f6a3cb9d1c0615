/-! THE CLASS'S MACHINE: pairs. -/
theorem pair_inj {n r c i j : Int} (h : r * n + c = i * n + j) (c0 : 0 ≤ c) (c1 : c < n) (j0 : 0 ≤ j) (j1 : j < n) : r = i ∧ c = j := by
  obtain ⟨d1, d2⟩ := div_block (m := n) (t := r) (u := r * n + c) (by omega) (by omega) (by omega)
  obtain ⟨d3, d4⟩ := div_block (m := n) (t := i) (u := i * n + j) (by omega) (by omega) (by omega)
  rw [h] at d1 d2
  constructor
  · exact d1.symm.trans d3
  · omega
theorem pair_lt {n r c : Int} (r0 : 0 ≤ r) (r1 : r < n) (c0 : 0 ≤ c) (c1 : c < n) : 0 ≤ r * n + c ∧ r * n + c < n * n := by
  have := mul_mono (m := n) (show r + 1 ≤ n by omega) (by omega)
  rw [succ_mul'] at this
  have h0 : 0 ≤ r * n := Int.mul_nonneg r0 (by omega)
  omega
theorem pair_of {n u : Int} (n1 : 1 ≤ n) (u0 : 0 ≤ u) (u1 : u < n * n) : 0 ≤ u / n ∧ u / n < n ∧ 0 ≤ u % n ∧ u % n < n ∧ u / n * n + u % n = u :=
  ⟨Int.ediv_nonneg u0 (by omega), div_lt (by omega) u1, Int.emod_nonneg u (by omega), Int.emod_lt_of_pos u (by omega), div_mul_mod u n⟩
theorem pair_dm {n r c : Int} (c0 : 0 ≤ c) (c1 : c < n) : (r * n + c) / n = r ∧ (r * n + c) % n = c := by
  obtain ⟨d1, d2⟩ := div_block (m := n) (t := r) (u := r * n + c) (by omega) (by omega) (by omega)
  exact ⟨d1, by omega⟩
section COPS
variable {C : Nat → Prop} {s : zS} {n H a b : Int} {X Y : Nat → Vl}
/-- what dropBegun leaves -/
def vDrop (n : Int) (X Y : Vl) : Vl := fun u => X u && !zany n.toNat (fun j => Y (u / n * n + j))
theorem c_drop {s1 : zS} (hC : CN s1 n) (H0 : 0 ≤ H) (H1 : H + 1 < 22) (hX : CVl C s1 H (n * n) X) (hY : CVl C s1 (H + 1) (n * n) Y) : ∃ t, f_128 (H * 125) ((H + 1) * 125) s1 = some ((), t) ∧ oH H s1 t ∧ CVl C t H (n * n) (fun β => vDrop n (X β) (Y β)) := by
  obtain ⟨hn, n1, n5, -⟩ := hC
  have nn := nn25 n1 n5
  obtain ⟨t, ht, q1, q2⟩ := zlp_F (B := fun (q : Int × zS) => b_128_11 (H * 125) ((H + 1) * 125) n q.1 q.2) (I := fun q => 0 ≤ q.1 ∧ q.1 ≤ n ∧ oH H s1 q.2 ∧ ∀ β, β < 64 → C β → ∀ u, 0 ≤ u → u < n * n → gb q.2 18 (H * 125 + u) β = if u < q.1 * n then vDrop n (X β) (Y β) u else X β u) (μ := fun q => (n - q.1).toNat) (Q := fun t => oH H s1 t ∧ ∀ β, β < 64 → C β → ∀ u, 0 ≤ u → u < n * n → gb t 18 (H * 125 + u) β = vDrop n (X β) (Y β) u) (by
    rintro ⟨i, σ⟩ ⟨a1, a2, a3, a4⟩
    dsimp only at a1 a2 a3 a4 ⊢
    unfold b_128_11
    rw [zg_pos ⟨by omega, by omega⟩, zg_pos ⟨by omega, by omega⟩]
    by_cases hc : i < n
    · left
      have hi0 : 0 ≤ i * n := Int.mul_nonneg a1 (by omega)
      have hi1 : i * n + n ≤ n * n := by
        have := mul_mono (m := n) (show i + 1 ≤ n by omega) (by omega)
        rw [succ_mul'] at this
        exact this
      obtain ⟨w, hw, hwb⟩ := zlp_F (B := fun (q : BitVec 64 × Int) => b_128_23 (H * 125) ((H + 1) * 125) n i σ q.1 q.2) (I := fun q => 0 ≤ q.2 ∧ q.2 ≤ n ∧ ∀ β, β < 64 → C β → q.1.getLsbD β = zany q.2.toNat (fun j => Y β (i * n + j))) (μ := fun q => (n - q.2).toNat) (Q := fun w => ∀ β, β < 64 → C β → w.getLsbD β = zany n.toNat (fun j => Y β (i * n + j))) (by
        rintro ⟨w, j⟩ ⟨c1, c2, c3⟩
        dsimp only at c1 c2 c3 ⊢
        unfold b_128_23
        rw [zg_pos ⟨by omega, by omega⟩, zg_pos ⟨by omega, by omega⟩]
        by_cases hd : j < n
        · left
          rw [if_pos hd, zg_pos ⟨by omega, by omega⟩]
          refine ⟨_, rfl, ⟨by dsimp only; omega, by dsimp only; omega, fun β hb cb => ?_⟩, by dsimp only; omega⟩
          dsimp only
          have y1 := hY β hb cb (i * n + j) (by omega) (by omega)
          rw [zany_step _ c1, gb_or, c3 β hb cb, ← y1, Int.add_assoc, a3.up (i * n + j) (by omega)]
        · right
          rw [if_neg hd]
          refine ⟨_, rfl, fun β hb cb => ?_⟩
          rw [c3 β hb cb, show j = n by omega]) (s := (0#64, 0)) ⟨by dsimp only; omega, by dsimp only; omega, fun β hb cb => gb_zero β⟩ (by dsimp only; omega)
      obtain ⟨t, ht, q1, q2⟩ := zlp_F (B := fun (q : Int × zS) => b_128_57 (H * 125) ((H + 1) * 125) n i w q.1 q.2) (I := fun q => 0 ≤ q.1 ∧ q.1 ≤ n ∧ oH H s1 q.2 ∧ ∀ β, β < 64 → C β → ∀ u, 0 ≤ u → u < n * n → gb q.2 18 (H * 125 + u) β = if u < i * n + q.1 then vDrop n (X β) (Y β) u else X β u) (μ := fun q => (n - q.1).toNat) (Q := fun t => oH H s1 t ∧ ∀ β, β < 64 → C β → ∀ u, 0 ≤ u → u < n * n → gb t 18 (H * 125 + u) β = if u < i * n + n then vDrop n (X β) (Y β) u else X β u) (by
        rintro ⟨j, ω⟩ ⟨c1, c2, c3, c4⟩
        dsimp only at c1 c2 c3 c4 ⊢
        unfold b_128_57
        rw [zg_pos ⟨by omega, by omega⟩, zg_pos ⟨by omega, by omega⟩]
        by_cases hd : j < n
        · left
          rw [if_pos hd, zg_pos ⟨by omega, by omega⟩]
          refine ⟨_, rfl, ⟨by dsimp only; omega, by dsimp only; omega, c3.set (by omega) (by omega), fun β hb cb u u0 u1 => ?_⟩, by dsimp only; omega⟩
          dsimp only
          rw [gb_set]
          by_cases hu : u = i * n + j
          · obtain ⟨d1, d2⟩ := div_block (m := n) (t := i) (u := u) (by omega) (by omega) (by omega)
            have x1 := c4 β hb cb u u0 u1
            rw [if_neg (by omega)] at x1
            rw [if_pos (by omega), if_pos (by omega), gb_and, gb_not hb, hwb β hb cb]
            unfold vDrop
            rw [d1, ← x1, hu, Int.add_assoc]
          · rw [if_neg (by omega), c4 β hb cb u u0 u1]
            by_cases h1 : u < i * n + j
            · rw [if_pos h1, if_pos (by omega)]
            · rw [if_neg h1, if_neg (by omega)]
        · right
          rw [if_neg hd]
          refine ⟨_, rfl, c3, fun β hb cb u u0 u1 => ?_⟩
          rw [c4 β hb cb u u0 u1, show j = n by omega]) (s := (0, σ)) ⟨by dsimp only; omega, by dsimp only; omega, a3, fun β hb cb u u0 u1 => by
          dsimp only
          rw [a4 β hb cb u u0 u1, Int.add_zero]⟩ (by dsimp only; omega)
      rw [if_pos hc, zo_of hw, zo_of ht]
      refine ⟨_, rfl, ⟨by dsimp only; omega, by dsimp only; omega, q1, fun β hb cb u u0 u1 => ?_⟩, by dsimp only; omega⟩
      dsimp only
      rw [q2 β hb cb u u0 u1, succ_mul']
    · right
      rw [if_neg hc]
      refine ⟨_, rfl, a3, fun β hb cb u u0 u1 => ?_⟩
      rw [a4 β hb cb u u0 u1, show i = n by omega, if_pos u1]) (s := (0, s1)) ⟨by dsimp only; omega, by dsimp only; omega, oH.rf _ _, fun β hb cb u u0 u1 => by
      dsimp only
      rw [if_neg (by omega)]
      exact hX β hb cb u u0 u1⟩ (by dsimp only; omega)
  refine ⟨t, ?_, q1, q2⟩
  unfold f_128
  rw [hn, zo_of ht]
theorem npw_2 : n ^ (2 : Int).toNat = n * n := by
  show n ^ 2 = n * n
  rw [Int.pow_succ, Int.pow_succ, Int.pow_zero, Int.one_mul]
/-- ++ -/
theorem c_override (h : CO2 C s n H 2 2 X Y) : ∃ t, f_127 21 s = some ((), t) ∧ CR C s t n H 2 (fun β => vOver n (X β) (Y β)) := by
  obtain ⟨p1, p2, p3⟩ := h.pop
  obtain ⟨⟨hn, n1, n5, -⟩, h17, H0, H1, ha, hb, hX, hY⟩ := h
  have nn := nn25 n1 n5
  rw [npw_2] at hX hY
  have hX' : CVl C (sI s 17 3 (H + 1)) H (n * n) X := hX.same (fun _ _ _ => rfl) (by omega)
  have hY' : CVl C (sI s 17 3 (H + 1)) (H + 1) (n * n) Y := hY.same (fun _ _ _ => rfl) (by omega)
  obtain ⟨s1, e1, o1, v1⟩ := c_drop p3 H0 H1 hX' hY'
  obtain ⟨t, ht, q⟩ := c_word49 (C := C) (X := fun β => vDrop n (X β) (Y β)) (Y := Y) (op := 21) (p := n * n) (a := 2) rfl o1 p3 ha (by omega) H0 H1 (by omega) (by omega) (by rw [if_neg (by omega), npw_2]) (by rw [npw_2]; omega) (by rw [npw_2]; exact v1) (hY'.same (fun i i0 i1 => o1.up i i0) (by omega))
  refine ⟨t, ?_, q.1, q.2.1, fun β hb cb u u0 u1 => ?_, q.2.2.2⟩
  · unfold f_127
    rw [if_neg (by omega), zg_pos ⟨by omega, by omega⟩, if_pos rfl, p1, p2, show H + 1 - 1 = H by omega, zb_of e1]
    exact ht
  · rw [q.2.2.1 β hb cb u u0 u1]
    rw [npw_2] at u1
    dsimp only
    rw [Int.emod_eq_of_lt u0 u1]
    exact Bool.or_comm _ _
/-- the pairs of an atom with itself are put in -/
theorem c_addIden {s1 : zS} (hC : CN s1 n) (H0 : 0 ≤ H) (H1 : H < 22) (hX : CVl C s1 H (n * n) X) : ∃ t, f_116 (H * 125) s1 = some ((), t) ∧ oH H s1 t ∧ CVl C t H (n * n) (fun β u => X β u || vIden n u) := by
  obtain ⟨hn, n1, n5, -⟩ := hC
  have nn := nn25 n1 n5
  obtain ⟨t, ht, q1, q2⟩ := zlp_F (B := fun (q : Int × zS) => b_116_2 (H * 125) q.1 q.2) (I := fun q => 0 ≤ q.1 ∧ q.1 ≤ n ∧ oH H s1 q.2 ∧ ∀ β, β < 64 → C β → ∀ u, 0 ≤ u → u < n * n → gb q.2 18 (H * 125 + u) β = (X β u || (vIden n u && decide (u / n < q.1)))) (μ := fun q => (n - q.1).toNat) (Q := fun t => oH H s1 t ∧ ∀ β, β < 64 → C β → ∀ u, 0 ≤ u → u < n * n → gb t 18 (H * 125 + u) β = (X β u || vIden n u)) (by
    rintro ⟨i, σ⟩ ⟨a1, a2, a3, a4⟩
    dsimp only at a1 a2 a3 a4 ⊢
    have en : gI σ 1 0 = n := by rw [a3.i]; exact hn
    unfold b_116_2
    rw [zg_pos ⟨by omega, by omega⟩, en]
    by_cases hc : i < n
    · left
      have hp := pair_lt a1 hc a1 hc
      rw [if_pos hc, zg_pos ⟨by omega, by omega⟩]
      refine ⟨_, rfl, ⟨by dsimp only; omega, by dsimp only; omega, a3.set (by omega) (by omega), fun β hb cb u u0 u1 => ?_⟩, by dsimp only; omega⟩
      obtain ⟨g1, g2, g3, g4, g5⟩ := pair_of n1 u0 u1
      dsimp only
      rw [gb_set]
      by_cases hu : u = i * n + i
      · obtain ⟨d1, d2⟩ := pair_dm (r := i) a1 hc
        rw [if_pos (by omega), gb_ones hb]
        unfold vIden
        rw [hu, d1, d2, decide_eq_true rfl, decide_eq_true (by omega), Bool.true_and, Bool.or_true]
      · rw [if_neg (by omega), a4 β hb cb u u0 u1]
        congr 1
        unfold vIden
        by_cases he : u / n = u % n
        · rw [decide_eq_true he, Bool.true_and, Bool.true_and]
          refine decide_eq_decide.mpr ⟨fun h => by omega, fun h => ?_⟩
          by_cases hi : u / n = i
          · exfalso
            apply hu
            rw [← g5, ← he, hi]
          · omega
        · rw [decide_eq_false he, Bool.false_and, Bool.false_and]
    · right
      rw [if_neg hc]
      refine ⟨_, rfl, a3, fun β hb cb u u0 u1 => ?_⟩
      obtain ⟨g1, g2, g3, g4, g5⟩ := pair_of n1 u0 u1
      rw [a4 β hb cb u u0 u1, decide_eq_true (by omega), Bool.and_true]) (s := (0, s1)) ⟨by dsimp only; omega, by dsimp only; omega, oH.rf _ _, fun β hb cb u u0 u1 => by
      obtain ⟨g1, g2, g3, g4, g5⟩ := pair_of n1 u0 u1
      dsimp only
      rw [decide_eq_false (by omega), Bool.and_false, Bool.or_false]
      exact hX β hb cb u u0 u1⟩ (by dsimp only; omega)
  refine ⟨t, ?_, q1, q2⟩
  unfold f_116
  rw [zo_of ht]
end COPS
