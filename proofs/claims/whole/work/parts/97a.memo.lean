/-! THE CLASS'S MACHINE: memos. -/
/-- the place in a memo: the atoms of the slots in U, one after another -/
def plc (U : Int) (bd : Int → Int) : Nat → Int
  | 0 => 0
  | i + 1 => if U.toNat.testBit i then plc U bd i * 5 + bd i else plc U bd i
section MEMO
variable {C : Nat → Prop} {s : zS} {n H : Int} {X : Nat → Vl}
theorem c_place {c : Nat} {at_ k U : Int} (hc : zC c = true) (a0 : 0 ≤ at_) (a1 : at_ < 200) (hk : gI s (c + 7) at_ = k) (hk1 : k ≠ -1) (hU : gI s (c + 6) at_ = U) (U0 : 0 ≤ U) : f_105 c at_ s = some (k * 25 + plc U (fun i => gI s 20 i) 20) := by
  have hUR : zR U := by rw [← hU]; exact zR_gI _ _ _
  obtain ⟨t, ht, q⟩ := zlp_F (B := fun (q : Int × Int) => b_105_17 c at_ s q.1 q.2) (I := fun q => 0 ≤ q.2 ∧ q.2 ≤ 20 ∧ q.1 = plc U (fun i => gI s 20 i) q.2.toNat) (μ := fun q => (20 - q.2).toNat) (Q := fun t => t = plc U (fun i => gI s 20 i) 20) (by
    rintro ⟨x, i⟩ ⟨c1, c2, c3⟩
    dsimp only at c1 c2 c3 ⊢
    unfold b_105_17
    rw [zg_pos ⟨by omega, by omega⟩]
    by_cases hi : i < 20
    · left
      have e : (i + 1).toNat = i.toNat + 1 := by omega
      have e2 : ((i.toNat : Nat) : Int) = i := by omega
      rw [if_pos hi, zg_pos hc, zg_pos ⟨a0, a1⟩, hU, zg_pos ⟨U0, hUR⟩, ztest U0 hUR c1 (by omega)]
      by_cases hb : U.toNat.testBit i.toNat = true
      · rw [if_pos hb, if_neg (by decide), zg_pos ⟨by omega, hi⟩]
        refine ⟨_, rfl, ⟨by dsimp only; omega, by dsimp only; omega, ?_⟩, by dsimp only; omega⟩
        dsimp only
        rw [e, plc, if_pos hb, e2, c3]
      · rw [if_neg hb, if_pos rfl]
        refine ⟨_, rfl, ⟨by dsimp only; omega, by dsimp only; omega, ?_⟩, by dsimp only; omega⟩
        dsimp only
        rw [e, plc, if_neg hb, c3]
    · right
      rw [if_neg hi]
      refine ⟨_, rfl, ?_⟩
      rw [c3, show i.toNat = 20 by omega]) (s := (0, 0)) ⟨by dsimp only; omega, by dsimp only; omega, rfl⟩ (by dsimp only; omega)
  unfold f_105
  rw [zg_pos hc, zg_pos ⟨a0, a1⟩, hk, if_neg hk1, zo_of ht, q]
theorem c_place0 {c : Nat} {at_ : Int} (hc : zC c = true) (a0 : 0 ≤ at_) (a1 : at_ < 200) (hk : gI s (c + 7) at_ = -1) : f_105 c at_ s = some (-1) := by
  unfold f_105
  rw [zg_pos hc, zg_pos ⟨a0, a1⟩, hk, if_pos rfl]
theorem c_recall {p r : Int} (hC : CN s n) (h17 : gI s 17 3 = H) (H0 : 0 ≤ H) (H1 : H < 22) (p0 : 0 ≤ p) (p1 : p < 1000) (r0 : 0 ≤ r) (r1 : r ≤ 1) (hX : ∀ β, β < 64 → C β → ∀ i, 0 ≤ i → i < n ^ r.toNat → gb s 24 (p * 5 + i) β = X β i) : ∃ t, f_106 p r s = some ((), t) ∧ CR C s t n H r X := by
  have n5 := hC.2.2.1
  have n1 := hC.2.1
  have hN : 1 ≤ n ^ r.toNat ∧ n ^ r.toNat ≤ 5 := by
    have hr : r = 0 ∨ r = 1 := by omega
    rcases hr with rfl | rfl
    · rw [npw_0]; omega
    · rw [npw_1]; omega
  have sr := hC.size r0 (by omega)
  generalize hNN : n ^ r.toNat = N at *
  obtain ⟨t, ht, q1, q2⟩ := zlp_F (B := fun (q : Int × zS) => b_106_21 p r (H * 125) N q.1 q.2) (I := fun q => 0 ≤ q.1 ∧ q.1 ≤ N ∧ oH H s q.2 ∧ ∀ u, 0 ≤ u → u < q.1 → gJ q.2 18 (H * 125 + u) = gJ s 24 (p * 5 + u)) (μ := fun q => (N - q.1).toNat) (Q := fun t => oH H s t ∧ ∀ u, 0 ≤ u → u < N → gJ t 18 (H * 125 + u) = gJ s 24 (p * 5 + u)) (by
    rintro ⟨i, σ⟩ ⟨a1, a2, a3, a4⟩
    dsimp only at a1 a2 a3 a4 ⊢
    unfold b_106_21
    rw [zg_pos ⟨by omega, by omega⟩, zg_pos ⟨by omega, by omega⟩]
    by_cases hc : i < N
    · left
      rw [if_pos hc, zg_pos ⟨by omega, by omega⟩, zg_pos ⟨by omega, by omega⟩]
      refine ⟨_, rfl, ⟨by dsimp only; omega, by dsimp only; omega, a3.set (by omega) (by omega), fun u u0 u1 => ?_⟩, by dsimp only; omega⟩
      dsimp only at u1 ⊢
      rw [gJ_if]
      by_cases hu : u = i
      · rw [if_pos (by omega), hu, a3.1.j _ (by decide)]
      · rw [if_neg (by omega)]; exact a4 u u0 (by omega)
    · right
      rw [if_neg hc]
      exact ⟨_, rfl, a3, fun u u0 u1 => a4 u u0 (by omega)⟩) (s := (0, s)) ⟨by dsimp only; omega, by dsimp only; omega, oH.rf _ _, fun u u0 u1 => by dsimp only at u1; omega⟩ (by dsimp only; omega)
  have et : gI t 17 3 = H := by rw [q1.i]; exact h17
  refine ⟨_, ?_, CR.push h17 H0 H1 q1 (r := r) ⟨by omega, by omega⟩ rfl fun β hb cb u u0 u1 => ?_⟩
  · unfold f_106
    rw [zo_of sr, h17, zo_of ht, et, zg_pos ⟨H0, H1⟩]
  · show (gJ t 18 (H * 125 + u)).getLsbD β = _
    rw [q2 u u0 (by omega)]
    exact hX β hb cb u u0 (by omega)
/-- what remember leaves: the words of one place, right at the bits of w -/
theorem c_remember {p r : Int} {w : BitVec 64} (hC : CN s n) (h17 : gI s 17 3 = H + 1) (H0 : 0 ≤ H) (H1 : H < 22) (p0 : 0 ≤ p) (p1 : p < 1000) (r0 : 0 ≤ r) (r1 : r ≤ 1) : ∃ t, f_111 p r w s = some ((), t) ∧ t.1 = s.1 ∧ t.2.2 = s.2.2 ∧ (∀ c i, c ≠ 23 → c ≠ 24 → gJ t c i = gJ s c i) ∧ (∀ i, i ≠ p → gJ t 23 i = gJ s 23 i) ∧ (∀ i, ¬ (p * 5 ≤ i ∧ i < p * 5 + n ^ r.toNat) → gJ t 24 i = gJ s 24 i) ∧ (∀ β, β < 64 → gb t 23 p β = (gb s 23 p β || w.getLsbD β)) ∧ ∀ β, β < 64 → ∀ i, 0 ≤ i → i < n ^ r.toNat → gb t 24 (p * 5 + i) β = if w.getLsbD β then gb s 18 (H * 125 + i) β else gb s 24 (p * 5 + i) β := by
  have n5 := hC.2.2.1
  have n1 := hC.2.1
  have hN : 1 ≤ n ^ r.toNat ∧ n ^ r.toNat ≤ 5 := by
    have hr : r = 0 ∨ r = 1 := by omega
    rcases hr with rfl | rfl
    · rw [npw_0]; omega
    · rw [npw_1]; omega
  have sr := hC.size r0 (by omega)
  generalize hNN : n ^ r.toNat = N at *
  obtain ⟨t, ht, q1, q2, q3⟩ := zlp_F (B := fun (q : Int × zS) => b_111_24 p w (H * 125) N q.1 q.2) (I := fun q => 0 ≤ q.1 ∧ q.1 ≤ N ∧ oJ 24 s q.2 ∧ (∀ i, ¬ (p * 5 ≤ i ∧ i < p * 5 + q.1) → gJ q.2 24 i = gJ s 24 i) ∧ ∀ β, β < 64 → ∀ i, 0 ≤ i → i < q.1 → gb q.2 24 (p * 5 + i) β = if w.getLsbD β then gb s 18 (H * 125 + i) β else gb s 24 (p * 5 + i) β) (μ := fun q => (N - q.1).toNat) (Q := fun t => oJ 24 s t ∧ (∀ i, ¬ (p * 5 ≤ i ∧ i < p * 5 + N) → gJ t 24 i = gJ s 24 i) ∧ ∀ β, β < 64 → ∀ i, 0 ≤ i → i < N → gb t 24 (p * 5 + i) β = if w.getLsbD β then gb s 18 (H * 125 + i) β else gb s 24 (p * 5 + i) β) (by
    rintro ⟨i, σ⟩ ⟨a1, a2, a3, a4, a5⟩
    dsimp only at a1 a2 a3 a4 a5 ⊢
    unfold b_111_24
    rw [zg_pos ⟨by omega, by omega⟩, zg_pos ⟨by omega, by omega⟩]
    by_cases hc : i < N
    · left
      rw [if_pos hc, zg_pos ⟨by omega, by omega⟩, zg_pos ⟨by omega, by omega⟩]
      refine ⟨_, rfl, ⟨by dsimp only; omega, by dsimp only; omega, a3.set, fun u hu => ?_, fun β hb u u0 u1 => ?_⟩, by dsimp only; omega⟩
      · dsimp only at hu ⊢
        rw [gJ_ni (by omega)]
        exact a4 u (by omega)
      · dsimp only at u1 ⊢
        rw [gb_set]
        by_cases hu : u = i
        · rw [if_pos (by omega), gb_or, gb_and, gb_and, gb_not hb, a3.j _ (show (18 : Nat) ≠ 24 by decide), a4 (p * 5 + i) (by omega), hu]
          cases w.getLsbD β <;> simp
        · rw [if_neg (by omega)]
          exact a5 β hb u u0 (by omega)
    · right
      rw [if_neg hc]
      exact ⟨_, rfl, a3, fun u hu => a4 u (by omega), fun β hb u u0 u1 => a5 β hb u u0 (by omega)⟩) (s := (0, s)) ⟨by dsimp only; omega, by dsimp only; omega, oJ.rf _ _, fun u hu => rfl, fun β hb u u0 u1 => by dsimp only at u1; omega⟩ (by dsimp only; omega)
  refine ⟨sJ t 23 p (gJ t 23 p ||| w), ?_, q1.1, q1.2.1, fun c i h1 h2 => ?_, fun i hi => ?_, fun i hi => ?_, fun β hb => ?_, fun β hb i i0 i1 => ?_⟩
  · unfold f_111
    rw [zo_of sr, h17, show H + 1 - 1 = H by omega, zo_of ht, zg_pos ⟨p0, p1⟩]
  · rw [gJ_nc h1, q1.j _ h2]
  · rw [gJ_ni hi, q1.j _ (by decide)]
  · rw [gJ_nc (by decide), q2 i hi]
  · rw [gb_set, if_pos rfl, gb_or, q1.j _ (by decide)]
  · show (gJ (sJ t 23 p (gJ t 23 p ||| w)) 24 (p * 5 + i)).getLsbD β = _
    rw [gJ_nc (by decide)]
    exact q3 β hb i i0 i1
end MEMO
