/-! SEGMENTS of both codes: what binds; a new memo. -/
def cb (U : Int) : Nat → Nat
  | 0 => 0
  | i + 1 => cb U i + (if U.toNat.testBit i then 1 else 0)
theorem plc_b {U : Int} {bd : Int → Int} : ∀ k : Nat, (∀ i : Nat, i < k → U.toNat.testBit i = true → 0 ≤ bd i ∧ bd i < 5) → 0 ≤ plc U bd k ∧ plc U bd k < 5 ^ (cb U k)
  | 0, _ => ⟨Int.le_refl _, by show (0 : Int) < 5 ^ 0; decide⟩
  | k + 1, h => by
    obtain ⟨h1, h2⟩ := plc_b k (fun i hi ht => h i (by omega) ht)
    rw [plc, cb]
    by_cases ht : U.toNat.testBit k = true
    · have := h k (by omega) ht
      rw [if_pos ht, if_pos ht, Int.pow_succ]
      omega
    · rw [if_neg ht, if_neg ht]
      exact ⟨h1, h2⟩
theorem plc_inj {U : Int} {bd bd' : Int → Int} : ∀ k : Nat, (∀ i : Nat, i < k → U.toNat.testBit i = true → (0 ≤ bd i ∧ bd i < 5) ∧ (0 ≤ bd' i ∧ bd' i < 5)) → plc U bd k = plc U bd' k → ∀ i : Nat, i < k → U.toNat.testBit i = true → bd i = bd' i
  | 0, _, _, i, hi, _ => by omega
  | k + 1, h, e, i, hi, ht => by
    rw [plc, plc] at e
    by_cases hk : U.toNat.testBit k = true
    · have hb := h k (by omega) hk
      rw [if_pos hk, if_pos hk] at e
      by_cases hik : i = k
      · rw [hik]; omega
      · exact plc_inj k (fun i hi ht => h i (by omega) ht) (by omega) i (by omega) ht
    · rw [if_neg hk, if_neg hk] at e
      by_cases hik : i = k
      · rw [hik] at ht; exact absurd ht hk
      · exact plc_inj k (fun i hi ht => h i (by omega) ht) e i (by omega) ht
section BIND
variable {v : Wd} {cd : Cd} {rc : Rc} {dp L a b c a' b' c' q : Int} {D D1 D2 : Dn}
theorem memo_new {U : Int} (hn : 1 ≤ v.n ∧ v.n ≤ 5) (hD : Dep v.n v.sl cd a b L (bR q) D) (hS : Sco v.sl cd a b L dp) (hU : ∀ i : Nat, i < 20 → (U.toNat.testBit i = true ↔ ∃ k, a ≤ k ∧ k < b ∧ cd.op k = 43 ∧ cd.arg k = i ∧ (i : Int) < dp)) (hsl : ∀ j, 0 ≤ j → j < L → 0 ≤ v.sl j ∧ v.sl j < 20 ∧ v.sl j < dp) (hc : cb U 20 ≤ 2) : ∃ Fm : Int → (Int → Bool) → Vl, ∀ (bd e : Int → Int) (A : Int → Bool), (∀ j, 0 ≤ j → j < L → bd (v.sl j) = e j ∧ 0 ≤ e j ∧ e j < v.n) → 0 ≤ plc U bd 20 ∧ plc U bd 20 < 25 ∧ ∀ i, 0 ≤ i → i < bW v.n q → Fm (plc U bd 20) A i = D e A i := by
  have hr : ∀ (bd e : Int → Int), (∀ j, 0 ≤ j → j < L → bd (v.sl j) = e j ∧ 0 ≤ e j ∧ e j < v.n) → ∀ i : Nat, i < 20 → U.toNat.testBit i = true → 0 ≤ bd i ∧ bd i < 5 := by
    intro bd e h i hi ht
    obtain ⟨k, k0, k1, k2, k3, k4⟩ := (hU i hi).mp ht
    obtain ⟨-, -, g3⟩ := hS k k0 k1 k2
    obtain ⟨j, j0, j1, j2⟩ := g3 (by omega)
    obtain ⟨h1, h2, h3⟩ := h j j0 j1
    rw [← j2, k3] at h1
    omega
  have hcl : ∀ x : Int, ∃ g : (Int → Bool) → Vl, ∀ (bd e : Int → Int) (A : Int → Bool), (∀ j, 0 ≤ j → j < L → bd (v.sl j) = e j ∧ 0 ≤ e j ∧ e j < v.n) → plc U bd 20 = x → ∀ i, 0 ≤ i → i < bW v.n q → g A i = D e A i := by
    intro x
    by_cases hx : ∃ bd e : Int → Int, (∀ j, 0 ≤ j → j < L → bd (v.sl j) = e j ∧ 0 ≤ e j ∧ e j < v.n) ∧ plc U bd 20 = x
    · obtain ⟨bd0, e0, h0, p0⟩ := hx
      refine ⟨fun A => D e0 A, fun bd e A h p i i0 i1 => ?_⟩
      have hin := plc_inj (U := U) (bd := bd0) (bd' := bd) 20 (fun i hi ht => ⟨hr bd0 e0 h0 i hi ht, hr bd e h i hi ht⟩) (by rw [p0, p])
      refine hD e0 e A (fun j j0 j1 ⟨k, k0, k1, k2, k3⟩ => ?_) i i0 (by rw [bW_eq]; exact i1)
      obtain ⟨s0, s1, s2⟩ := hsl j j0 j1
      have ht : U.toNat.testBit (v.sl j).toNat = true := (hU _ (by omega)).mpr ⟨k, k0, k1, k2, by omega, by omega⟩
      have := hin (v.sl j).toNat (by omega) ht
      rw [show (((v.sl j).toNat : Nat) : Int) = v.sl j by omega] at this
      rw [← (h0 j j0 j1).1, ← (h j j0 j1).1, this]
    · exact ⟨fun _ _ => false, fun bd e A h p => absurd ⟨bd, e, h, p⟩ hx⟩
  obtain ⟨Fm, hF⟩ := Classical.axiomOfChoice hcl
  refine ⟨Fm, fun bd e A h => ?_⟩
  obtain ⟨b1, b2⟩ := plc_b (U := U) (bd := bd) 20 (hr bd e h)
  have : (5 : Int) ^ (cb U 20) ≤ 25 := by
    have : cb U 20 = 0 ∨ cb U 20 = 1 ∨ cb U 20 = 2 := by omega
    rcases this with h | h | h <;> rw [h] <;> decide
  exact ⟨b1, by omega, hF _ bd e A h rfl⟩
theorem Dep.quant (n1 : 1 ≤ v.n) (h1 : Dep v.n v.sl cd (a + 1) c L 1 D1) (h2 : Dep v.n v.sl cd c b (L + 1) 0 D2) (hc : a < c) (hb : c < b) : Dep v.n v.sl cd a b L (bR q) (dQ v.n q L D1 D2) := by
  intro e e' A he t t0 t1
  have e1 : ∀ x, 0 ≤ x → x < v.n → D1 e A x = D1 e' A x := fun x x0 x1 => h1 e e' A (fun j j0 j1 ⟨k, k0, k1, k2⟩ => he j j0 j1 ⟨k, by omega, by omega, k2⟩) x x0 (by rw [npw_1]; exact x1)
  have e2 : ∀ x, 0 ≤ x → x < v.n → dGot L D1 D2 e A x = dGot L D1 D2 e' A x := fun x x0 x1 => by
    unfold dGot
    rw [e1 x x0 x1, h2 (eUp e L x) (eUp e' L x) A (fun j j0 j1 ⟨k, k0, k1, k2⟩ => ?_) 0 (by decide) (by rw [npw_0]; decide)]
    unfold eUp
    by_cases hj : j = L
    · rw [if_pos hj, if_pos hj]
    · rw [if_neg hj, if_neg hj]
      exact he j j0 (by omega) ⟨k, by omega, k1, k2⟩
  unfold dQ
  by_cases hq : q = 5
  · rw [if_pos hq, if_pos hq]
    rw [bR, if_pos hq, npw_1] at t1
    exact e2 t t0 t1
  · rw [if_neg hq, if_neg hq, zcnt_congr (n := v.n.toNat) (f := dGot L D1 D2 e A) (g := dGot L D1 D2 e' A) (fun i i0 i1 => e2 i i0 (by omega)), zcnt_congr (n := v.n.toNat) (f := D1 e A) (g := D1 e' A) (fun i i0 i1 => e1 i i0 (by omega))]
theorem Eqv.quant {R : Int} {ra : Int → Int} {n : Int} (L0 : 0 ≤ L) (h1 : Eqv n R ra L 1 D1) (h2 : Eqv n R ra (L + 1) 0 D2) : Eqv n R ra L (bR q) (dQ n q L D1 D2) := by
  intro π ρ hp e A A' he hA
  have e1 : ∀ x, 0 ≤ x → x < n → D1 (fun j => π (e j)) A' (π x) = D1 e A x := fun x x0 x1 => by
    have := h1 π ρ hp e A A' he hA x x0 (by rw [npw_1]; exact x1)
    rw [show pt n π (1 : Int).toNat x = π x from pt_1 hp x0 x1] at this
    exact this
  have e2 : ∀ x, 0 ≤ x → x < n → dGot L D1 D2 (fun j => π (e j)) A' (π x) = dGot L D1 D2 e A x := fun x x0 x1 => by
    unfold dGot
    have hu : eUp (fun j => π (e j)) L (π x) = fun j => π (eUp e L x j) := by
      funext j
      unfold eUp
      by_cases hj : j = L
      · rw [if_pos hj, if_pos hj]
      · rw [if_neg hj, if_neg hj]
    rw [e1 x x0 x1, hu]
    congr 1
    exact pe_at0 (h2 π ρ hp (eUp e L x) A A' (fun j j0 j1 => by
      unfold eUp
      by_cases hj : j = L
      · rw [if_pos hj]; exact ⟨x0, x1⟩
      · rw [if_neg hj]; exact he j j0 (by omega)) hA)
  intro t t0 t1
  unfold dQ
  by_cases hq : q = 5
  · rw [if_pos hq, if_pos hq]
    rw [bR, if_pos hq, npw_1] at t1
    rw [bR, if_pos hq, show pt n π (1 : Int).toNat t = π t from pt_1 hp t0 t1]
    exact e2 t t0 t1
  · rw [if_neg hq, if_neg hq, pe_atomcnt hp e2, pe_atomcnt hp e1]
theorem sg_bind (h1 : Sg v cd rc (dp + 1) L (a + 1) c a' c' 1 D1) (h2 : Sg v cd rc (dp + 1) (L + 1) c b (c' + 1) b' 0 D2) (a0 : 0 ≤ a) (L0 : 0 ≤ L) (d0 : 0 ≤ dp) (d20 : dp < 20) (hsL : v.sl L = dp) (hsl : ∀ j, 0 ≤ j → j < L → v.sl j < dp) (hop : cd.op a = 45) (harg : cd.arg a = dp) (hmd : cd.md a = c) (hen : cd.en a = b) (hsg : cd.sg a = if q = 5 then 39 else 4 + q) (q0 : 0 ≤ q) (q5 : q ≤ 5) (hd1 : rc.1 c' = 3) (hw1 : rc.2.1 c' = b' + 1) (hd2 : rc.1 b' = 4) (hw2 : rc.2.1 b' = q) (hM : MOk v cd a L q (dQ v.n q L D1 D2)) : Sg v cd rc dp L a b a' (b' + 1) (bR q) (dQ v.n q L D1 D2) := by
  have hb1 := h1.r_b
  have hb2 := h2.r_b
  have hR1 := h1.2.2.2.1
  have hR2 := h2.2.2.2.1
  rw [npw_1] at hR1
  rw [npw_0] at hR2
  refine ⟨h1.1, h1.2.1, cseg_bind h1.2.2.1 h2.2.2.1 a0 (by omega) (by omega) hop (by rw [hsL]; exact harg) hmd hen hsg q0 q5 (by omega) (by omega) (fun j j0 j1 => by have := hsl j j0 j1; omega) hM, ?_, h1.2.2.2.2.1.quant h1.1.1 h2.2.2.2.2.1 (by omega) (by omega), fun k k0 k1 hk => ?_, h1.2.2.2.2.2.2.quant L0 h2.2.2.2.2.2.2⟩
  · have := seg_quant (m := (20 - dp).toNat) hR1 hR2 (by omega) (by omega) hd1 hw1 hd2 hw2 q0 q5
    rw [bW_eq]
    exact this
  · by_cases ka : k = a
    · rw [ka, hop] at hk; omega
    · by_cases kc : k < c
      · obtain ⟨g1, g2, g3⟩ := h1.2.2.2.2.2.1 k (by omega) kc hk
        exact ⟨g1, g2, fun h => g3 (by omega)⟩
      · obtain ⟨g1, g2, g3⟩ := h2.2.2.2.2.2.1 k (by omega) k1 hk
        refine ⟨g1, g2, fun h => ?_⟩
        obtain ⟨j, j0, j1, j2⟩ := g3 (by omega)
        refine ⟨j, j0, ?_, j2⟩
        by_cases hj : j = L
        · rw [hj, hsL] at j2; omega
        · omega
end BIND
