/-! THE CLASS'S MACHINE: constants, variables and relations. -/
section COPS
variable {C : Nat → Prop} {s : zS} {n H a b : Int} {X Y : Nat → Vl}
theorem CR.push {e t : zS} {r : Int} {V : Nat → Vl} (h17 : gI s 17 3 = H) (H0 : 0 ≤ H) (H1 : H < 22) (ho : oH H s e) (hr : zR r) (ht : t = sI (sI e 19 H r) 17 3 (H + 1)) (hv : CVl C e H (n ^ r.toNat) V) : CR C s t n H r V := by
  rw [ht]
  refine ⟨gI_same ⟨by omega, by omega⟩, by rw [gI_nc (by decide), gI_same hr], hv, fun i hi => ho.2 i (Or.inl hi), fun j hj => ?_⟩
  rw [gI_nc (by decide), gI_ni (by omega), ho.i]
theorem c_fillw {v1 v2 v3 N : Int} {w : BitVec 64} (H0 : 0 ≤ H) (H1 : H < 22) (hN0 : 0 ≤ N) (hN : N ≤ 125) : ∃ t, zlp (fun (q : Int × zS) => b_115_71 v1 v2 v3 (H * 125) N w q.1 q.2) zF (0, s) = some t ∧ oH H s t ∧ ∀ u, 0 ≤ u → u < N → gJ t 18 (H * 125 + u) = w := by
  obtain ⟨t, ht, q1, q2⟩ := zlp_F (B := fun (q : Int × zS) => b_115_71 v1 v2 v3 (H * 125) N w q.1 q.2) (I := fun q => 0 ≤ q.1 ∧ q.1 ≤ N ∧ oH H s q.2 ∧ ∀ u, 0 ≤ u → u < q.1 → gJ q.2 18 (H * 125 + u) = w) (μ := fun q => (N - q.1).toNat) (Q := fun t => oH H s t ∧ ∀ u, 0 ≤ u → u < N → gJ t 18 (H * 125 + u) = w) (by
    rintro ⟨i, σ⟩ ⟨a1, a2, a3, a4⟩
    dsimp only at a1 a2 a3 a4 ⊢
    unfold b_115_71
    rw [zg_pos ⟨by omega, by omega⟩, zg_pos ⟨by omega, by omega⟩]
    by_cases hc : i < N
    · left
      rw [if_pos hc, zg_pos ⟨by omega, by omega⟩]
      refine ⟨_, rfl, ⟨by dsimp only; omega, by dsimp only; omega, a3.set (by omega) (by omega), fun u u0 u1 => ?_⟩, by dsimp only; omega⟩
      dsimp only at u1 ⊢
      rw [gJ_if]
      by_cases hu : u = i
      · rw [if_pos (by omega)]
      · rw [if_neg (by omega)]; exact a4 u u0 (by omega)
    · right
      rw [if_neg hc]
      exact ⟨_, rfl, a3, fun u u0 u1 => a4 u u0 (by omega)⟩) (s := (0, s)) ⟨by dsimp only; omega, by dsimp only; omega, oH.rf _ _, fun u u0 u1 => by dsimp only at u1; omega⟩ (by dsimp only; omega)
  exact ⟨t, ht, q1, q2⟩
theorem npw_1 : n ^ (1 : Int).toNat = n := by show n ^ 1 = n; rw [Int.pow_succ, Int.pow_zero, Int.one_mul]
theorem npw_0 : n ^ (0 : Int).toNat = 1 := Int.pow_zero n
theorem c_114 {v1 r : Int} {e : zS} (h1 : zR v1) (h17 : v1 ≠ 17) (eh : gI e 17 3 = H) (H0 : 0 ≤ H) (H1 : H < 22) : j_115_114 v1 r (H * 125) e = some ((), sI (sI e 19 H r) 17 3 (H + 1)) := by
  unfold j_115_114
  rw [eh, zg_pos ⟨H0, H1⟩, zg_pos h1, if_neg h17]
/-- none, univ, true, false -/
theorem c_const {op v2 r : Int} {w : BitVec 64} {x : Bool} (hC : CN s n) (h17 : gI s 17 3 = H) (H0 : 0 ≤ H) (H1 : H < 22) (h : (op = 15 ∧ r = 1 ∧ x = false) ∨ (op = 16 ∧ r = 1 ∧ x = true) ∨ (op = 18 ∧ r = 0 ∧ x = true) ∨ (op = 19 ∧ r = 0 ∧ x = false)) : ∃ t, f_115 op v2 s = some ((), t) ∧ CR C s t n H r (fun _ _ => x) := by
  have r0 : 0 ≤ r := by omega
  have r1 : r ≤ 1 := by omega
  have hN := npw_b hC.2.1 hC.2.2.1 r0 (by omega)
  have sr := hC.size r0 (by omega)
  obtain ⟨t, ht, o1, v1⟩ := c_fillw (s := s) (v1 := op) (v2 := v2) (v3 := r) (N := n ^ r.toNat) (w := if op = 16 ∨ op = 18 then 18446744073709551615#64 else 0#64) H0 H1 (by omega) hN.2
  have et : gI t 17 3 = H := by rw [o1.i]; exact h17
  have e27 : j_115_27 op v2 r s = some ((), sI (sI t 19 H r) 17 3 (H + 1)) := by
    unfold j_115_27
    rw [zo_of sr, zg_pos ⟨by omega, by omega⟩, h17]
    by_cases h16 : op = 16
    · rw [if_pos h16]
      unfold j_115_59 j_115_66
      rw [if_pos (Or.inl h16)] at ht
      rw [zo_of ht, zg_pos ⟨by omega, by omega⟩, if_neg (by omega)]
      exact c_114 ⟨by omega, by omega⟩ (by omega) et H0 H1
    · rw [if_neg h16]
      by_cases h18 : op = 18
      · rw [if_pos h18]
        unfold j_115_59 j_115_66
        rw [if_pos (Or.inr h18)] at ht
        rw [zo_of ht, zg_pos ⟨by omega, by omega⟩, if_neg (by omega)]
        exact c_114 ⟨by omega, by omega⟩ (by omega) et H0 H1
      · rw [if_neg h18]
        unfold j_115_66
        rw [if_neg (by omega)] at ht
        rw [zo_of ht, zg_pos ⟨by omega, by omega⟩, if_neg (by omega)]
        exact c_114 ⟨by omega, by omega⟩ (by omega) et H0 H1
  refine ⟨_, ?_, CR.push h17 H0 H1 o1 ⟨by omega, by omega⟩ rfl fun β hb cb u u0 u1 => ?_⟩
  · unfold f_115 j_115_12
    rw [zg_pos ⟨by omega, by omega⟩]
    rcases h with ⟨h1, h2, h3⟩ | ⟨h1, h2, h3⟩ | ⟨h1, h2, h3⟩ | ⟨h1, h2, h3⟩
    · rw [if_neg (by omega), if_neg (by omega), if_neg (by omega)]
      rw [h2] at e27 ⊢
      exact e27
    · rw [if_neg (by omega), if_neg (by omega), if_neg (by omega)]
      rw [h2] at e27 ⊢
      exact e27
    · rw [if_pos h1]
      rw [h2] at e27 ⊢
      exact e27
    · rw [if_neg (by omega), if_pos h1]
      rw [h2] at e27 ⊢
      exact e27
  · show (gJ t 18 (H * 125 + u)).getLsbD β = x
    rw [v1 u u0 u1]
    rcases h with ⟨h1, h2, h3⟩ | ⟨h1, h2, h3⟩ | ⟨h1, h2, h3⟩ | ⟨h1, h2, h3⟩
    · rw [if_neg (by omega), gb_zero, h3]
    · rw [if_pos (by omega), gb_ones hb, h3]
    · rw [if_pos (by omega), gb_ones hb, h3]
    · rw [if_neg (by omega), gb_zero, h3]
/-- a variable -/
theorem c_var {x : Int} (hC : CN s n) (h17 : gI s 17 3 = H) (H0 : 0 ≤ H) (H1 : H < 22) (x0 : 0 ≤ x) (x1 : x < n) : ∃ t, f_115 43 x s = some ((), t) ∧ CR C s t n H 1 (fun _ t => decide (t = x)) := by
  have n5 := hC.2.2.1
  have sr := hC.size (a := 1) (by omega) (by omega)
  rw [npw_1] at sr
  obtain ⟨t, ht, o1, v1⟩ := c_fillw (s := s) (v1 := 43) (v2 := x) (v3 := 1) (N := n) (w := 0#64) H0 H1 (by omega) (by omega)
  have o2 : oH H s (sJ t 18 (H * 125 + x) (18446744073709551615#64)) := o1.set (by omega) (by omega)
  have et : gI (sJ t 18 (H * 125 + x) (18446744073709551615#64)) 17 3 = H := by rw [o2.i]; exact h17
  refine ⟨_, ?_, CR.push h17 H0 H1 o2 (r := 1) ⟨by omega, by omega⟩ rfl fun β hb cb u u0 u1 => ?_⟩
  · unfold f_115 j_115_27 j_115_66
    rw [zg_pos (by decide), if_neg (by decide), if_neg (by decide), if_neg (by decide), zo_of sr, zg_pos (by decide), if_neg (by decide), if_neg (by decide), h17, zo_of ht, zg_pos (by decide), if_pos rfl, zg_pos ⟨by omega, by omega⟩]
    exact c_114 (by decide) (by decide) et H0 H1
  · rw [npw_1] at u1
    rw [gb_set]
    by_cases hu : u = x
    · rw [if_pos (by omega), gb_ones hb, decide_eq_true hu]
    · rw [if_neg (by omega), decide_eq_false hu]
      show (gJ t 18 (H * 125 + u)).getLsbD β = _
      rw [v1 u u0 u1, gb_zero]
/-- iden -/
theorem c_iden {v2 : Int} (hC : CN s n) (h17 : gI s 17 3 = H) (H0 : 0 ≤ H) (H1 : H < 22) : ∃ t, f_115 17 v2 s = some ((), t) ∧ CR C s t n H 2 (fun _ => vIden n) := by
  have nn := nn25 hC.2.1 hC.2.2.1
  have sr := hC.size (a := 2) (by omega) (by omega)
  rw [npw_2] at sr
  obtain ⟨t, ht, o1, v1⟩ := c_fillw (s := s) (v1 := 17) (v2 := v2) (v3 := 2) (N := n * n) (w := 0#64) H0 H1 (by omega) (by omega)
  have et : gI t 17 3 = H := by rw [o1.i]; exact h17
  have hC2 : CN (sI (sI t 19 H 2) 17 3 (H + 1)) n := hC.eq (by rw [gI_nc (by decide), gI_nc (by decide), o1.i]) (fun _ => by rw [gI_nc (by decide), gI_nc (by decide), o1.i])
  obtain ⟨t2, ht2, r1, r2⟩ := c_addIden (C := C) (X := fun _ _ => false) hC2 H0 H1 (fun β hb cb u u0 u1 => by
    show (gJ t 18 (H * 125 + u)).getLsbD β = false
    rw [v1 u u0 u1, gb_zero])
  refine ⟨t2, ?_, ?_, ?_, ?_, fun i hi => ?_, fun j hj => ?_⟩
  · unfold f_115 j_115_27 j_115_66 j_115_114
    rw [zg_pos (by decide), if_neg (by decide), if_neg (by decide), if_pos rfl, zo_of sr, zg_pos (by decide), if_neg (by decide), if_neg (by decide), h17, zo_of ht, zg_pos (by decide), if_neg (by decide), et, zg_pos ⟨H0, H1⟩, zg_pos (by decide), if_pos rfl, zb_of ht2]
  · rw [r1.i, gI_same ⟨by omega, by omega⟩]
  · rw [r1.i, gI_nc (by decide), gI_same ⟨by omega, by omega⟩]
  · rw [npw_2]
    intro β hb cb u u0 u1
    rw [r2 β hb cb u u0 u1]
    exact Bool.false_or _
  · rw [r1.2 i (Or.inl hi)]
    exact o1.2 i (Or.inl hi)
  · rw [r1.i, gI_nc (by decide), gI_ni (by omega), o1.i]
/-- a relation -/
theorem c_rel {r ar : Int} (hC : CN s n) (h17 : gI s 17 3 = H) (H0 : 0 ≤ H) (H1 : H < 22) (r0 : 0 ≤ r) (r1 : r < 8) (har : gI s 4 r = ar) (ar0 : 0 ≤ ar) (ar3 : ar ≤ 3) : ∃ t, f_117 r s = some ((), t) ∧ CR C s t n H ar (fun β t => gb s 6 (125 * r + t) β) := by
  have hN := npw_b hC.2.1 hC.2.2.1 ar0 ar3
  have sr := hC.size ar0 ar3
  generalize hNN : n ^ ar.toNat = N at *
  obtain ⟨t, ht, q1, q2⟩ := zlp_F (B := fun (q : Int × zS) => b_117_34 r (H * 125) (r * 125) N q.1 q.2) (I := fun q => 0 ≤ q.1 ∧ q.1 ≤ N ∧ oH H s q.2 ∧ ∀ u, 0 ≤ u → u < q.1 → gJ q.2 18 (H * 125 + u) = gJ s 6 (r * 125 + u)) (μ := fun q => (N - q.1).toNat) (Q := fun t => oH H s t ∧ ∀ u, 0 ≤ u → u < N → gJ t 18 (H * 125 + u) = gJ s 6 (r * 125 + u)) (by
    rintro ⟨i, σ⟩ ⟨a1, a2, a3, a4⟩
    dsimp only at a1 a2 a3 a4 ⊢
    unfold b_117_34
    rw [zg_pos ⟨by omega, by omega⟩, zg_pos ⟨by omega, by omega⟩]
    by_cases hc : i < N
    · left
      rw [if_pos hc, zg_pos ⟨by omega, by omega⟩, zg_pos ⟨by omega, by omega⟩]
      refine ⟨_, rfl, ⟨by dsimp only; omega, by dsimp only; omega, a3.set (by omega) (by omega), fun u u0 u1 => ?_⟩, by dsimp only; omega⟩
      dsimp only at u1 ⊢
      rw [gJ_if]
      by_cases hu : u = i
      · rw [if_pos (by omega), hu, a3.1.j _ (by decide)]
      · rw [if_neg (by omega)]; exact a4 u u0 (by omega)
    · right
      rw [if_neg hc]
      exact ⟨_, rfl, a3, fun u u0 u1 => a4 u u0 (by omega)⟩) (s := (0, s)) ⟨by dsimp only; omega, by dsimp only; omega, oH.rf _ _, fun u u0 u1 => by dsimp only at u1; omega⟩ (by dsimp only; omega)
  have et : gI t 17 3 = H := by rw [q1.i]; exact h17
  have e4 : gI t 4 r = ar := by rw [q1.i]; exact har
  refine ⟨_, ?_, CR.push h17 H0 H1 q1 (r := ar) ⟨by omega, by omega⟩ rfl fun β hb cb u u0 u1 => ?_⟩
  · unfold f_117
    rw [zg_pos ⟨by omega, by omega⟩, har, zo_of sr, h17, zo_of ht, et, zg_pos ⟨H0, H1⟩, e4]
  · show (gJ t 18 (H * 125 + u)).getLsbD β = _
    rw [q2 u u0 (by omega), Int.mul_comm r 125]
end COPS
