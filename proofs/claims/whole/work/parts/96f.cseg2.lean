/-! SEGMENTS of the class's code: each operator. -/
section CSEG
variable {v : Wd} {cd : Cd} {a b c L r r1 r2 : Int} {m m1 m2 : Nat} {D D1 D2 : Dn}
theorem c_app {σ : zS} {c : Nat} {at_ x : Int} (hC : CC σ c at_ (at_ + 1) cd) (hx : cd.op at_ = x) : zC c = true ∧ 0 ≤ at_ ∧ at_ < 200 ∧ gI σ (c + 1) at_ = x ∧ gI σ (c + 2) at_ = cd.arg at_ ∧ gI σ (c + 3) at_ = cd.sg at_ := by
  obtain ⟨c1, c2, c3, c4⟩ := hC
  obtain ⟨e1, e2, e3, -⟩ := c4 at_ (by omega) (by omega)
  exact ⟨c1, c2, by omega, by rw [e1]; exact hx, e2, e3⟩
theorem cseg_rel {q : Int} (a0 : 0 ≤ a) (hc : cd.op a = 44) (hq : cd.arg a = q) (q0 : 0 ≤ q) (q1 : q < v.R) (hr : v.ra q = r) (r0 : 0 ≤ r) (r3 : r ≤ 3) : CSeg v cd a (a + 1) L 0 r (fun _ A t => A (125 * q + t)) := by
  refine cseg_leaf a0 r0 r3 (by rw [hc]; decide) (by rw [hc]; decide) fun σ c w e A H hC hS hH => ?_
  obtain ⟨g1, g2, g3, g4, g5, g6⟩ := c_app hC hc
  obtain ⟨s1, ⟨s2, s2'⟩, s3, s4, -⟩ := hS
  obtain ⟨k1, k2, k3, k4⟩ := s2' q q0 q1
  obtain ⟨t, ht, p⟩ := c_rel (C := bs w) (r := q) s1 s3 s4 hH q0 (by omega) (k1.trans hr) r0 r3
  refine ⟨t, ?_, p.1, p.2.1, fun β hb cb u u0 u1 => ?_, p.2.2.2⟩
  · unfold f_114
    rw [zg_pos g1, zg_pos ⟨g2, g3⟩, g4, if_neg (by decide), if_pos (by decide), g5, hq, zb_of ht]
  · rw [p.2.2.1 β hb cb u u0 u1]
    exact k4 u u0 (by rw [hr]; exact u1) β hb
theorem cseg_const {op : Int} {x : Bool} (a0 : 0 ≤ a) (hc : cd.op a = op) (h : (op = 15 ∧ r = 1 ∧ x = false) ∨ (op = 16 ∧ r = 1 ∧ x = true) ∨ (op = 18 ∧ r = 0 ∧ x = true) ∨ (op = 19 ∧ r = 0 ∧ x = false)) : CSeg v cd a (a + 1) L 0 r (fun _ _ _ => x) := by
  have ht8 : t_114_8 op = 184 := by rcases h with ⟨rfl, -⟩ | ⟨rfl, -⟩ | ⟨rfl, -⟩ | ⟨rfl, -⟩ <;> decide
  refine cseg_leaf a0 (by omega) (by omega) (by rw [hc]; omega) (by rw [hc]; omega) fun σ c w e A H hC hS hH => ?_
  obtain ⟨g1, g2, g3, g4, g5, g6⟩ := c_app hC hc
  obtain ⟨t, ht, p⟩ := c_const (C := bs w) (v2 := gI σ 20 0) (w := w) hS.1 hS.2.2.1 hS.2.2.2.1 hH h
  refine ⟨t, ?_, p⟩
  unfold f_114
  rw [zg_pos g1, zg_pos ⟨g2, g3⟩, g4, if_pos ht8, if_neg (by omega), zb_of ht]
theorem cseg_iden (a0 : 0 ≤ a) (hc : cd.op a = 17) : CSeg v cd a (a + 1) L 0 2 (fun _ _ => vIden v.n) := by
  refine cseg_leaf a0 (by omega) (by omega) (by rw [hc]; decide) (by rw [hc]; decide) fun σ c w e A H hC hS hH => ?_
  obtain ⟨g1, g2, g3, g4, g5, g6⟩ := c_app hC hc
  obtain ⟨t, ht, p⟩ := c_iden (C := bs w) (v2 := gI σ 20 0) hS.1 hS.2.2.1 hS.2.2.2.1 hH
  refine ⟨t, ?_, p⟩
  unfold f_114
  rw [zg_pos g1, zg_pos ⟨g2, g3⟩, g4, if_pos (by decide), if_neg (by decide), zb_of ht]
theorem cseg_var {j : Int} (a0 : 0 ≤ a) (hc : cd.op a = 43) (hj : cd.arg a = v.sl j) (j0 : 0 ≤ j) (j1 : j < L) : CSeg v cd a (a + 1) L 0 1 (fun e _ t => decide (t = e j)) := by
  refine cseg_leaf a0 (by omega) (by omega) (by rw [hc]; decide) (by rw [hc]; decide) fun σ c w e A H hC hS hH => ?_
  obtain ⟨g1, g2, g3, g4, g5, g6⟩ := c_app hC hc
  obtain ⟨k1, k2, k3, k4, k5⟩ := hS.2.2.2.2.1.2 j j0 j1
  obtain ⟨t, ht, p⟩ := c_var (C := bs w) (x := e j) hS.1 hS.2.2.1 hS.2.2.2.1 hH k4 k5
  refine ⟨t, ?_, p⟩
  unfold f_114
  rw [zg_pos g1, zg_pos ⟨g2, g3⟩, g4, if_pos (by decide), if_pos rfl, g5, hj, zg_pos ⟨k1, k2⟩, k3, zb_of ht]
theorem cseg_not (h1 : CSeg v cd a b L m 0 D1) (hc : cd.op b = 9) : CSeg v cd a (b + 1) L m 0 (fun e A _ => !D1 e A 0) := by
  refine cseg_un h1 (by omega) (by omega) (by rw [hc]; decide) (by rw [hc]; decide) fun σ c w e A H hC hO => ?_
  obtain ⟨g1, g2, g3, g4, g5, g6⟩ := c_app hC hc
  obtain ⟨t, ht, p⟩ := c_not hO
  refine ⟨t, ?_, p⟩
  unfold f_114
  rw [zg_pos g1, zg_pos ⟨g2, g3⟩, g4, if_neg (by decide), if_neg (by decide), if_neg (by decide), if_neg (by decide), if_pos (by decide), zb_of ht]
theorem cseg_mult {q : Int} (h1 : CSeg v cd a b L m r1 D1) (hc : cd.op b = 4 + q) (q1 : 1 ≤ q) (q4 : q ≤ 4) : CSeg v cd a (b + 1) L m 0 (fun e A _ => vQty q (zcnt (v.n ^ r1.toNat).toNat (D1 e A)) (-1)) := by
  have x0 := h1.2.2.1
  have x3 := h1.2.2.2.1
  have ht8 : t_114_8 (4 + q) = 245 := by
    have hq : q = 1 ∨ q = 2 ∨ q = 3 ∨ q = 4 := by omega
    rcases hq with rfl | rfl | rfl | rfl <;> decide
  refine cseg_un h1 (by omega) (by omega) (by rw [hc]; omega) (by rw [hc]; omega) fun σ c w e A H hC hO => ?_
  obtain ⟨g1, g2, g3, g4, g5, g6⟩ := c_app hC hc
  obtain ⟨t, ht, p⟩ := c_judge hO x0 x3 q1 q4
  refine ⟨t, ?_, p⟩
  unfold f_114
  rw [zg_pos g1, zg_pos ⟨g2, g3⟩, g4, ht8, if_neg (by decide), if_neg (by decide), if_neg (by decide), if_pos rfl, zb_of ht]
theorem cseg_count {sg k : Int} (h1 : CSeg v cd a b L m r1 D1) (hc : cd.op b = 31) (hs : cd.sg b = sg) (hk : cd.arg b = k) (k0 : 0 ≤ k) (k1 : k < 1024) : CSeg v cd a (b + 1) L m 0 (fun e A _ => vSize (sg + 10) (zcnt (v.n ^ r1.toNat).toNat (D1 e A)) k) := by
  have x0 := h1.2.2.1
  have x3 := h1.2.2.2.1
  refine cseg_un h1 (by omega) (by omega) (by rw [hc]; decide) (by rw [hc]; decide) fun σ c w e A H hC hO => ?_
  obtain ⟨g1, g2, g3, g4, g5, g6⟩ := c_app hC hc
  have hsg : zR sg := by rw [← hs, ← g6]; exact zR_gI _ _ _
  obtain ⟨t, ht, p⟩ := c_size hO x0 x3 hsg k0 k1
  refine ⟨t, ?_, p⟩
  unfold f_114
  rw [zg_pos g1, zg_pos ⟨g2, g3⟩, g4, if_neg (by decide), if_neg (by decide), if_pos (by decide), g5, g6, hs, hk, zb_of ht]
theorem cseg_tilde (h1 : CSeg v cd a b L m 2 D1) (hc : cd.op b = 28) : CSeg v cd a (b + 1) L m 2 (fun e A => vTilde v.n (D1 e A)) := by
  refine cseg_un h1 (by omega) (by omega) (by rw [hc]; decide) (by rw [hc]; decide) fun σ c w e A H hC hO => ?_
  obtain ⟨g1, g2, g3, g4, g5, g6⟩ := c_app hC hc
  obtain ⟨t, ht, p⟩ := c_tilde hO
  refine ⟨t, ?_, p⟩
  unfold f_114
  rw [zg_pos g1, zg_pos ⟨g2, g3⟩, g4, if_neg (by decide), if_neg (by decide), if_neg (by decide), if_neg (by decide), if_pos (by decide), zb_of ht]
theorem cseg_hat (h1 : CSeg v cd a b L m 2 D1) (hc : cd.op b = 29) : CSeg v cd a (b + 1) L m 2 (fun e A => vHat v.n (D1 e A)) := by
  refine cseg_un h1 (by omega) (by omega) (by rw [hc]; decide) (by rw [hc]; decide) fun σ c w e A H hC hO => ?_
  obtain ⟨g1, g2, g3, g4, g5, g6⟩ := c_app hC hc
  obtain ⟨t, ht, p⟩ := c_hat hO
  refine ⟨t, ?_, p⟩
  unfold f_114
  rw [zg_pos g1, zg_pos ⟨g2, g3⟩, g4, if_neg (by decide), if_neg (by decide), if_neg (by decide), if_neg (by decide), if_pos (by decide), zb_of ht]
theorem cseg_star (h1 : CSeg v cd a b L m 2 D1) (hc : cd.op b = 30) : CSeg v cd a (b + 1) L m 2 (fun e A => vStar v.n (D1 e A)) := by
  refine cseg_un h1 (by omega) (by omega) (by rw [hc]; decide) (by rw [hc]; decide) fun σ c w e A H hC hO => ?_
  obtain ⟨g1, g2, g3, g4, g5, g6⟩ := c_app hC hc
  obtain ⟨t, ht, p⟩ := c_star hO
  refine ⟨t, ?_, p⟩
  unfold f_114
  rw [zg_pos g1, zg_pos ⟨g2, g3⟩, g4, if_neg (by decide), if_neg (by decide), if_neg (by decide), if_neg (by decide), if_pos (by decide), zb_of ht]
theorem cseg_in (h1 : CSeg v cd a c L m1 r1 D1) (h2 : CSeg v cd c b L m2 r1 D2) (hm1 : m1 ≤ m) (hm2 : m2 + 1 ≤ m) (hc : cd.op b = 14) : CSeg v cd a (b + 1) L m 0 (fun e A _ => vIn (v.n ^ r1.toNat) (D1 e A) (D2 e A)) := by
  have x0 := h1.2.2.1
  have x3 := h1.2.2.2.1
  refine cseg_bin h1 h2 hm1 hm2 (by omega) (by omega) (by rw [hc]; decide) (by rw [hc]; decide) fun σ c w e A H hC hO => ?_
  obtain ⟨g1, g2, g3, g4, g5, g6⟩ := c_app hC hc
  obtain ⟨t, ht, p⟩ := c_compare (op := 14) hO x0 x3 (by decide)
  refine ⟨t, ?_, p.1, p.2.1, fun β hb cb u u0 u1 => ?_, p.2.2.2⟩
  · unfold f_114
    rw [zg_pos g1, zg_pos ⟨g2, g3⟩, g4, if_neg (by decide), if_neg (by decide), if_neg (by decide), if_neg (by decide), if_neg (by decide), if_pos (by decide), zb_of ht]
  · rw [p.2.2.1 β hb cb u u0 u1]
    exact if_neg (by decide)
theorem cseg_eq (h1 : CSeg v cd a c L m1 r1 D1) (h2 : CSeg v cd c b L m2 r1 D2) (hm1 : m1 ≤ m) (hm2 : m2 + 1 ≤ m) (hc : cd.op b = 32) : CSeg v cd a (b + 1) L m 0 (fun e A _ => vEq (v.n ^ r1.toNat) (D1 e A) (D2 e A)) := by
  have x0 := h1.2.2.1
  have x3 := h1.2.2.2.1
  refine cseg_bin h1 h2 hm1 hm2 (by omega) (by omega) (by rw [hc]; decide) (by rw [hc]; decide) fun σ c w e A H hC hO => ?_
  obtain ⟨g1, g2, g3, g4, g5, g6⟩ := c_app hC hc
  obtain ⟨t, ht, p⟩ := c_compare (op := 32) hO x0 x3 (by decide)
  refine ⟨t, ?_, p.1, p.2.1, fun β hb cb u u0 u1 => ?_, p.2.2.2⟩
  · unfold f_114
    rw [zg_pos g1, zg_pos ⟨g2, g3⟩, g4, if_neg (by decide), if_neg (by decide), if_neg (by decide), if_neg (by decide), if_neg (by decide), if_pos (by decide), zb_of ht]
  · rw [p.2.2.1 β hb cb u u0 u1]
    exact if_pos rfl
theorem cseg_dot (h1 : CSeg v cd a c L m1 r1 D1) (h2 : CSeg v cd c b L m2 r2 D2) (hm1 : m1 ≤ m) (hm2 : m2 + 1 ≤ m) (hc : cd.op b = 27) (x1 : 1 ≤ r1) (y1 : 1 ≤ r2) (hxy : r1 + r2 - 2 ≤ 3) (hxy0 : 0 ≤ r1 + r2 - 2) : CSeg v cd a (b + 1) L m (r1 + r2 - 2) (fun e A => vDot v.n (v.n ^ (r2 - 1).toNat) (D1 e A) (D2 e A)) := by
  have x3 := h1.2.2.2.1
  have y3 := h2.2.2.2.1
  refine cseg_bin h1 h2 hm1 hm2 (by omega) (by omega) (by rw [hc]; decide) (by rw [hc]; decide) fun σ c w e A H hC hO => ?_
  obtain ⟨g1, g2, g3, g4, g5, g6⟩ := c_app hC hc
  obtain ⟨t, ht, p⟩ := c_join hO x1 y1 x3 y3 hxy
  refine ⟨t, ?_, p⟩
  unfold f_114
  rw [zg_pos g1, zg_pos ⟨g2, g3⟩, g4, if_neg (by decide), if_neg (by decide), if_neg (by decide), if_neg (by decide), if_neg (by decide), if_neg (by decide), if_pos (by decide), zb_of ht]
theorem cseg_arrow (h1 : CSeg v cd a c L m1 r1 D1) (h2 : CSeg v cd c b L m2 r2 D2) (hm1 : m1 ≤ m) (hm2 : m2 + 1 ≤ m) (hc : cd.op b = 20) (x1 : 1 ≤ r1) (y1 : 1 ≤ r2) (hxy : r1 + r2 ≤ 3) : CSeg v cd a (b + 1) L m (r1 + r2) (fun e A => vArrow (v.n ^ r2.toNat) (D1 e A) (D2 e A)) := by
  refine cseg_bin h1 h2 hm1 hm2 (by omega) (by omega) (by rw [hc]; decide) (by rw [hc]; decide) fun σ c w e A H hC hO => ?_
  obtain ⟨g1, g2, g3, g4, g5, g6⟩ := c_app hC hc
  obtain ⟨t, ht, p⟩ := c_multiply hO x1 y1 hxy
  refine ⟨t, ?_, p⟩
  unfold f_114
  rw [zg_pos g1, zg_pos ⟨g2, g3⟩, g4, if_neg (by decide), if_neg (by decide), if_neg (by decide), if_neg (by decide), if_neg (by decide), if_neg (by decide), if_neg (by decide), if_pos (by decide), zb_of ht]
theorem cseg_first (h1 : CSeg v cd a c L m1 1 D1) (h2 : CSeg v cd c b L m2 r2 D2) (hm1 : m1 ≤ m) (hm2 : m2 + 1 ≤ m) (hc : cd.op b = 22) (y1 : 1 ≤ r2) : CSeg v cd a (b + 1) L m r2 (fun e A => vFirst (v.n ^ (r2 - 1).toNat) (D1 e A) (D2 e A)) := by
  have y3 := h2.2.2.2.1
  refine cseg_bin h1 h2 hm1 hm2 (by omega) (by omega) (by rw [hc]; decide) (by rw [hc]; decide) fun σ c w e A H hC hO => ?_
  obtain ⟨g1, g2, g3, g4, g5, g6⟩ := c_app hC hc
  obtain ⟨t, ht, p⟩ := c_firsts hO y1 y3
  refine ⟨t, ?_, p⟩
  unfold f_114
  rw [zg_pos g1, zg_pos ⟨g2, g3⟩, g4, if_neg (by decide), if_neg (by decide), if_neg (by decide), if_neg (by decide), if_neg (by decide), if_neg (by decide), if_neg (by decide), if_neg (by decide), if_pos (by decide), zb_of ht]
theorem c_app290 {σ τ : zS} {c : Nat} {x : Int} (g1 : zC c = true) (g2 : 0 ≤ b) (g3 : b < 200) (g4 : gI σ (c + 1) b = x) (hx : t_114_8 x = 290) (h : f_127 x σ = some ((), τ)) : f_114 c b σ = some ((), τ) := by
  unfold f_114
  rw [zg_pos g1, zg_pos ⟨g2, g3⟩, g4, hx, if_neg (by decide), if_neg (by decide), if_neg (by decide), if_neg (by decide), if_neg (by decide), if_neg (by decide), if_neg (by decide), if_neg (by decide), if_neg (by decide), if_pos rfl, zb_of h]
theorem cseg_last (h1 : CSeg v cd a c L m1 r1 D1) (h2 : CSeg v cd c b L m2 1 D2) (hm1 : m1 ≤ m) (hm2 : m2 + 1 ≤ m) (hc : cd.op b = 23) (x1 : 1 ≤ r1) : CSeg v cd a (b + 1) L m r1 (fun e A => vLast v.n (D1 e A) (D2 e A)) := by
  have x3 := h1.2.2.2.1
  refine cseg_bin h1 h2 hm1 hm2 (by omega) (by omega) (by rw [hc]; decide) (by rw [hc]; decide) fun σ c w e A H hC hO => ?_
  obtain ⟨g1, g2, g3, g4, g5, g6⟩ := c_app hC hc
  obtain ⟨t, ht, p⟩ := c_lasts hO x1 x3
  exact ⟨t, c_app290 g1 g2 g3 g4 (by decide) ht, p⟩
theorem cseg_over (h1 : CSeg v cd a c L m1 2 D1) (h2 : CSeg v cd c b L m2 2 D2) (hm1 : m1 ≤ m) (hm2 : m2 + 1 ≤ m) (hc : cd.op b = 21) : CSeg v cd a (b + 1) L m 2 (fun e A => vOver v.n (D1 e A) (D2 e A)) := by
  refine cseg_bin h1 h2 hm1 hm2 (by omega) (by omega) (by rw [hc]; decide) (by rw [hc]; decide) fun σ c w e A H hC hO => ?_
  obtain ⟨g1, g2, g3, g4, g5, g6⟩ := c_app hC hc
  obtain ⟨t, ht, p⟩ := c_override hO
  exact ⟨t, c_app290 g1 g2 g3 g4 (by decide) ht, p⟩
theorem cseg_word {op : Int} (h1 : CSeg v cd a c L m1 r1 D1) (h2 : CSeg v cd c b L m2 r1 D2) (hm1 : m1 ≤ m) (hm2 : m2 + 1 ≤ m) (hc : cd.op b = op) (hop : op = 13 ∨ op = 24 ∨ op = 25 ∨ op = 26) : CSeg v cd a (b + 1) L m r1 (fun e A t => vJ op (D1 e A t) (D2 e A t)) := by
  have x0 := h1.2.2.1
  have x3 := h1.2.2.2.1
  have ht8 : t_114_8 op = 290 := by rcases hop with rfl | rfl | rfl | rfl <;> decide
  refine cseg_bin h1 h2 hm1 hm2 x0 x3 (by rw [hc]; omega) (by rw [hc]; omega) fun σ c w e A H hC hO => ?_
  obtain ⟨g1, g2, g3, g4, g5, g6⟩ := c_app hC hc
  obtain ⟨t, ht, p⟩ := c_wordwise hO x0 x3 hop
  exact ⟨t, c_app290 g1 g2 g3 g4 ht8 ht, p⟩
end CSEG
