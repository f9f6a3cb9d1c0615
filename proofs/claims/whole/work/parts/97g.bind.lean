/-! SEGMENTS of the class's code: what binds, whole. -/
section BIND
variable {v : Wd} {cd : Cd} {a b c L : Int} {m m1 m2 : Nat} {D D1 D2 : Dn}
/-- what holds of a memo -/
def MOk (v : Wd) (cd : Cd) (a L q : Int) (D : Dn) : Prop := cd.mm a = -1 ∨ (0 ≤ cd.mm a ∧ cd.mm a < v.K ∧ 0 ≤ cd.us a ∧ v.W (cd.mm a) = bW v.n q ∧ ∀ (bd e : Int → Int) (A : Int → Bool), (∀ j, 0 ≤ j → j < L → bd (v.sl j) = e j ∧ 0 ≤ e j ∧ e j < v.n) → 0 ≤ plc (cd.us a) bd 20 ∧ plc (cd.us a) bd 20 < 25 ∧ ∀ i, 0 ≤ i → i < bW v.n q → v.F (cd.mm a) (plc (cd.us a) bd 20) A i = D e A i)
theorem CP.cx {σ τ ω : zS} {w : BitVec 64} {H r r1 : Int} {A : Nat → Int → Bool} {V V1 : Nat → Vl} (hp : CP w σ τ v L H r1 A V1) (h : CX τ ω v L H (H + 1) A) (h19 : gI ω 19 H = r) (hv : CVl (bs w) ω H (v.n ^ r.toNat) V) : CP w σ ω v L H r A V := by
  obtain ⟨p1, p2, p3, p4, p5, p6⟩ := hp
  obtain ⟨q1, q2, q3, q4, q5, q6, q7⟩ := h
  exact ⟨zfr_tr p1 q1, ⟨q2, h19, hv, p2.2.2.2.tr q3⟩, fun j j0 j1 => (q4 j j0 j1).trans (p3 j j0 j1), q5, fun p hp => (q6 p hp).trans (p5 p hp), fun p hp => (q7 p hp).trans (p6 p hp)⟩
theorem c_bind59 {σ : zS} {cc k : Nat} {d H q p : Int} {w : BitVec 64} {e : Int → Int} {A : Nat → Int → Bool} (h1 : CSeg v cd (a + 1) c L m1 1 D1) (h2 : CSeg v cd c b (L + 1) m2 0 D2) (hC : CC σ cc a b cd) (harg : cd.arg a = v.sl L) (hmd : cd.md a = c) (hen : cd.en a = b) (hsg : cd.sg a = if q = 5 then 39 else 4 + q) (q0 : 0 ≤ q) (q5 : q ≤ 5) (hS : CS σ v L H e A) (sl0 : 0 ≤ v.sl L) (sl1 : v.sl L < 20) (hsl : ∀ j, 0 ≤ j → j < L → v.sl j ≠ v.sl L) (hk1 : m1 + 1 ≤ k) (hk : m2 + 1 ≤ k) (d0 : 0 ≤ d) (hd1 : d + m1 ≤ 20) (hd : d + m2 ≤ 20) (hH1 : H + m1 ≤ 20) (hH : H + 1 + m2 ≤ 20) (hp : p = -1 ∨ ∃ k x, 0 ≤ k ∧ k < v.K ∧ 0 ≤ x ∧ x < 25 ∧ p = k * 25 + x ∧ v.W k = bW v.n q ∧ ∀ β, ∀ i, 0 ≤ i → i < bW v.n q → v.F k x (A β) i = dQ v.n q L D1 D2 e (A β) i) : ∃ τ, j_104_59 (f_103n k) cc a w d (bR q) p σ = some ((), τ) ∧ CP w σ τ v L H (bR q) A (fun β => dQ v.n q L D1 D2 e (A β)) := by
  have H0 := hS.2.2.2.1
  have ac := h1.2.1
  have cb := h2.2.1
  obtain ⟨c1, c2, c3, c4⟩ := id hC
  obtain ⟨-, -, -, o4, -, -, -⟩ := c4 a (by omega) (by omega)
  rw [hmd] at o4
  obtain ⟨τ1, e1, g1⟩ := c_run (w := w) (d := d) (k := k) h1 (hC.sub (by omega) (by omega)) hS hk1 d0 hd1 hH1
  have hS1 := hS.next g1
  have hC1 := hC.fr g1.1
  have hX := g1.2.1.2.2.1
  rw [npw_1] at hX
  have r0 : 0 ≤ bR q := by rw [bR]; split <;> omega
  have r1 : bR q ≤ 1 := by rw [bR]; split <;> omega
  obtain ⟨τ2, e2, g2⟩ : ∃ τ2, j_104_59 (f_103n k) cc a w d (bR q) p σ = j_104_111 (f_103n k) w (bR q) p τ2 ∧ CP w σ τ2 v L H (bR q) A (fun β => dQ v.n q L D1 D2 e (A β)) := by
    unfold j_104_59
    rw [zg_pos c1, zg_pos ⟨c2, by omega⟩, o4, zb_of e1, hS1.2.2.1, if_neg (by omega), zg_pos ⟨by omega, by omega⟩]
    by_cases hq : q = 5
    · obtain ⟨τ2, t1, t2, t3, t4⟩ := c_sift (d := d) (k := k) h2 hC1 (by omega) harg hmd hen hS1 H0 hX sl0 sl1 hsl hk d0 hd hH
      have hr : bR q = 1 := by rw [bR, if_pos hq]
      refine ⟨τ2, ?_, g1.cx t2 (by rw [t3, hr]; exact g1.2.1.2.1) ?_⟩
      · rw [if_pos hr, zb_of t1]
      · rw [hr, npw_1]
        intro β hb hw t t0 t1'
        rw [t4 β hb hw t t0 t1']
        exact (if_pos hq).symm
    · rw [if_neg hq] at hsg
      obtain ⟨τ2, t1, t2, t3, t4⟩ := c_quantify (d := d) (k := k) h2 hC1 (by omega) harg hmd hen hsg q0 (by omega) hS1 H0 hX sl0 sl1 hsl hk d0 hd hH
      have hr : bR q = 0 := by rw [bR, if_neg hq]
      refine ⟨τ2, ?_, g1.cx t2 (by rw [t3, hr]) ?_⟩
      · rw [if_neg (by omega), zb_of t1]
      · rw [hr, npw_0]
        intro β hb hw t t0 t1'
        rw [t4 β hb hw t t0 t1']
        exact (if_neg hq).symm
  have hS2 := hS.next g2
  rw [e2]
  unfold j_104_111
  rcases hp with hp | ⟨kk, x, k0, k1, x0, x1, hpk, hW, hF⟩
  · rw [hp, zg_pos (by decide), if_pos rfl]
    exact ⟨_, rfl, g2⟩
  · have K40 := hS.2.2.2.2.2.2.1
    obtain ⟨ω, w1, w2⟩ := g2.remember (p := p) hS2 H0 (by omega) r0 r1 k0 k1 x0 x1 hpk (by rw [bW_eq]; exact hW) (by rw [bW_eq]; exact hF)
    rw [zg_pos ⟨by omega, by omega⟩, if_neg (by omega), zb_of w1]
    exact ⟨_, rfl, w2⟩
theorem c_bind {σ : zS} {cc k : Nat} {d H q : Int} {w : BitVec 64} {e : Int → Int} {A : Nat → Int → Bool} (h1 : CSeg v cd (a + 1) c L m1 1 D1) (h2 : CSeg v cd c b (L + 1) m2 0 D2) (hC : CC σ cc a b cd) (harg : cd.arg a = v.sl L) (hmd : cd.md a = c) (hen : cd.en a = b) (hsg : cd.sg a = if q = 5 then 39 else 4 + q) (q0 : 0 ≤ q) (q5 : q ≤ 5) (hS : CS σ v L H e A) (sl0 : 0 ≤ v.sl L) (sl1 : v.sl L < 20) (hsl : ∀ j, 0 ≤ j → j < L → v.sl j ≠ v.sl L) (hk1 : m1 + 1 ≤ k) (hk : m2 + 1 ≤ k) (d0 : 0 ≤ d) (hd1 : d + m1 ≤ 20) (hd : d + m2 ≤ 20) (hH1 : H + m1 ≤ 20) (hH : H + 1 + m2 ≤ 20) (hM : MOk v cd a L q (dQ v.n q L D1 D2)) : ∃ τ, f_104 (f_103n k) cc a w d σ = some ((), τ) ∧ CP w σ τ v L H (bR q) A (fun β => dQ v.n q L D1 D2 e (A β)) := by
  have H0 := hS.2.2.2.1
  have ac := h1.2.1
  have cb := h2.2.1
  have n1 := hS.1.2.1
  have n5 := hS.1.2.2.1
  have K40 := hS.2.2.2.2.2.2.1
  obtain ⟨c1, c2, c3, c4⟩ := id hC
  obtain ⟨-, -, o3, -, -, o6, o7⟩ := c4 a (by omega) (by omega)
  rw [hsg] at o3
  have e16 : f_104 (f_103n k) cc a w d σ = j_104_16 (f_103n k) cc a w d (bR q) σ := by
    unfold f_104
    rw [zg_pos c1, zg_pos ⟨c2, by omega⟩, o3]
    by_cases hq : q = 5
    · rw [if_pos hq, if_pos rfl, bR, if_pos hq]
    · rw [if_neg hq, if_neg (by omega), bR, if_neg hq]
  rw [e16]
  unfold j_104_16
  have base := fun p hp => c_bind59 (p := p) (w := w) (d := d) (k := k) h1 h2 hC harg hmd hen hsg q0 q5 hS sl0 sl1 hsl hk1 hk d0 hd1 hd hH1 hH hp
  have r0 : 0 ≤ bR q := by rw [bR]; split <;> omega
  have r1 : bR q ≤ 1 := by rw [bR]; split <;> omega
  rcases hM with hM | ⟨k0, k1, u0, hW, hF⟩
  · rw [hM] at o7
    rw [zo_of (c_place0 c1 c2 (by omega) o7), zg_pos (by decide), if_pos rfl]
    exact base (-1) (Or.inl rfl)
  · have hb0 := fun A => hF (fun i => gI σ 20 i) e A (fun j j0 j1 => by
      obtain ⟨-, -, z3, z4, z5⟩ := hS.2.2.2.2.1.2 j j0 j1
      exact ⟨z3, z4, z5⟩)
    obtain ⟨x0, x1, -⟩ := hb0 (A 0)
    rw [zo_of (c_place c1 c2 (by omega) o7 (by omega) o6 u0)]
    generalize hx : plc (cd.us a) (fun i => gI σ 20 i) 20 = x at x0 x1 hb0 ⊢
    rw [zg_pos ⟨by omega, by omega⟩, if_neg (by omega), zg_pos ⟨by omega, by omega⟩]
    by_cases hz : w &&& (gJ σ 23 (cd.mm a * 25 + x) ^^^ 18446744073709551615#64) = 0#64
    · rw [if_pos hz]
      have hpd : (cd.mm a * 25 + x) / 25 = cd.mm a ∧ (cd.mm a * 25 + x) % 25 = x := by omega
      have hWb : bW v.n q ≤ 5 := by rw [bW]; split <;> omega
      obtain ⟨t, t1, t2⟩ := c_recall (C := bs w) (p := cd.mm a * 25 + x) (r := bR q) (X := fun β => dQ v.n q L D1 D2 e (A β)) hS.1 hS.2.2.1 H0 (by omega) (by omega) (by omega) r0 r1 (fun β hb hw i i0 i1 => by
        rw [bW_eq] at i1
        have hkn : gb σ 23 (cd.mm a * 25 + x) β = true := by
          have : (w &&& (gJ σ 23 (cd.mm a * 25 + x) ^^^ 18446744073709551615#64)).getLsbD β = false := by rw [hz, gb_zero]
          rw [gb_and, gb_not hb, show w.getLsbD β = true from hw, Bool.true_and] at this
          show (gJ σ 23 (cd.mm a * 25 + x)).getLsbD β = true
          cases hh : (gJ σ 23 (cd.mm a * 25 + x)).getLsbD β
          · rw [hh] at this; cases this
          · rfl
        have := hS.2.2.2.2.2.2.2 (cd.mm a * 25 + x) (by omega) (by omega) β hb hkn i i0 (by omega) (by rw [hpd.1, hW]; exact i1)
        rw [this, hpd.1, hpd.2]
        exact (hb0 (A β)).2.2 i i0 i1)
      rw [zb_of t1]
      exact ⟨_, rfl, CP.of hS (zfr_sub rfl (fr_106 t1)) t2⟩
    · rw [if_neg hz]
      exact base _ (Or.inr ⟨cd.mm a, x, k0, k1, x0, x1, rfl, hW, fun β i i0 i1 => (hb0 (A β)).2.2 i i0 i1⟩)
theorem cseg_bind {q : Int} (h1 : CSeg v cd (a + 1) c L m1 1 D1) (h2 : CSeg v cd c b (L + 1) m2 0 D2) (a0 : 0 ≤ a) (hm1 : m1 + 1 ≤ m) (hm2 : m2 + 1 ≤ m) (hop : cd.op a = 45) (harg : cd.arg a = v.sl L) (hmd : cd.md a = c) (hen : cd.en a = b) (hsg : cd.sg a = if q = 5 then 39 else 4 + q) (q0 : 0 ≤ q) (q5 : q ≤ 5) (sl0 : 0 ≤ v.sl L) (sl1 : v.sl L < 20) (hsl : ∀ j, 0 ≤ j → j < L → v.sl j ≠ v.sl L) (hM : MOk v cd a L q (dQ v.n q L D1 D2)) : CSeg v cd a b L m (bR q) (dQ v.n q L D1 D2) := by
  have ac := h1.2.1
  have cb := h2.2.1
  have r0 : 0 ≤ bR q := by rw [bR]; split <;> omega
  have r1 : bR q ≤ 1 := by rw [bR]; split <;> omega
  refine ⟨a0, by omega, r0, by omega, fun σ cc k d w e A H to i hC hS hm d0 hd hH hto hto2 i0 i1 => ?_⟩
  obtain ⟨τ, t1, t2⟩ := c_bind (w := w) (d := d + 1) (k := k) h1 h2 hC harg hmd hen hsg q0 q5 hS sl0 sl1 hsl (by omega) (by omega) (by omega) (by omega) (by omega) (by omega) (by omega) hM
  refine ⟨τ, i + 1, by omega, by omega, ?_, t2⟩
  have hCt := hC.fr t2.1
  obtain ⟨c1, c2, c3, c4⟩ := hC
  obtain ⟨o1, -⟩ := c4 a (by omega) (by omega)
  obtain ⟨-, -, -, -, o5, -, -⟩ := hCt.2.2.2 a (by omega) (by omega)
  rw [hen] at o5
  have ht : b_103_14 (f_103n k) cc to w d a i σ = some (.inl (b, i + 1, τ)) := by
    unfold b_103_14
    rw [zg_pos ⟨by omega, by omega⟩, if_pos (by omega), zg_pos ⟨by omega, by omega⟩, zg_pos ⟨by omega, by omega⟩, if_pos (by omega), hS.2.2.1, if_pos (by omega), zg_pos c1, zg_pos ⟨by omega, by omega⟩, o1, if_pos hop, zb_of t1, o5]
  exact (zrch.one ht).le (by omega)
end BIND
