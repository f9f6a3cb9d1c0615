/-! SEGMENTS of the class's code: runs, and, or, implies. -/
/-- a run that leaves the height as it was -/
def CQ (σ τ : zS) (v : Wd) (L H : Int) (A : Nat → Int → Bool) : Prop :=
  zfr 19239260838083241802870625048898248928261591440656956380834127638791856333738872368854622194768025215237644615680 σ τ ∧ gI τ 17 3 = H ∧ CBl σ τ H ∧ (∀ j, 0 ≤ j → j < L → gI τ 20 (v.sl j) = gI σ 20 (v.sl j)) ∧ MI τ v.K v.W v.F A ∧ (∀ p, 25 * v.K ≤ p → gJ τ 23 p = gJ σ 23 p) ∧ ∀ p, 125 * v.K ≤ p → gJ τ 24 p = gJ σ 24 p
section CSEG
variable {v : Wd} {cd : Cd} {a b c L r r1 r2 : Int} {m m1 m2 : Nat} {D D1 D2 : Dn}
theorem c_run {σ : zS} {cc k : Nat} {d H : Int} {w : BitVec 64} {e : Int → Int} {A : Nat → Int → Bool} (h : CSeg v cd a b L m r D) (hC : CC σ cc a b cd) (hS : CS σ v L H e A) (hk : m + 1 ≤ k) (d0 : 0 ≤ d) (hd : d + m ≤ 20) (hH : H + m ≤ 20) : ∃ τ, f_103n k cc a b w d σ = some ((), τ) ∧ CP w σ τ v L H r A (fun β => D e (A β)) := by
  obtain ⟨a0, ab, x0, x3, h⟩ := h
  have b200 := hC.2.2.1
  obtain ⟨k', rfl⟩ : ∃ k', k = k' + 1 := ⟨k - 1, by omega⟩
  obtain ⟨τ, i', g1, g2, g3, g4⟩ := h σ cc k' d w e A H b 0 hC hS (by omega) d0 hd hH (Int.le_refl b) b200 (by omega) (by omega)
  refine ⟨τ, ?_, g4⟩
  have hend : b_103_14 (f_103n k') cc b w d b i' τ = some (.inr (.inl τ)) := by
    unfold b_103_14
    rw [zg_pos ⟨by omega, by omega⟩]
    by_cases hi : i' < 200
    · rw [if_pos hi, zg_pos ⟨by omega, by omega⟩, zg_pos ⟨by omega, by omega⟩, if_neg (by omega)]
    · rw [if_neg hi]
  have hl := g3.ends (n := zF) hend (by have := zF_big; omega)
  show F_103 (f_103n k') cc a b w d σ = _
  unfold F_103
  rw [zg_pos ⟨by omega, by omega⟩, if_neg (by omega), zo_of hl]
  rfl
theorem c_formula {σ : zS} {cc k : Nat} {d H : Int} {w : BitVec 64} {e : Int → Int} {A : Nat → Int → Bool} (h : CSeg v cd a b L m 0 D) (hC : CC σ cc a b cd) (hS : CS σ v L H e A) (hk : m + 1 ≤ k) (d0 : 0 ≤ d) (hd : d + m ≤ 20) (hH : H + m ≤ 20) : ∃ τ x, f_108 (f_103n k) cc a b w d σ = some (x, τ) ∧ CQ σ τ v L H A ∧ ∀ β, β < 64 → w.getLsbD β = true → x.getLsbD β = D e (A β) 0 := by
  obtain ⟨τ, g, p1, p2, p3, p4, p5, p6⟩ := c_run h hC hS hk d0 hd hH (w := w)
  have H0 := hS.2.2.2.1
  refine ⟨sI τ 17 3 H, gJ τ 18 (H * 125), ?_, ⟨?_, gI_same ⟨by omega, by omega⟩, ⟨fun i hi => p2.2.2.2.1 i hi, fun j hj => by rw [gI_nc (by decide)]; exact p2.2.2.2.2 j hj⟩, fun j j0 j1 => by rw [gI_nc (by decide)]; exact p3 j j0 j1, p4.eq (fun _ => rfl) (fun _ => rfl), p5, p6⟩, fun β hb hw => ?_⟩
  · unfold f_108
    rw [hS.2.2.1, if_pos (by omega), zb_of g, zg_pos ⟨by omega, by omega⟩]
  · refine zfr_tr p1 (fun c i hc => ⟨?_, rfl, rfl⟩)
    show (if c = 17 then (if i = 3 then Int32.ofInt H else τ.1 c i) else τ.1 c i) = τ.1 c i
    by_cases h17 : c = 17
    · rw [if_pos h17]
      by_cases h3 : i = 3
      · rw [h17, h3] at hc
        exact absurd hc (by decide)
      · rw [if_neg h3]
    · rw [if_neg h17]
  · have := p2.2.2.1 β hb hw 0 (by omega) (by rw [npw_0]; omega)
    rw [Int.add_zero] at this
    exact this
theorem CS.back {σ τ : zS} {H H' : Int} {e : Int → Int} {A : Nat → Int → Bool} (h : CS σ v L H e A) (q : CQ σ τ v L H' A) (h0 : 0 ≤ H') : CS τ v L H' e A := by
  obtain ⟨h1, ⟨h2, h2'⟩, h3, h4, ⟨h5, h5'⟩, h6, h7, h8⟩ := h
  obtain ⟨p1, p2, -, p3, p4, -, -⟩ := q
  refine ⟨h1.eq (p1.i rfl) (fun a => p1.ia (c := 2) rfl rfl a), ⟨h2, fun r r0 r1 => ?_⟩, p2, h0, ⟨h5, fun j j0 j1 => ?_⟩, h6, h7, p4⟩
  · obtain ⟨g1, g2, g3, g4⟩ := h2' r r0 r1
    refine ⟨by rw [p1.ia (c := 4) rfl rfl]; exact g1, g2, g3, fun t t0 t1 β hb => ?_⟩
    show (gJ τ 6 _).getLsbD β = _
    rw [p1.ja (c := 6) rfl rfl]
    exact g4 t t0 t1 β hb
  · rw [p3 j j0 j1]
    exact h5' j j0 j1
theorem CQ.rf {σ : zS} {H : Int} {e : Int → Int} {A : Nat → Int → Bool} (h : CS σ v L H e A) : CQ σ σ v L H A := ⟨zfr_rf _ _, h.2.2.1, CBl.rf _ _, fun _ _ _ => rfl, h.2.2.2.2.2.2.2, fun _ _ => rfl, fun _ _ => rfl⟩
theorem zfr_sJ {M : Nat} {s t : zS} {c : Nat} {i : Int} {x : BitVec 64} (h : zfr M s t) (hc : M.testBit (zloc c i) = true) : zfr M s (sJ t c i x) := by
  intro c' i' hc'
  obtain ⟨h1, h2, h3⟩ := h c' i' hc'
  refine ⟨h1, ?_, h3⟩
  show (if c' = c then (if i' = i then x else t.2.1 c' i') else t.2.1 c' i') = _
  by_cases e : c' = c
  · rw [if_pos e]
    by_cases e2 : i' = i
    · rw [e, e2, hc] at hc'; cases hc'
    · rw [if_neg e2]; exact h2
  · rw [if_neg e]; exact h2
theorem zfr_sI {M : Nat} {s t : zS} {c : Nat} {i x : Int} (h : zfr M s t) (hc : M.testBit (zloc c i) = true) : zfr M s (sI t c i x) := by
  intro c' i' hc'
  obtain ⟨h1, h2, h3⟩ := h c' i' hc'
  refine ⟨?_, h2, h3⟩
  show (if c' = c then (if i' = i then Int32.ofInt x else t.1 c' i') else t.1 c' i') = _
  by_cases e : c' = c
  · rw [if_pos e]
    by_cases e2 : i' = i
    · rw [e, e2, hc] at hc'; cases hc'
    · rw [if_neg e2]; exact h1
  · rw [if_neg e]; exact h1
/-- and, or, implies -/
theorem cseg_link {op : Int} (hop : op = 10 ∨ op = 11 ∨ op = 12) (h1 : CSeg v cd a c L m1 0 D1) (h2 : CSeg v cd (c + 1) b L m2 0 D2) (hm1 : m1 ≤ m) (hm2 : m2 + 1 ≤ m) (hc : cd.op c = op) (hen : cd.en c = b) : CSeg v cd a b L m 0 (fun e A _ => vLink (op + 6) (D1 e A 0) (D2 e A 0)) := by
  obtain ⟨a0, ab, x0, x3, h1⟩ := h1
  have cb := h2.2.1
  refine ⟨a0, by omega, by omega, by omega, fun σ cc k d w e A H to i hC hS hm d0 hd hH hto hto2 i0 i1 => ?_⟩
  obtain ⟨τ, i', g1, g2, g3, g4⟩ := h1 σ cc k d w e A H to i (hC.sub (by omega) (by omega)) hS (by omega) d0 (by omega) (by omega) (by omega) hto2 i0 (by omega)
  have hS2 := hS.next g4
  have H0 := hS.2.2.2.1
  have hCt := hC.fr g4.1
  obtain ⟨q1, q2, q3, q4⟩ := hCt
  obtain ⟨o1, -, -, -, o5, -, -⟩ := q4 c (by omega) (by omega)
  rw [hc] at o1
  rw [hen] at o5
  have hl : ∀ β, β < 64 → w.getLsbD β = true → (gJ τ 18 (H * 125)).getLsbD β = D1 e (A β) 0 := fun β hb hw => by
    have := g4.2.1.2.2.1 β hb hw 0 (by omega) (by rw [npw_0]; omega)
    rw [Int.add_zero] at this
    exact this
  generalize hlw : gJ τ 18 (H * 125) = lw at hl
  have hz : f_21 op = some 1 := by rcases hop with rfl | rfl | rfl <;> rfl
  -- what is asked
  obtain ⟨u1, hu1, hub⟩ : ∃ u1 : BitVec 64, (u1 = if op = 11 then lw ^^^ (18446744073709551615#64) else lw) ∧ ∀ β, β < 64 → u1.getLsbD β = (if op = 11 then !lw.getLsbD β else lw.getLsbD β) := by
    refine ⟨_, rfl, fun β hb => ?_⟩
    by_cases h : op = 11
    · rw [if_pos h, if_pos h, gb_not hb]
    · rw [if_neg h, if_neg h]
  obtain ⟨ψ, x, hx1, hx2, hx3⟩ : ∃ ψ x, j_112_52 (f_103n k) cc c (d + 1) (H * 125) lw w u1 τ = j_112_84 (f_103n k) cc c (H * 125) lw x ψ ∧ CQ τ ψ v L (H + 1) A ∧ ∀ β, β < 64 → w.getLsbD β = true → u1.getLsbD β = true → x.getLsbD β = D2 e (A β) 0 := by
    unfold j_112_52
    by_cases hz0 : w &&& u1 = 0#64
    · rw [if_pos hz0]
      refine ⟨τ, 0#64, rfl, CQ.rf hS2, fun β hb hw hu => ?_⟩
      have : (w &&& u1).getLsbD β = false := by rw [hz0, gb_zero]
      rw [gb_and, hw, hu] at this
      cases this
    · rw [if_neg hz0]
      obtain ⟨ψ, x, y1, y2, y3⟩ := c_formula (w := w &&& u1) (d := d + 1) (k := k) h2 ((hC.fr g4.1).sub (by omega) (by omega)) hS2 (by omega) (by omega) (by omega) (by omega)
      refine ⟨ψ, x, ?_, y2, fun β hb hw hu => y3 β hb (by rw [gb_and, hw, hu]; rfl)⟩
      rw [zg_pos q1, zg_pos ⟨by omega, by omega⟩, o5, zb_of y1]
  have hS3 := hS2.back hx2 (by omega)
  obtain ⟨z, hz1, hz2⟩ := c_joined (op := op) (l := lw) (r := x) (by omega)
  have o1' : gI ψ (cc + 1) c = op := by rw [zC_fr q1 hx2.1 1 (by omega)]; exact o1
  have h112 : f_112 (f_103n k) cc c w (d + 1) τ = some ((), sJ ψ 18 (H * 125) z) := by
    unfold f_112
    rw [hS2.2.2.1, if_neg (by omega), show H + 1 - 1 = H by omega, zg_pos ⟨by omega, by omega⟩, zg_pos q1, zg_pos ⟨by omega, by omega⟩, o1, hlw]
    have e84 : j_112_84 (f_103n k) cc c (H * 125) lw x ψ = some ((), sJ ψ 18 (H * 125) z) := by
      unfold j_112_84
      rw [zg_pos q1, zg_pos ⟨by omega, by omega⟩, o1', zo_of hz1, zg_pos ⟨by omega, by omega⟩]
    by_cases h11 : op = 11
    · rw [if_pos h11]
      rw [if_pos h11] at hu1
      rw [← hu1, hx1, e84]
    · rw [if_neg h11]
      rw [if_neg h11] at hu1
      rw [hu1] at hx1
      rw [hx1, e84]
  refine ⟨sJ ψ 18 (H * 125) z, i' + 1, by omega, by omega, ?_, ?_⟩
  · have ht : b_103_14 (f_103n k) cc to w d c i' τ = some (.inl (b, i' + 1, sJ ψ 18 (H * 125) z)) := by
      unfold b_103_14
      have o5' : gI (sJ ψ 18 (H * 125) z) (cc + 5) c = b := by rw [gI_sJ, zC_fr q1 hx2.1 5 (by omega)]; exact o5
      rw [zg_pos ⟨by omega, by omega⟩, if_pos (by omega), zg_pos ⟨by omega, by omega⟩, zg_pos ⟨by omega, by omega⟩, if_pos (by omega), hS2.2.2.1, if_pos (by omega), zg_pos q1, zg_pos ⟨by omega, by omega⟩, o1, if_neg (by omega), zo_of hz, zg_pos (by decide), if_neg (by decide), zb_of h112, o5']
    exact (g3.tr (zrch.one ht)).le (by omega)
  · obtain ⟨r1, r2, r3, r4, r5, r6, r7⟩ := hx2
    refine ⟨zfr_sJ (zfr_tr g4.1 r1) (by rw [zloc_a rfl]; rfl), ⟨by rw [gI_sJ]; exact r2, by rw [gI_sJ, r3.2 H (by omega)]; exact g4.2.1.2.1, fun β hb hw u u0 u1' => ?_, ⟨fun i hi => ?_, fun j hj => ?_⟩⟩, fun j j0 j1 => by rw [gI_sJ, r4 j j0 j1]; exact g4.2.2.1 j j0 j1, r5.eq (fun i => gJ_nc (by decide)) (fun i => gJ_nc (by decide)), fun p hp => by rw [gJ_nc (by decide), r6 p hp]; exact g4.2.2.2.2.1 p hp, fun p hp => by rw [gJ_nc (by decide), r7 p hp]; exact g4.2.2.2.2.2 p hp⟩
    · rw [npw_0] at u1'
      rw [show u = 0 by omega, Int.add_zero, gb_set, if_pos rfl, hz2 β hb, hl β hb hw]
      have hub' := hub β hb
      rw [hl β hb hw] at hub'
      have hx3' := hx3 β hb hw
      rw [hub'] at hx3'
      rcases hop with rfl | rfl | rfl
      · rw [if_neg (by decide)] at hx3'
        show (D1 e (A β) 0 && x.getLsbD β) = (D1 e (A β) 0 && D2 e (A β) 0)
        cases hd1 : D1 e (A β) 0
        · rfl
        · rw [hx3' hd1]
      · rw [if_pos rfl] at hx3'
        show (D1 e (A β) 0 || x.getLsbD β) = (D1 e (A β) 0 || D2 e (A β) 0)
        cases hd1 : D1 e (A β) 0
        · rw [hx3' (by rw [hd1]; rfl)]
        · rfl
      · rw [if_neg (by decide)] at hx3'
        show (!D1 e (A β) 0 || x.getLsbD β) = (!D1 e (A β) 0 || D2 e (A β) 0)
        cases hd1 : D1 e (A β) 0
        · rfl
        · rw [hx3' hd1]
    · rw [gJ_ni (by omega), r3.1 i (by omega)]
      exact g4.2.1.2.2.2.1 i hi
    · rw [gI_sJ, r3.2 j (by omega)]
      exact g4.2.1.2.2.2.2 j hj
end CSEG
