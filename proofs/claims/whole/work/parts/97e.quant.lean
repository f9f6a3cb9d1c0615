/-! THE CLASS'S MACHINE: quantify, its loop. -/
section QUANT
variable {v : Wd} {cd : Cd} {a b c L : Int} {m m1 m2 : Nat} {D D1 D2 : Dn}
theorem QW.step {w u o t y D : BitVec 64} {q : Int} {cnt : Nat → Int} {h d : Nat → Bool} (hQ : QW w q u o t cnt) (c0 : ∀ β, 0 ≤ cnt β) (hh : ∀ β, β < 64 → (D &&& u).getLsbD β = true → y.getLsbD β = d β) (hD : ∀ β, β < 64 → w.getLsbD β = true → h β = (D.getLsbD β && d β)) : QW w q (u &&& ((if q = 3 ∨ q = 4 then t ||| (o &&& ((D &&& u) &&& y)) else o ||| ((D &&& u) &&& y)) ^^^ (18446744073709551615#64))) (o ||| ((D &&& u) &&& y)) (t ||| (o &&& ((D &&& u) &&& y))) (fun β => cnt β + (if h β then 1 else 0)) := by
  intro β hb
  obtain ⟨g1, g2⟩ := hQ β hb
  have hit : w.getLsbD β = true → ((D &&& u) &&& y).getLsbD β = (h β && u.getLsbD β) := fun hw => by
    have e1 := hh β hb
    rw [gb_and] at e1
    rw [gb_and, gb_and, hD β hb hw]
    cases hA : D.getLsbD β <;> cases hB : u.getLsbD β
    · simp
    · simp
    · simp
    · rw [e1 (by rw [hA, hB]; rfl)]; simp
  refine ⟨fun hw => by rw [gb_and, g1 hw, Bool.false_and], fun hw => ?_⟩
  obtain ⟨k1, k2, k3⟩ := g2 hw
  obtain ⟨b1, b2, b3⟩ := q_bits (h := h β) (c0 β) k1 k2 k3
  refine ⟨?_, ?_, fun hq => ?_⟩
  · rw [gb_and, gb_not hb, ← b1]
    by_cases hq : q = 3 ∨ q = 4
    · rw [if_pos hq, if_pos hq, gb_or, gb_and, hit hw]
    · rw [if_neg hq, if_neg hq, gb_or, hit hw]
  · rw [gb_or, hit hw]; exact b2
  · rw [gb_or, gb_and, hit hw]; exact b3 hq
theorem c_quantify {s : zS} {cc k : Nat} {d H q : Int} {w : BitVec 64} {e : Int → Int} {A : Nat → Int → Bool} (h2 : CSeg v cd c b (L + 1) m2 0 D2) (hC : CC s cc a b cd) (hac : a < c) (harg : cd.arg a = v.sl L) (hmd : cd.md a = c) (hen : cd.en a = b) (hsg : cd.sg a = 4 + q) (q0 : 0 ≤ q) (q4 : q ≤ 4) (hS : CS s v L (H + 1) e A) (H0 : 0 ≤ H) (hX : CVl (bs w) s H v.n (fun β => D1 e (A β))) (sl0 : 0 ≤ v.sl L) (sl1 : v.sl L < 20) (hsl : ∀ j, 0 ≤ j → j < L → v.sl j ≠ v.sl L) (hk : m2 + 1 ≤ k) (d0 : 0 ≤ d) (hd : d + m2 ≤ 20) (hH : H + 1 + m2 ≤ 20) : ∃ t, f_109 (f_103n k) cc a w d s = some ((), t) ∧ CX s t v L H (H + 1) A ∧ gI t 19 H = 0 ∧ CVl (bs w) t H 1 (fun β _ => vQty q (zcnt v.n.toNat (dGot L D1 D2 e (A β))) (zcnt v.n.toNat (D1 e (A β)))) := by
  have n1 := hS.1.2.1
  have n5 := hS.1.2.2.1
  have cb := h2.2.1
  obtain ⟨r, hr, q1, q2⟩ := zlp_F (B := fun (p : BitVec 64 × BitVec 64 × BitVec 64 × Int × zS) => b_109_31 (f_103n k) cc a d (4 + q) (H * 125) p.1 p.2.1 p.2.2.1 p.2.2.2.1 p.2.2.2.2) (I := fun p => 0 ≤ p.2.2.2.1 ∧ p.2.2.2.1 ≤ v.n ∧ CX s p.2.2.2.2 v L (H + 1) (H + 1) A ∧ QW w q p.1 p.2.1 p.2.2.1 (fun β => zcnt p.2.2.2.1.toNat (dHit q L D1 D2 e (A β)))) (μ := fun p => (v.n - p.2.2.2.1).toNat) (Q := fun r => CX s r.2.2 v L (H + 1) (H + 1) A ∧ ∃ u, QW w q u r.1 r.2.1 (fun β => zcnt v.n.toNat (dHit q L D1 D2 e (A β)))) (by
    rintro ⟨u, o, t, x, σ⟩ ⟨a1, a2, a3, a4⟩
    dsimp only at a1 a2 a3 a4 ⊢
    have hSx : CS σ v L (H + 1) e A := hS.cx a3 (by omega)
    have hCx := hC.fr a3.1
    obtain ⟨c1, c2, c3, c4⟩ := hCx
    obtain ⟨-, o2, -, o4, o5, -, -⟩ := c4 a (by omega) (by omega)
    rw [harg] at o2
    rw [hmd] at o4
    rw [hen] at o5
    have hcb := zC_b c1
    unfold b_109_31
    rw [zg_pos ⟨by omega, by omega⟩, hSx.1.1]
    by_cases hx : x < v.n
    · left
      rw [if_pos hx, zg_pos ⟨by omega, by omega⟩]
      have hbit : ∀ β, β < 64 → w.getLsbD β = true → (gJ σ 18 (H * 125 + x)).getLsbD β = D1 e (A β) x := fun β hb hw => by
        rw [a3.2.2.1.1 _ (by omega)]
        exact hX β hb hw x a1 hx
      generalize gJ σ 18 (H * 125 + x) = dm at hbit ⊢
      have hst : ∀ β, zcnt (x + 1).toNat (dHit q L D1 D2 e (A β)) = zcnt x.toNat (dHit q L D1 D2 e (A β)) + (if dHit q L D1 D2 e (A β) x then 1 else 0) := fun β => zcnt_step _ a1
      by_cases hz : dm &&& u = 0#64
      · rw [if_pos hz]
        refine ⟨_, rfl, ⟨by dsimp only; omega, by dsimp only; omega, a3, a4.skip fun β hb hw => ?_⟩, by dsimp only; omega⟩
        dsimp only
        have hb0 : (dm &&& u).getLsbD β = false := by rw [hz, gb_zero]
        rw [gb_and, hbit β hb hw] at hb0
        rw [hst β]
        cases hd1 : D1 e (A β) x
        · left
          unfold dHit
          rw [hd1]
          simp
        · right
          rw [hd1, Bool.true_and] at hb0
          exact ⟨hb0, by split <;> omega⟩
      · rw [if_neg hz, zg_pos c1, zg_pos ⟨c2, by omega⟩, o2, zg_pos ⟨sl0, sl1⟩, gI_nc (show cc + 4 ≠ 20 by omega), gI_nc (show cc + 5 ≠ 20 by omega), o4, o5]
        obtain ⟨τ, y, y1, y2, y3⟩ := c_body (x := x) (w := dm &&& u) h2 ((hC.fr a3.1).sub (by omega) (Int.le_refl b)) hSx sl0 sl1 hsl a1 hx hk d0 hd hH
        rw [zb_of y1, zg_pos ⟨by omega, by omega⟩]
        have hCX := a3.tr y2 (Int.le_refl _)
        have fin : ∀ y' : BitVec 64, (∀ β, β < 64 → (dm &&& u).getLsbD β = true → y'.getLsbD β = if q = 0 then !D2 (eUp e L x) (A β) 0 else D2 (eUp e L x) (A β) 0) → ∃ s', j_109_31_123 (f_103n k) cc a d (4 + q) (H * 125) u o t x (dm &&& u) y' τ = some (.inl s') ∧ (0 ≤ s'.2.2.2.1 ∧ s'.2.2.2.1 ≤ v.n ∧ CX s s'.2.2.2.2 v L (H + 1) (H + 1) A ∧ QW w q s'.1 s'.2.1 s'.2.2.1 (fun β => zcnt s'.2.2.2.1.toNat (dHit q L D1 D2 e (A β)))) ∧ (v.n - s'.2.2.2.1).toNat < (v.n - x).toNat := by
          intro y' hy'
          have hq2 := a4.step (y := y') (D := dm) (h := fun β => dHit q L D1 D2 e (A β) x) (d := fun β => if q = 0 then !D2 (eUp e L x) (A β) 0 else D2 (eUp e L x) (A β) 0) (fun β => (zcnt_b _ _).1) hy' (fun β hb hw => by unfold dHit; rw [hbit β hb hw])
          have hcn : (fun β => zcnt (x + 1).toNat (dHit q L D1 D2 e (A β))) = fun β => zcnt x.toNat (dHit q L D1 D2 e (A β)) + (if dHit q L D1 D2 e (A β) x then 1 else 0) := funext hst
          unfold j_109_31_123
          rw [zg_pos ⟨by omega, by omega⟩]
          by_cases h7 : q = 3
          · rw [if_pos (by omega)]
            rw [if_pos (Or.inl h7), ← hcn] at hq2
            exact ⟨_, rfl, ⟨by dsimp only; omega, by dsimp only; omega, hCX, hq2⟩, by dsimp only; omega⟩
          · rw [if_neg (by omega)]
            by_cases h8 : q = 4
            · rw [if_pos (by omega)]
              rw [if_pos (Or.inr h8), ← hcn] at hq2
              exact ⟨_, rfl, ⟨by dsimp only; omega, by dsimp only; omega, hCX, hq2⟩, by dsimp only; omega⟩
            · rw [if_neg (by omega)]
              rw [if_neg (by omega), ← hcn] at hq2
              exact ⟨_, rfl, ⟨by dsimp only; omega, by dsimp only; omega, hCX, hq2⟩, by dsimp only; omega⟩
        by_cases h4 : q = 0
        · rw [if_pos (by omega)]
          exact fin _ (fun β hb hw => by rw [if_pos h4, gb_not hb, y3 β hb hw])
        · rw [if_neg (by omega)]
          exact fin _ (fun β hb hw => by rw [if_neg h4, y3 β hb hw])
    · right
      rw [if_neg hx]
      refine ⟨_, rfl, a3, u, ?_⟩
      rw [show v.n = x by omega]
      exact a4) (s := (w, 0#64, 0#64, 0, s)) ⟨by dsimp only; omega, by dsimp only; omega, CX.rf hS, fun β hb => ⟨fun hw => hw, fun hw => by
      dsimp only
      rw [gb_zero, hw]
      refine ⟨?_, rfl, fun _ => rfl⟩
      split <;> rfl⟩⟩ (by dsimp only; omega)
  obtain ⟨u, q2⟩ := q2
  obtain ⟨z, hz, hzb⟩ := c_verdict (sign := 4 + q) (o := r.1) (t := r.2.1) (by omega)
  obtain ⟨c1, c2, c3, c4⟩ := hC
  obtain ⟨-, -, o3, -⟩ := c4 a (by omega) (by omega)
  rw [hsg] at o3
  refine ⟨sI (sJ r.2.2 18 (H * 125) z) 19 H 0, ?_, ?_, gI_same (by decide), ?_⟩
  · unfold f_109
    rw [zg_pos c1, zg_pos ⟨c2, by omega⟩, o3, hS.2.2.1, show H + 1 - 1 = H by omega, zo_of hr, zo_of hz, zg_pos ⟨by omega, by omega⟩, q1.2.1, show H + 1 - 1 = H by omega, zg_pos ⟨by omega, by omega⟩]
  · obtain ⟨p1, p2, p3, p4, p5, p6, p7⟩ := q1
    refine ⟨zfr_sI (zfr_sJ p1 (by rw [zloc_a rfl]; rfl)) (by rw [zloc_a rfl]; rfl), by rw [gI_nc (by decide), gI_sJ]; exact p2, ⟨fun i hi => ?_, fun j hj => ?_⟩, fun j j0 j1 => by rw [gI_nc (by decide), gI_sJ]; exact p4 j j0 j1, p5.eq (fun i => by rw [gJ_sI, gJ_nc (by decide)]) (fun i => by rw [gJ_sI, gJ_nc (by decide)]), fun p hp => by rw [gJ_sI, gJ_nc (by decide)]; exact p6 p hp, fun p hp => by rw [gJ_sI, gJ_nc (by decide)]; exact p7 p hp⟩
    · rw [gJ_sI, gJ_ni (by omega)]; exact p3.1 i (by omega)
    · rw [gI_ni (by omega), gI_sJ]; exact p3.2 j (by omega)
  · intro β hb hw t t0 t1
    obtain ⟨k1, k2, k3⟩ := (q2 β hb).2 hw
    have k2 : r.1.getLsbD β = decide (1 ≤ zcnt v.n.toNat (dHit q L D1 D2 e (A β))) := k2
    have k3 : q = 3 ∨ q = 4 → r.2.1.getLsbD β = decide (2 ≤ zcnt v.n.toNat (dHit q L D1 D2 e (A β))) := k3
    rw [show t = 0 by omega, Int.add_zero]
    show (gJ (sJ r.2.2 18 (H * 125) z) 18 (H * 125)).getLsbD β = _
    rw [gJ_same, hzb β hb]
    show vV (4 + q) (r.1.getLsbD β) (r.2.1.getLsbD β) = vQty q (zcnt v.n.toNat (dGot L D1 D2 e (A β))) (zcnt v.n.toNat (D1 e (A β)))
    by_cases hq0 : q = 0
    · have e1 : dHit q L D1 D2 e (A β) = fun t => D1 e (A β) t && !D2 (eUp e L t) (A β) 0 := by
        funext t
        unfold dHit
        rw [if_pos hq0]
      have e2 := zcnt_split (f := D1 e (A β)) (g := fun t => D2 (eUp e L t) (A β) 0) v.n.toNat
      rw [k2, e1, hq0]
      unfold vV vQty
      rw [if_neg (by decide), if_neg (by decide), if_neg (by decide), if_pos rfl, ← decide_not]
      have e3 := (zcnt_b (fun t => D1 e (A β) t && !D2 (eUp e L t) (A β) 0) v.n.toNat).1
      have e4 : zcnt v.n.toNat (dGot L D1 D2 e (A β)) = zcnt v.n.toNat (fun t => D1 e (A β) t && D2 (eUp e L t) (A β) 0) := rfl
      rw [e4]
      exact decide_eq_decide.mpr (by omega)
    · have e1 : dHit q L D1 D2 e (A β) = dGot L D1 D2 e (A β) := by
        funext t
        unfold dHit dGot
        rw [if_neg hq0]
      rw [e1] at k2 k3
      have e5 := (zcnt_b (dGot L D1 D2 e (A β)) v.n.toNat).1
      rw [← vV_qty (q := q) (x := zcnt v.n.toNat (dGot L D1 D2 e (A β))) (k := zcnt v.n.toNat (D1 e (A β))) (by omega) q4 e5, k2]
      by_cases h34 : q = 3 ∨ q = 4
      · rw [k3 h34]
      · unfold vV
        by_cases h1 : q = 1
        · rw [if_pos (by omega), if_pos (by omega)]
        · rw [if_neg (by omega), if_neg (by omega), if_neg (by omega), if_neg (by omega), if_neg (by omega), if_neg (by omega)]
end QUANT
