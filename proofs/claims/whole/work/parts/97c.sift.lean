/-! THE CLASS'S MACHINE: sift. -/
section SIFT
variable {v : Wd} {cd : Cd} {a b c L : Int} {m m1 m2 : Nat} {D D1 D2 : Dn}
theorem c_sift {s : zS} {cc k : Nat} {d H : Int} {w : BitVec 64} {e : Int → Int} {A : Nat → Int → Bool} (h2 : CSeg v cd c b (L + 1) m2 0 D2) (hC : CC s cc a b cd) (hac : a < c) (harg : cd.arg a = v.sl L) (hmd : cd.md a = c) (hen : cd.en a = b) (hS : CS s v L (H + 1) e A) (H0 : 0 ≤ H) (hX : CVl (bs w) s H v.n (fun β => D1 e (A β))) (sl0 : 0 ≤ v.sl L) (sl1 : v.sl L < 20) (hsl : ∀ j, 0 ≤ j → j < L → v.sl j ≠ v.sl L) (hk : m2 + 1 ≤ k) (d0 : 0 ≤ d) (hd : d + m2 ≤ 20) (hH : H + 1 + m2 ≤ 20) : ∃ t, f_107 (f_103n k) cc a w d s = some ((), t) ∧ CX s t v L H (H + 1) A ∧ gI t 19 H = gI s 19 H ∧ CVl (bs w) t H v.n (fun β => dGot L D1 D2 e (A β)) := by
  have n1 := hS.1.2.1
  have n5 := hS.1.2.2.1
  have cb := h2.2.1
  obtain ⟨t, ht, q1, q2, q3⟩ := zlp_F (B := fun (q : Int × zS) => b_107_14 (f_103n k) cc a w d (H * 125) q.1 q.2) (I := fun q => 0 ≤ q.1 ∧ q.1 ≤ v.n ∧ CX s q.2 v L H (H + 1) A ∧ gI q.2 19 H = gI s 19 H ∧ CVl (bs w) q.2 H v.n (fun β t => if t < q.1 then dGot L D1 D2 e (A β) t else D1 e (A β) t)) (μ := fun q => (v.n - q.1).toNat) (Q := fun t => CX s t v L H (H + 1) A ∧ gI t 19 H = gI s 19 H ∧ CVl (bs w) t H v.n (fun β => dGot L D1 D2 e (A β))) (by
    rintro ⟨x, σ⟩ ⟨a1, a2, a3, a4, a5⟩
    dsimp only at a1 a2 a3 a4 a5 ⊢
    have hSx : CS σ v L (H + 1) e A := hS.cx a3 (by omega)
    have hCx := hC.fr a3.1
    obtain ⟨c1, c2, c3, c4⟩ := hCx
    obtain ⟨-, o2, -, o4, o5, -, -⟩ := c4 a (by omega) (by omega)
    rw [harg] at o2
    rw [hmd] at o4
    rw [hen] at o5
    have hcb := zC_b c1
    unfold b_107_14
    rw [zg_pos ⟨by omega, by omega⟩, hSx.1.1]
    by_cases hx : x < v.n
    · left
      rw [if_pos hx, zg_pos ⟨by omega, by omega⟩]
      have hbit : ∀ β, β < 64 → w.getLsbD β = true → (gJ σ 18 (H * 125 + x) &&& w).getLsbD β = D1 e (A β) x := fun β hb hw => by
        have := a5 β hb hw x a1 hx
        dsimp only at this
        rw [if_neg (by omega)] at this
        rw [gb_and, hw, Bool.and_true]
        exact this
      generalize hask : gJ σ 18 (H * 125 + x) &&& w = ask at hbit ⊢
      by_cases hz : ask = 0#64
      · rw [if_pos hz]
        refine ⟨_, rfl, ⟨by dsimp only; omega, by dsimp only; omega, a3.set (by omega), by rw [gI_sJ]; exact a4, fun β hb hw t t0 t1 => ?_⟩, by dsimp only; omega⟩
        dsimp only
        rw [gb_set]
        by_cases htx : t = x
        · have hb0 := hbit β hb hw
          rw [hz, gb_zero] at hb0
          rw [if_pos (by omega), if_pos (by omega), hz, gb_zero, htx]
          unfold dGot
          rw [← hb0]
          rfl
        · rw [if_neg (by omega), a5 β hb hw t t0 t1]
          dsimp only
          by_cases h1 : t < x
          · rw [if_pos h1, if_pos (by omega)]
          · rw [if_neg h1, if_neg (by omega)]
      · rw [if_neg hz, zg_pos c1, zg_pos ⟨c2, by omega⟩, o2, zg_pos ⟨sl0, sl1⟩, gI_nc (show cc + 4 ≠ 20 by omega), gI_nc (show cc + 5 ≠ 20 by omega), o4, o5]
        obtain ⟨τ, y, y1, y2, y3⟩ := c_body (x := x) (w := ask) h2 ((hC.fr a3.1).sub (by omega) (Int.le_refl b)) hSx sl0 sl1 hsl a1 hx hk d0 hd hH
        rw [zb_of y1]
        refine ⟨_, rfl, ⟨by dsimp only; omega, by dsimp only; omega, (a3.tr y2 (by omega)).set (by omega), by rw [gI_sJ, y2.2.2.1.2 H (by omega)]; exact a4, fun β hb hw t t0 t1 => ?_⟩, by dsimp only; omega⟩
        dsimp only
        rw [gb_set]
        by_cases htx : t = x
        · rw [if_pos (by omega), if_pos (by omega), gb_and, hbit β hb hw, htx]
          unfold dGot
          cases hd1 : D1 e (A β) x
          · rfl
          · rw [y3 β hb (by rw [hbit β hb hw]; exact hd1)]
        · rw [if_neg (by omega)]
          show (gJ τ 18 (H * 125 + t)).getLsbD β = _
          rw [y2.2.2.1.1 (H * 125 + t) (by omega)]
          have := a5 β hb hw t t0 t1
          dsimp only at this
          rw [show (gJ σ 18 (H * 125 + t)).getLsbD β = gb σ 18 (H * 125 + t) β from rfl, this]
          by_cases h1 : t < x
          · rw [if_pos h1, if_pos (by omega)]
          · rw [if_neg h1, if_neg (by omega)]
    · right
      rw [if_neg hx]
      refine ⟨_, rfl, a3, a4, fun β hb hw t t0 t1 => ?_⟩
      rw [a5 β hb hw t t0 t1]
      dsimp only
      rw [if_pos (by omega)]) (s := (0, s)) ⟨by dsimp only; omega, by dsimp only; omega, CX.rf hS, rfl, fun β hb hw t t0 t1 => by
      dsimp only
      rw [if_neg (by omega)]
      exact hX β hb hw t t0 t1⟩ (by dsimp only; omega)
  refine ⟨t, ?_, q1, q2, q3⟩
  unfold f_107
  rw [hS.2.2.1, show H + 1 - 1 = H by omega, zo_of ht]
end SIFT
