/-! THE CLASS'S MACHINE: the body of what binds, for one atom. -/
/-- below place H all stays, the height is G -/
def CX (σ τ : zS) (v : Wd) (L H G : Int) (A : Nat → Int → Bool) : Prop :=
  zfr 19239260838083241802870625048898248928261591440656956380834127638791856333738872368854622194768025215237644615680 σ τ ∧ gI τ 17 3 = G ∧ CBl σ τ H ∧ (∀ j, 0 ≤ j → j < L → gI τ 20 (v.sl j) = gI σ 20 (v.sl j)) ∧ MI τ v.K v.W v.F A ∧ (∀ p, 25 * v.K ≤ p → gJ τ 23 p = gJ σ 23 p) ∧ ∀ p, 125 * v.K ≤ p → gJ τ 24 p = gJ σ 24 p
section BODY
variable {v : Wd} {cd : Cd} {a b c L : Int} {m m1 m2 : Nat} {D D1 D2 : Dn}
theorem CX.rf {σ : zS} {H G : Int} {e : Int → Int} {A : Nat → Int → Bool} (h : CS σ v L G e A) : CX σ σ v L H G A := ⟨zfr_rf _ _, h.2.2.1, CBl.rf _ _, fun _ _ _ => rfl, h.2.2.2.2.2.2.2, fun _ _ => rfl, fun _ _ => rfl⟩
theorem CX.tr {σ τ ω : zS} {H H2 G G2 : Int} {A : Nat → Int → Bool} (h : CX σ τ v L H G A) (h2 : CX τ ω v L H2 G2 A) (hH : H ≤ H2) : CX σ ω v L H G2 A := by
  obtain ⟨p1, p2, p3, p4, p5, p6, p7⟩ := h
  obtain ⟨q1, q2, q3, q4, q5, q6, q7⟩ := h2
  exact ⟨zfr_tr p1 q1, q2, p3.tr (q3.le hH), fun j j0 j1 => (q4 j j0 j1).trans (p4 j j0 j1), q5, fun p hp => (q6 p hp).trans (p6 p hp), fun p hp => (q7 p hp).trans (p7 p hp)⟩
theorem CX.set {σ τ : zS} {H G i : Int} {x : BitVec 64} {A : Nat → Int → Bool} (h : CX σ τ v L H G A) (hi : H * 125 ≤ i) : CX σ (sJ τ 18 i x) v L H G A := by
  obtain ⟨p1, p2, p3, p4, p5, p6, p7⟩ := h
  exact ⟨zfr_sJ p1 (by rw [zloc_a rfl]; rfl), p2, ⟨fun j hj => by rw [gJ_ni (by omega)]; exact p3.1 j hj, p3.2⟩, p4, p5.eq (fun i => gJ_nc (by decide)) (fun i => gJ_nc (by decide)), fun p hp => by rw [gJ_nc (by decide)]; exact p6 p hp, fun p hp => by rw [gJ_nc (by decide)]; exact p7 p hp⟩
theorem CS.cx {σ τ : zS} {H G G' : Int} {e : Int → Int} {A : Nat → Int → Bool} (h : CS σ v L G' e A) (q : CX σ τ v L H G A) (h0 : 0 ≤ G) : CS τ v L G e A := by
  obtain ⟨h1, ⟨h2, h2'⟩, h3, h4, ⟨h5, h5'⟩, h6, h7, h8⟩ := h
  obtain ⟨p1, p2, -, p3, p4, -, -⟩ := q
  refine ⟨h1.eq (p1.i rfl) (fun a => p1.ia (c := 2) rfl rfl a), ⟨h2, fun r r0 r1 => ?_⟩, p2, h0, ⟨h5, fun j j0 j1 => ?_⟩, h6, h7, p4⟩
  · obtain ⟨g1, g2, g3, g4⟩ := h2' r r0 r1
    refine ⟨by rw [p1.ia (c := 4) rfl rfl]; exact g1, g2, g3, fun t t0 t1 β hb => ?_⟩
    show (gJ τ 6 _).getLsbD β = _
    rw [p1.ja (c := 6) rfl rfl]
    exact g4 t t0 t1 β hb
  · rw [p3 j j0 j1]
    exact h5' j j0 j1
theorem c_body {s : zS} {cc k : Nat} {d G x : Int} {w : BitVec 64} {e : Int → Int} {A : Nat → Int → Bool} (h2 : CSeg v cd c b (L + 1) m2 0 D2) (hC : CC s cc c b cd) (hS : CS s v L G e A) (sl0 : 0 ≤ v.sl L) (sl1 : v.sl L < 20) (hsl : ∀ j, 0 ≤ j → j < L → v.sl j ≠ v.sl L) (x0 : 0 ≤ x) (x1 : x < v.n) (hk : m2 + 1 ≤ k) (d0 : 0 ≤ d) (hd : d + m2 ≤ 20) (hG : G + m2 ≤ 20) : ∃ τ y, f_108 (f_103n k) cc c b w d (sI s 20 (v.sl L) x) = some (y, τ) ∧ CX s τ v L G G A ∧ ∀ β, β < 64 → w.getLsbD β = true → y.getLsbD β = D2 (eUp e L x) (A β) 0 := by
  obtain ⟨h1, ⟨h2a, h2'⟩, h3, h4, ⟨h5, h5'⟩, h6, h7, h8⟩ := hS
  have n5 := h1.2.2.1
  have hzx : zR x := ⟨by omega, by omega⟩
  have hS2 : CS (sI s 20 (v.sl L) x) v (L + 1) G (eUp e L x) A := by
    refine ⟨h1.eq (gI_nc (by decide)) (fun a => gI_nc (by decide)), ⟨h2a, fun r r0 r1 => ?_⟩, by rw [gI_nc (by decide)]; exact h3, h4, ⟨by omega, fun j j0 j1 => ?_⟩, h6, h7, h8.eq (fun _ => rfl) (fun _ => rfl)⟩
    · obtain ⟨g1, g2, g3, g4⟩ := h2' r r0 r1
      exact ⟨by rw [gI_nc (by decide)]; exact g1, g2, g3, g4⟩
    · by_cases hj : j = L
      · rw [hj, gI_same hzx]
        refine ⟨sl0, sl1, ?_, ?_⟩
        · unfold eUp; rw [if_pos rfl]
        · unfold eUp; rw [if_pos rfl]; exact ⟨x0, x1⟩
      · rw [gI_ni (hsl j j0 (by omega))]
        have := h5' j j0 (by omega)
        unfold eUp
        rw [if_neg hj]
        exact this
  have hC2 : CC (sI s 20 (v.sl L) x) cc c b cd := by
    obtain ⟨c1, c2, c3, c4⟩ := hC
    have hb := zC_b c1
    refine ⟨c1, c2, c3, fun k k0 k1 => ?_⟩
    rw [gI_nc (by omega), gI_nc (by omega), gI_nc (by omega), gI_nc (by omega), gI_nc (by omega), gI_nc (by omega), gI_nc (by omega)]
    exact c4 k k0 k1
  obtain ⟨τ, y, g1, ⟨p1, p2, p3, p4, p5, p6, p7⟩, g3⟩ := c_formula (w := w) h2 hC2 hS2 hk d0 hd hG
  refine ⟨τ, y, g1, ⟨zfr_tr (zfr_sI (zfr_rf _ _) (by rw [zloc_a rfl]; rfl)) p1, p2, ⟨p3.1, fun j hj => by rw [p3.2 j hj, gI_nc (by decide)]⟩, fun j j0 j1 => ?_, p5, p6, p7⟩, g3⟩
  rw [p4 j j0 (by omega), gI_ni (hsl j j0 j1)]
end BODY
