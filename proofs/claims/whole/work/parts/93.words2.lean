/-! THE CLASS'S MACHINE: restriction to firsts, join. -/
theorem zany_step {k : Int} (f : Int → Bool) (h : 0 ≤ k) : zany (k + 1).toNat f = (zany k.toNat f || f k) := by
  have e : (k + 1).toNat = k.toNat + 1 := by omega
  have e2 : ((k.toNat : Nat) : Int) = k := by omega
  rw [e, zany, e2]
section COPS
variable {C : Nat → Prop} {s : zS} {n H a b : Int} {X Y : Nat → Vl}
theorem c_firsts (h : CO2 C s n H 1 b X Y) (b1 : 1 ≤ b) (b3 : b ≤ 3) : ∃ t, f_126 s = some ((), t) ∧ CR C s t n H b (fun β => vFirst (n ^ (b - 1).toNat) (X β) (Y β)) := by
  obtain ⟨p1, p2, p3⟩ := h.pop
  obtain ⟨⟨hn, n1, n5, -⟩, h17, H0, H1, ha, hb, hX, hY⟩ := h
  have sb := p3.size (show 0 ≤ b - 1 by omega) (by omega)
  have hNb := npw_b n1 n5 (show 0 ≤ b - 1 by omega) (show b - 1 ≤ 3 by omega)
  have hNab := npw_b n1 n5 (show 0 ≤ b by omega) b3
  have epw : n ^ b.toNat = n * n ^ (b - 1).toNat := by
    rw [show b.toNat = (b - 1).toNat + 1 by omega, Int.pow_succ, Int.mul_comm]
  have en : n ^ (1 : Int).toNat = n := by show n ^ 1 = n; rw [Int.pow_succ, Int.pow_zero, Int.one_mul]
  rw [en] at hX
  rw [epw] at hNab hY
  generalize hm : n ^ (b - 1).toNat = m at *
  generalize hs1 : sI s 17 3 (H + 1) = s1 at *
  have e18 : ∀ i, gJ s1 18 i = gJ s 18 i := fun i => by rw [← hs1]; rfl
  have e19 : ∀ i, gI s1 19 i = gI s 19 i := fun i => by rw [← hs1, gI_nc (by decide)]
  have hloop := zlp_F (B := fun (q : Int × zS) => b_126_68 (H * 125) ((H + 1) * 125) n m q.1 q.2) (I := fun q => 0 ≤ q.1 ∧ q.1 ≤ n ∧ oJ 21 s1 q.2 ∧ ∀ β, β < 64 → C β → ∀ u, 0 ≤ u → u < q.1 * m → gb q.2 21 u β = vFirst m (X β) (Y β) u) (μ := fun q => (n - q.1).toNat) (Q := fun t => oJ 21 s1 t ∧ ∀ β, β < 64 → C β → ∀ u, 0 ≤ u → u < n * m → gb t 21 u β = vFirst m (X β) (Y β) u) (by
    rintro ⟨i, σ⟩ ⟨a1', a2', a3', a4'⟩
    dsimp only at a1' a2' a3' a4' ⊢
    unfold b_126_68
    rw [zg_pos ⟨by omega, by omega⟩, zg_pos ⟨by omega, by omega⟩]
    by_cases hc : i < n
    · left
      have hiN : i * m + m ≤ n * m := by
        have := mul_mono (m := m) (show i + 1 ≤ n by omega) (by omega)
        rw [succ_mul'] at this
        exact this
      have him : 0 ≤ i * m := Int.mul_nonneg a1' (by omega)
      obtain ⟨t, ht, q1, q2⟩ := zlp_F (B := fun (q : Int × zS) => b_126_77 (H * 125) ((H + 1) * 125) n m i q.1 q.2) (I := fun q => 0 ≤ q.1 ∧ q.1 ≤ m ∧ oJ 21 s1 q.2 ∧ ∀ β, β < 64 → C β → ∀ u, 0 ≤ u → u < i * m + q.1 → gb q.2 21 u β = vFirst m (X β) (Y β) u) (μ := fun q => (m - q.1).toNat) (Q := fun t => oJ 21 s1 t ∧ ∀ β, β < 64 → C β → ∀ u, 0 ≤ u → u < i * m + m → gb t 21 u β = vFirst m (X β) (Y β) u) (by
        rintro ⟨j, ω⟩ ⟨c1, c2, c3, c4⟩
        dsimp only at c1 c2 c3 c4 ⊢
        unfold b_126_77
        rw [zg_pos ⟨by omega, by omega⟩, zg_pos ⟨by omega, by omega⟩]
        by_cases hd : j < m
        · left
          rw [if_pos hd, zg_pos ⟨by omega, by omega⟩, zg_pos ⟨by omega, by omega⟩, zg_pos ⟨by omega, by omega⟩]
          refine ⟨_, rfl, ⟨by dsimp only; omega, by dsimp only; omega, c3.set, fun β hb cb u u0 u1 => ?_⟩, by dsimp only; omega⟩
          dsimp only at u1 ⊢
          rw [gb_set]
          by_cases hu : u = i * m + j
          · rw [if_pos hu, gb_and, c3.j _ (by decide), c3.j _ (by decide), e18, e18]
            obtain ⟨d1, d2⟩ := div_block (m := m) (t := i) (u := u) (by omega) (by omega) (by omega)
            have x1 := hX β hb cb i a1' hc
            have y1 := hY β hb cb u (by omega) (by omega)
            unfold vFirst
            rw [d1, ← x1, ← y1, hu, Int.add_assoc]
          · rw [if_neg hu]
            exact c4 β hb cb u u0 (by omega)
        · right
          rw [if_neg hd]
          refine ⟨_, rfl, c3, fun β hb cb u u0 u1 => c4 β hb cb u u0 (by omega)⟩) (s := (0, σ)) ⟨by dsimp only; omega, by dsimp only; omega, a3', fun β hb cb u u0 u1 => a4' β hb cb u u0 (by dsimp only at u1; omega)⟩ (by dsimp only; omega)
      rw [if_pos hc, zo_of ht]
      refine ⟨_, rfl, ⟨by dsimp only; omega, by dsimp only; omega, q1, fun β hb cb u u0 u1 => q2 β hb cb u u0 (by dsimp only at u1; rw [succ_mul'] at u1; omega)⟩, by dsimp only; omega⟩
    · right
      rw [if_neg hc]
      have e : i = n := by omega
      rw [e] at a4'
      exact ⟨_, rfl, a3', a4'⟩) (s := (0, s1)) ⟨by dsimp only; omega, by dsimp only; omega, oJ.rf _ _, fun β hb cb u u0 u1 => by dsimp only at u1; omega⟩ (by dsimp only; omega)
  obtain ⟨t, ht, q1, q2⟩ := hloop
  refine ⟨_, ?_, c_copy (N := n * m) (t := t) (r := b) H0 (by omega) (by omega) (by omega) (by rw [hs1]; exact q1) ⟨by omega, by omega⟩ epw.symm q2⟩
  unfold f_126
  rw [if_neg (by omega), p1, p2, zg_pos ⟨by omega, by omega⟩, hb, zo_of sb, hn, show H + 1 - 1 = H by omega, zo_of ht, zg_pos ⟨by omega, by omega, by omega, by omega, by omega⟩, q1.i, p2, show H + 1 - 1 = H by omega, zg_pos ⟨by omega, by omega⟩, zg_pos ⟨by omega, by omega⟩, q1.i, e19, hb]
/-- the part of a join that the first k atoms bring -/
def vDotK (n m k : Int) (X Y : Vl) : Vl := fun t => zany k.toNat (fun k => X (t / m * n + k) && Y (k * m + t % m))
theorem c_join (h : CO2 C s n H a b X Y) (a1 : 1 ≤ a) (b1 : 1 ≤ b) (a3 : a ≤ 3) (b3 : b ≤ 3) (hab : a + b - 2 ≤ 3) : ∃ t, f_124 s = some ((), t) ∧ CR C s t n H (a + b - 2) (fun β => vDot n (n ^ (b - 1).toNat) (X β) (Y β)) := by
  obtain ⟨p1, p2, p3⟩ := h.pop
  obtain ⟨⟨hn, n1, n5, -⟩, h17, H0, H1, ha, hb, hX, hY⟩ := h
  have sa := p3.size (show 0 ≤ a - 1 by omega) (by omega)
  have sb := p3.size (show 0 ≤ b - 1 by omega) (by omega)
  have hNa := npw_b n1 n5 (show 0 ≤ a - 1 by omega) (show a - 1 ≤ 3 by omega)
  have hNb := npw_b n1 n5 (show 0 ≤ b - 1 by omega) (show b - 1 ≤ 3 by omega)
  have hNA := npw_b n1 n5 (show 0 ≤ a by omega) a3
  have hNB := npw_b n1 n5 (show 0 ≤ b by omega) b3
  have hNab := npw_b n1 n5 (show 0 ≤ a + b - 2 by omega) hab
  have epw : n ^ (a + b - 2).toNat = n ^ (a - 1).toNat * n ^ (b - 1).toNat := by
    rw [← npw_add (by omega) (by omega)]
    congr 1
    omega
  have epa : n ^ a.toNat = n ^ (a - 1).toNat * n := by rw [show a.toNat = (a - 1).toNat + 1 by omega, Int.pow_succ]
  have epb : n ^ b.toNat = n * n ^ (b - 1).toNat := by
    rw [show b.toNat = (b - 1).toNat + 1 by omega, Int.pow_succ, Int.mul_comm]
  rw [epw] at hNab
  rw [epa] at hNA hX
  rw [epb] at hNB hY
  generalize hm : n ^ (b - 1).toNat = m at *
  generalize hN : n ^ (a - 1).toNat = N at *
  generalize hs1 : sI s 17 3 (H + 1) = s1 at *
  have e18 : ∀ i, gJ s1 18 i = gJ s 18 i := fun i => by rw [← hs1]; rfl
  have e19 : ∀ i, gI s1 19 i = gI s 19 i := fun i => by rw [← hs1, gI_nc (by decide)]
  have hloop := zlp_F (B := fun (q : Int × zS) => b_124_90 n (H * 125) ((H + 1) * 125) N m q.1 q.2) (I := fun q => 0 ≤ q.1 ∧ q.1 ≤ N ∧ oJ 21 s1 q.2 ∧ ∀ β, β < 64 → C β → ∀ u, 0 ≤ u → u < q.1 * m → gb q.2 21 u β = vDot n m (X β) (Y β) u) (μ := fun q => (N - q.1).toNat) (Q := fun t => oJ 21 s1 t ∧ ∀ β, β < 64 → C β → ∀ u, 0 ≤ u → u < N * m → gb t 21 u β = vDot n m (X β) (Y β) u) (by
    rintro ⟨i, σ⟩ ⟨a1', a2', a3', a4'⟩
    dsimp only at a1' a2' a3' a4' ⊢
    unfold b_124_90
    rw [zg_pos ⟨by omega, by omega⟩, zg_pos ⟨by omega, by omega⟩]
    by_cases hc : i < N
    · left
      have hiN : i * m + m ≤ N * m := by
        have := mul_mono (m := m) (show i + 1 ≤ N by omega) (by omega)
        rw [succ_mul'] at this
        exact this
      have hin : i * n + n ≤ N * n := by
        have := mul_mono (m := n) (show i + 1 ≤ N by omega) (by omega)
        rw [succ_mul'] at this
        exact this
      have him : 0 ≤ i * m := Int.mul_nonneg a1' (by omega)
      have hin0 : 0 ≤ i * n := Int.mul_nonneg a1' (by omega)
      obtain ⟨t, ht, q1, q2⟩ := zlp_F (B := fun (q : Int × zS) => b_124_100 n (H * 125) ((H + 1) * 125) N m i q.1 q.2) (I := fun q => 0 ≤ q.1 ∧ q.1 ≤ m ∧ oJ 21 s1 q.2 ∧ ∀ β, β < 64 → C β → ∀ u, 0 ≤ u → u < i * m + q.1 → gb q.2 21 u β = if u < i * m then vDot n m (X β) (Y β) u else false) (μ := fun q => (m - q.1).toNat) (Q := fun t => oJ 21 s1 t ∧ ∀ β, β < 64 → C β → ∀ u, 0 ≤ u → u < i * m + m → gb t 21 u β = if u < i * m then vDot n m (X β) (Y β) u else false) (by
        rintro ⟨j, ω⟩ ⟨c1, c2, c3, c4⟩
        dsimp only at c1 c2 c3 c4 ⊢
        unfold b_124_100
        rw [zg_pos ⟨by omega, by omega⟩, zg_pos ⟨by omega, by omega⟩]
        by_cases hd : j < m
        · left
          rw [if_pos hd, zg_pos ⟨by omega, by omega⟩]
          refine ⟨_, rfl, ⟨by dsimp only; omega, by dsimp only; omega, c3.set, fun β hb cb u u0 u1 => ?_⟩, by dsimp only; omega⟩
          dsimp only at u1 ⊢
          rw [gb_set]
          by_cases hu : u = i * m + j
          · rw [if_pos hu, gb_zero, if_neg (by omega)]
          · rw [if_neg hu]
            exact c4 β hb cb u u0 (by omega)
        · right
          rw [if_neg hd]
          refine ⟨_, rfl, c3, fun β hb cb u u0 u1 => c4 β hb cb u u0 (by omega)⟩) (s := (0, σ)) ⟨by dsimp only; omega, by dsimp only; omega, a3', fun β hb cb u u0 u1 => by dsimp only at u1 ⊢; rw [if_pos (by omega)]; exact a4' β hb cb u u0 (by omega)⟩ (by dsimp only; omega)
      obtain ⟨t2, ht2, r1, r2⟩ := zlp_F (B := fun (q : Int × zS) => b_124_130 n (H * 125) ((H + 1) * 125) N m i q.1 q.2) (I := fun q => 0 ≤ q.1 ∧ q.1 ≤ n ∧ oJ 21 s1 q.2 ∧ ∀ β, β < 64 → C β → ∀ u, 0 ≤ u → u < i * m + m → gb q.2 21 u β = if u < i * m then vDot n m (X β) (Y β) u else vDotK n m q.1 (X β) (Y β) u) (μ := fun q => (n - q.1).toNat) (Q := fun t => oJ 21 s1 t ∧ ∀ β, β < 64 → C β → ∀ u, 0 ≤ u → u < i * m + m → gb t 21 u β = vDot n m (X β) (Y β) u) (by
        rintro ⟨k, ω⟩ ⟨c1, c2, c3, c4⟩
        dsimp only at c1 c2 c3 c4 ⊢
        unfold b_124_130
        rw [zg_pos ⟨by omega, by omega⟩, zg_pos ⟨by omega, by omega⟩]
        by_cases hd : k < n
        · left
          have hkm : k * m + m ≤ n * m := by
            have := mul_mono (m := m) (show k + 1 ≤ n by omega) (by omega)
            rw [succ_mul'] at this
            exact this
          have hkm0 : 0 ≤ k * m := Int.mul_nonneg c1 (by omega)
          have hst : ∀ β, ∀ u, i * m ≤ u → u < i * m + m → vDotK n m (k + 1) (X β) (Y β) u = (vDotK n m k (X β) (Y β) u || (X β (i * n + k) && Y β (k * m + (u - i * m)))) := by
            intro β u u0 u1
            obtain ⟨d1, d2⟩ := div_block (m := m) (t := i) (u := u) (by omega) u0 u1
            unfold vDotK
            rw [zany_step _ c1, d1, d2]
          have hw : ∀ β, β < 64 → C β → (gJ ω 18 (H * 125 + i * n + k)).getLsbD β = X β (i * n + k) := by
            intro β hb cb
            have x1 := hX β hb cb (i * n + k) (by omega) (by omega)
            rw [← x1]
            rw [c3.j _ (by decide), e18, Int.add_assoc]
          generalize hwd : gJ ω 18 (H * 125 + i * n + k) = wd at hw ⊢
          obtain ⟨t3, ht3, s1', s2'⟩ := zlp_F (B := fun (q : Int × zS) => b_124_155 n (H * 125) ((H + 1) * 125) N m i k wd q.1 q.2) (I := fun q => 0 ≤ q.1 ∧ q.1 ≤ m ∧ oJ 21 s1 q.2 ∧ ∀ β, β < 64 → C β → ∀ u, 0 ≤ u → u < i * m + m → gb q.2 21 u β = if u < i * m then vDot n m (X β) (Y β) u else if u < i * m + q.1 then vDotK n m (k + 1) (X β) (Y β) u else vDotK n m k (X β) (Y β) u) (μ := fun q => (m - q.1).toNat) (Q := fun t => oJ 21 s1 t ∧ ∀ β, β < 64 → C β → ∀ u, 0 ≤ u → u < i * m + m → gb t 21 u β = if u < i * m then vDot n m (X β) (Y β) u else vDotK n m (k + 1) (X β) (Y β) u) (by
            rintro ⟨j, ψ⟩ ⟨g1, g2, g3, g4⟩
            dsimp only at g1 g2 g3 g4 ⊢
            unfold b_124_155
            rw [zg_pos ⟨by omega, by omega⟩, zg_pos ⟨by omega, by omega⟩]
            by_cases hd2 : j < m
            · rw [if_pos hd2]
              by_cases hz : wd = 0#64
              · right
                rw [if_pos hz]
                refine ⟨_, rfl, g3, fun β hb cb u u0 u1 => ?_⟩
                rw [g4 β hb cb u u0 u1]
                by_cases h1 : u < i * m
                · rw [if_pos h1, if_pos h1]
                · rw [if_neg h1, if_neg h1]
                  by_cases h2 : u < i * m + j
                  · rw [if_pos h2]
                  · rw [if_neg h2, hst β u (by omega) u1]
                    have := hw β hb cb
                    rw [hz, gb_zero] at this
                    rw [← this, Bool.false_and, Bool.or_false]
              · left
                rw [if_neg hz, zg_pos ⟨by omega, by omega⟩, zg_pos ⟨by omega, by omega⟩]
                refine ⟨_, rfl, ⟨by dsimp only; omega, by dsimp only; omega, g3.set, fun β hb cb u u0 u1 => ?_⟩, by dsimp only; omega⟩
                dsimp only
                rw [gb_set]
                by_cases hu : u = i * m + j
                · have hy := hY β hb cb (k * m + j) (by omega) (by omega)
                  have hx := hw β hb cb
                  rw [if_pos hu, if_neg (by omega), if_pos (by omega), gb_or, gb_and, g3.j _ (show (18 : Nat) ≠ 21 by decide), e18, hst β u (by omega) u1]
                  have h4 := g4 β hb cb u u0 u1
                  rw [if_neg (by omega), if_neg (by omega)] at h4
                  rw [← h4, ← hx, show k * m + (u - i * m) = k * m + j by omega, ← hy, hu, ← Int.add_assoc]
                · rw [if_neg hu, g4 β hb cb u u0 u1]
                  by_cases h1 : u < i * m
                  · rw [if_pos h1, if_pos h1]
                  · rw [if_neg h1, if_neg h1]
                    by_cases h2 : u < i * m + j
                    · rw [if_pos h2, if_pos (by omega)]
                    · rw [if_neg h2, if_neg (by omega)]
            · right
              rw [if_neg hd2]
              refine ⟨_, rfl, g3, fun β hb cb u u0 u1 => ?_⟩
              rw [g4 β hb cb u u0 u1]
              by_cases h1 : u < i * m
              · rw [if_pos h1, if_pos h1]
              · rw [if_neg h1, if_neg h1, if_pos (by omega)]) (s := (0, ω)) ⟨by dsimp only; omega, by dsimp only; omega, c3, fun β hb cb u u0 u1 => by
                dsimp only
                rw [c4 β hb cb u u0 u1]
                by_cases h1 : u < i * m
                · rw [if_pos h1, if_pos h1]
                · rw [if_neg h1, if_neg h1, if_neg (by omega)]⟩ (by dsimp only; omega)
          rw [if_pos hd, zg_pos ⟨by omega, by omega⟩, zo_of ht3]
          exact ⟨_, rfl, ⟨by dsimp only; omega, by dsimp only; omega, s1', s2'⟩, by dsimp only; omega⟩
        · right
          rw [if_neg hd]
          refine ⟨_, rfl, c3, fun β hb cb u u0 u1 => ?_⟩
          rw [c4 β hb cb u u0 u1]
          have e : k = n := by omega
          rw [e]
          by_cases h1 : u < i * m
          · rw [if_pos h1]
          · rw [if_neg h1]; rfl) (s := (0, t)) ⟨by dsimp only; omega, by dsimp only; omega, q1, fun β hb cb u u0 u1 => q2 β hb cb u u0 u1⟩ (by dsimp only; omega)
      rw [if_pos hc, zo_of ht, zo_of ht2]
      refine ⟨_, rfl, ⟨by dsimp only; omega, by dsimp only; omega, r1, fun β hb cb u u0 u1 => r2 β hb cb u u0 (by dsimp only at u1; rw [succ_mul'] at u1; omega)⟩, by dsimp only; omega⟩
    · right
      rw [if_neg hc]
      have e : i = N := by omega
      rw [e] at a4'
      exact ⟨_, rfl, a3', a4'⟩) (s := (0, s1)) ⟨by dsimp only; omega, by dsimp only; omega, oJ.rf _ _, fun β hb cb u u0 u1 => by dsimp only at u1; omega⟩ (by dsimp only; omega)
  obtain ⟨t, ht, q1, q2⟩ := hloop
  refine ⟨_, ?_, c_copy (N := N * m) (t := t) (r := a + b - 2) H0 (by omega) (by omega) (by omega) (by rw [hs1]; exact q1) ⟨by omega, by omega⟩ epw.symm q2⟩
  unfold f_124
  rw [if_neg (by omega), p1, p2, show H + 1 - 1 = H by omega, zg_pos ⟨by omega, by omega⟩, ha, zo_of sa, zg_pos ⟨by omega, by omega⟩, hb, zo_of sb, hn, zo_of ht, zg_pos ⟨by omega, by omega, by omega, by omega, by omega⟩, q1.i, p2, show H + 1 - 1 = H by omega, zg_pos ⟨by omega, by omega⟩, zg_pos ⟨by omega, by omega⟩, q1.i, q1.i, e19, e19, ha, hb, show a + (b - 2) = a + b - 2 by omega]
end COPS
