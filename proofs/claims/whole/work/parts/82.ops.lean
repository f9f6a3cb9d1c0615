/-! VALUES: what the operators mean, and the reference's binary operators. -/
def zany : Nat → (Int → Bool) → Bool
  | 0, _ => false
  | n + 1, f => zany n f || f n
theorem zany_iff {f : Int → Bool} : ∀ {n : Nat}, zany n f = true ↔ ∃ i : Int, 0 ≤ i ∧ i < n ∧ f i = true
  | 0 => by
    constructor
    · intro h; cases h
    · rintro ⟨i, h1, h2, -⟩; omega
  | n + 1 => by
    rw [zany, Bool.or_eq_true, zany_iff]
    constructor
    · rintro (⟨i, h1, h2, h3⟩ | h)
      · exact ⟨i, h1, by omega, h3⟩
      · exact ⟨n, by omega, by omega, h⟩
    · rintro ⟨i, h1, h2, h3⟩
      by_cases e : i = n
      · right; rw [← e]; exact h3
      · left; exact ⟨i, h1, by omega, h3⟩
abbrev Vl : Type := Int → Bool
def vArrow (m : Int) (X Y : Vl) : Vl := fun t => X (t / m) && Y (t % m)
def vDot (n m : Int) (X Y : Vl) : Vl := fun t => zany n.toNat (fun k => X (t / m * n + k) && Y (k * m + t % m))
def vOver (n : Int) (X Y : Vl) : Vl := fun t => Y t || (X t && !zany n.toNat (fun j => Y (t / n * n + j)))
def vFirst (m : Int) (X Y : Vl) : Vl := fun t => X (t / m) && Y t
def vLast (n : Int) (X Y : Vl) : Vl := fun t => X t && Y (t % n)
def vTilde (n : Int) (X : Vl) : Vl := fun t => X (t % n * n + t / n)
def vIden (n : Int) : Vl := fun t => decide (t / n = t % n)
/-- two words hold the first N of a value, and nothing else -/
def RV (N : Int) (lo hi : BitVec 64) (V : Vl) : Prop := ∀ t, 0 ≤ t → t < 128 → tb lo hi t = (decide (t < N) && V t)
theorem div_block {m t u : Int} (hm : 0 < m) (h1 : t * m ≤ u) (h2 : u < t * m + m) : u / m = t ∧ u % m = u - t * m := by
  refine (Int.ediv_emod_unique hm).mpr ⟨?_, by omega, by omega⟩
  rw [Int.mul_comm]
  omega
theorem div_lt {m t u : Int} (hm : 0 < m) (h : u < t * m) : u / m < t := Int.ediv_lt_of_lt_mul hm h
theorem div_ge {m t u : Int} (hm : 0 < m) (h : t * m ≤ u) : t ≤ u / m := Int.le_ediv_of_mul_le hm h
theorem div_mul_mod (u m : Int) : u / m * m + u % m = u := Int.ediv_mul_add_emod u m
theorem mul_mono {a b m : Int} (h : a ≤ b) (hm : 0 ≤ m) : a * m ≤ b * m := Int.mul_le_mul_of_nonneg_right h hm
theorem succ_mul' (t m : Int) : (t + 1) * m = t * m + m := by rw [Int.add_mul, Int.one_mul]
theorem npw_add {n a b : Int} (ha : 0 ≤ a) (hb : 0 ≤ b) : n ^ (a + b).toNat = n ^ a.toNat * n ^ b.toNat := by
  rw [← Int.pow_add]
  congr 1
  omega
theorem npw_pos {n a : Int} (h1 : 1 ≤ n) : 1 ≤ n ^ a.toNat := by
  have : 0 < n ^ a.toNat := Int.pow_pos (by omega)
  omega
theorem npw_25 {n b : Int} (h1 : 1 ≤ n) (h5 : n ≤ 5) (h0 : 0 ≤ b) (h2 : b ≤ 2) : n ^ b.toNat ≤ 25 := by
  have hn : n = 1 ∨ n = 2 ∨ n = 3 ∨ n = 4 ∨ n = 5 := by omega
  have hb : b = 0 ∨ b = 1 ∨ b = 2 := by omega
  rcases hn with rfl | rfl | rfl | rfl | rfl <;> rcases hb with rfl | rfl | rfl <;> decide
/-- what the words out hold -/
abbrev tbo (s : zS) (u : Int) : Bool := tb (gJ s 177 47) (gJ s 177 48) u
section OPS
variable {s : zS} {n T : Int} {X Y : Vl}
/-- a ready state: n atoms, operands in places T and T + 1, out empty -/
def OpS (s : zS) (n T : Int) (Na Nb : Int) (X Y : Vl) : Prop := gI s 177 1 = n ∧ 1 ≤ n ∧ n ≤ 5 ∧ gI s 177 46 = T + 1 ∧ 0 ≤ T ∧ T + 1 < 128 ∧ RV Na (gJ s 198 T) (gJ s 199 T) X ∧ RV Nb (gJ s 198 (T + 1)) (gJ s 199 (T + 1)) Y ∧ ∀ u, 0 ≤ u → u < 128 → tbo s u = false
theorem m_product {a b : Int} (h : OpS s n T (n ^ a.toNat) (n ^ b.toNat) X Y) (a1 : 1 ≤ a) (b1 : 1 ≤ b) (hab : a + b ≤ 3) : ∃ s', f_209 a b s = some ((), s') ∧ RV (n ^ (a + b).toNat) (gJ s' 177 47) (gJ s' 177 48) (vArrow (n ^ b.toNat) X Y) := by
  obtain ⟨hn, n1, n5, hT, T0, T1, hX, hY, ho⟩ := h
  have hNa := npw_b n1 n5 (show 0 ≤ a by omega) (show a ≤ 3 by omega)
  have hNb := npw_25 n1 n5 (show 0 ≤ b by omega) (show b ≤ 2 by omega)
  have hNb1 := npw_pos (a := b) n1
  have hNab := npw_b n1 n5 (show 0 ≤ a + b by omega) hab
  rw [npw_add (by omega) (by omega)] at hNab ⊢
  have pb := m_power (s := s) (a := b) (by omega) (by omega)
  rw [hn] at pb
  generalize hm : n ^ b.toNat = m at *
  generalize hN : n ^ a.toNat = N at *
  obtain ⟨w, hw, hwb⟩ := m_part (lo := gJ s 198 (T + 1)) (hi := gJ s 199 (T + 1)) (v := 0) (m := m) (by decide) (by decide) (by omega) (by omega) (by omega)
  have hloop := zlp_F (B := fun (q : Int × zS) => b_209_34 a m w q.1 q.2) (I := fun q => 0 ≤ q.1 ∧ q.1 ≤ N ∧ zeq 181709681073906887137087125789180445426754346195578174481958208242185483348267765659986039067486622250153062629121068535064690528616448 s q.2 ∧ ∀ u, 0 ≤ u → u < 128 → tbo q.2 u = (decide (u < q.1 * m) && vArrow m X Y u)) (μ := fun q => (N - q.1).toNat) (Q := fun t => ∀ u, 0 ≤ u → u < 128 → tbo t u = (decide (u < N * m) && vArrow m X Y u)) (by
    rintro ⟨i, σ⟩ ⟨a1', a2', a3', a4'⟩
    dsimp only at a1' a2' a3' a4' ⊢
    have e1 : gI σ 177 1 = gI s 177 1 := a3'.i rfl
    have e2 : gI σ 177 46 = gI s 177 46 := a3'.i rfl
    have e3 := a3'.ja (c := 198) rfl rfl
    have e4 := a3'.ja (c := 199) rfl rfl
    have pa := m_power (s := σ) (a := a) (by omega) (by omega)
    rw [e1, hn, hN] at pa
    unfold b_209_34
    rw [zo_of pa, zg_pos ⟨by omega, by omega⟩, zg_pos ⟨by omega, by omega⟩]
    by_cases hc : i < N
    · left
      have hiN : i * m + m ≤ N * m := by
        have := mul_mono (m := m) (show i + 1 ≤ N by omega) (by omega)
        rw [succ_mul'] at this
        exact this
      have him : 0 ≤ i * m := Int.mul_nonneg a1' (by omega)
      rw [if_pos hc, e2, hT, show T + 1 - 1 = T by omega, zg_pos ⟨by omega, by omega⟩, e3, e4, m_bit a1' (by omega), zo_of rfl, hX i a1' (by omega), decide_eq_true hc, Bool.true_and]
      by_cases hxi : X i = true
      · obtain ⟨s', j1, j2⟩ := m_join (s := σ) (v := i * m) (w := w) him (by omega)
        rw [if_pos hxi, zg_pos (by decide), if_neg (by decide), zb_of j1]
        refine ⟨_, rfl, ⟨by dsimp only; omega, by dsimp only; omega, a3'.tr ((fr_212 j1).eq rfl), fun u u0 u1 => ?_⟩, by dsimp only; omega⟩
        dsimp only
        show tb (gJ s' 177 47) (gJ s' 177 48) u = _
        rw [j2 u u0 u1, show tb (gJ σ 177 47) (gJ σ 177 48) u = tbo σ u from rfl, a4' u u0 u1, succ_mul']
        by_cases hu : u < i * m
        · rw [decide_eq_true hu, decide_eq_false (show ¬ i * m ≤ u by omega), decide_eq_true (show u < i * m + m by omega)]
          simp
        · rw [decide_eq_false hu, decide_eq_true (show i * m ≤ u by omega), Bool.false_and, Bool.false_or, Bool.true_and]
          by_cases hu2 : u < i * m + m
          · obtain ⟨d1, d2⟩ := div_block (by omega) (show i * m ≤ u by omega) hu2
            rw [hwb (u - i * m) (by omega) (by omega), decide_eq_true (show u - i * m < m by omega), Bool.true_and, Int.zero_add, hY _ (by omega) (by omega), decide_eq_true (show u - i * m < m by omega), decide_eq_true hu2]
            unfold vArrow
            rw [d1, d2, hxi]
            rfl
          · rw [decide_eq_false hu2, Bool.false_and]
            by_cases hu3 : u - i * m < 64
            · rw [hwb (u - i * m) (by omega) hu3, decide_eq_false (by omega), Bool.false_and]
            · exact BitVec.getLsbD_of_ge _ _ (by omega)
      · rw [if_neg hxi, zg_pos (by decide), if_pos rfl]
        refine ⟨_, rfl, ⟨by dsimp only; omega, by dsimp only; omega, a3', fun u u0 u1 => ?_⟩, by dsimp only; omega⟩
        dsimp only
        rw [a4' u u0 u1, succ_mul']
        by_cases hu : u < i * m
        · rw [decide_eq_true hu, decide_eq_true (show u < i * m + m by omega)]
        · rw [decide_eq_false hu, Bool.false_and]
          by_cases hu2 : u < i * m + m
          · obtain ⟨d1, d2⟩ := div_block (by omega) (show i * m ≤ u by omega) hu2
            unfold vArrow
            rw [d1, Bool.not_eq_true _ |>.mp hxi]
            simp
          · rw [decide_eq_false hu2, Bool.false_and]
    · right
      rw [if_neg hc]
      have e : i = N := by omega
      rw [e] at a4'
      exact ⟨_, rfl, a4'⟩) (s := (0, s)) (by
    refine ⟨by dsimp only; omega, by dsimp only; omega, zeq.rf _ _, fun u u0 u1 => ?_⟩
    dsimp only
    rw [ho u u0 u1, Int.zero_mul, decide_eq_false (by omega), Bool.false_and]) (by dsimp only; omega)
  obtain ⟨t, ht, hq⟩ := hloop
  refine ⟨t, ?_, hq⟩
  unfold f_209
  rw [zo_of pb, hT, zg_pos ⟨by omega, by omega⟩, zo_of hw, zo_of ht]
theorem m_lasts {a : Int} (h : OpS s n T (n ^ a.toNat) n X Y) (a0 : 0 ≤ a) (a3 : a ≤ 3) : ∃ s', f_215 a s = some ((), s') ∧ RV (n ^ a.toNat) (gJ s' 177 47) (gJ s' 177 48) (vLast n X Y) := by
  obtain ⟨hn, n1, n5, hT, T0, T1, hX, hY, ho⟩ := h
  have hNa := npw_b n1 n5 a0 a3
  generalize hN : n ^ a.toNat = N at *
  have hloop := zlp_F (B := fun (q : Int × zS) => b_215_2 a q.1 q.2) (I := fun q => 0 ≤ q.1 ∧ q.1 ≤ N ∧ zeq 181709681073906887137087125789180445426754346195578174481958208242185483348267765659986039067486622250153062629121068535064690528616448 s q.2 ∧ ∀ u, 0 ≤ u → u < 128 → tbo q.2 u = (decide (u < q.1) && vLast n X Y u)) (μ := fun q => (N - q.1).toNat) (Q := fun t => ∀ u, 0 ≤ u → u < 128 → tbo t u = (decide (u < N) && vLast n X Y u)) (by
    rintro ⟨i, σ⟩ ⟨a1', a2', a3', a4'⟩
    dsimp only at a1' a2' a3' a4' ⊢
    have e1 : gI σ 177 1 = gI s 177 1 := a3'.i rfl
    have e2 : gI σ 177 46 = gI s 177 46 := a3'.i rfl
    have e3 := a3'.ja (c := 198) rfl rfl
    have e4 := a3'.ja (c := 199) rfl rfl
    have pa := m_power (s := σ) (a := a) (by omega) (by omega)
    rw [e1, hn, hN] at pa
    have hmod := Int.emod_nonneg i (show n ≠ 0 by omega)
    have hmod2 := Int.emod_lt_of_pos i (show 0 < n by omega)
    have hstep : ∀ u, 0 ≤ u → u < 128 → ¬ u = i → decide (u < i + 1) = decide (u < i) := fun u u0 u1 hu => decide_eq_decide.mpr (by omega)
    unfold b_215_2
    rw [zo_of pa, zg_pos ⟨by omega, by omega⟩, zg_pos ⟨by omega, by omega⟩]
    by_cases hc : i < N
    · left
      rw [if_pos hc, e2, hT, show T + 1 - 1 = T by omega, zg_pos ⟨by omega, by omega⟩, e3, e4, m_bit a1' (by omega), zo_of rfl, hX i a1' (by omega), decide_eq_true hc, Bool.true_and]
      by_cases hxi : X i = true
      · rw [if_pos hxi, zg_pos (by decide), if_neg (by decide), zg_pos ⟨by omega, by omega⟩, e1, hn, zg_pos ⟨a1', ⟨by omega, by omega⟩, by omega, ⟨by omega, by omega⟩⟩, e3, m_bit hmod (by omega), zo_of rfl]
        have hyt : tb (gJ s 198 (T + 1)) (0#64) (i % n) = Y (i % n) := by
          rw [tb_lo (by omega), ← tb_lo (hi := gJ s 199 (T + 1)) (by omega), hY _ hmod (by omega), decide_eq_true hmod2, Bool.true_and]
        rw [hyt]
        by_cases hyi : Y (i % n) = true
        · obtain ⟨s', j1, j2⟩ := m_join (s := σ) (v := i) (w := 1#64) a1' (by omega)
          rw [if_pos hyi, zg_pos (by decide), if_neg (by decide), zb_of j1]
          refine ⟨_, rfl, ⟨by dsimp only; omega, by dsimp only; omega, a3'.tr ((fr_212 j1).eq rfl), fun u u0 u1 => ?_⟩, by dsimp only; omega⟩
          dsimp only
          show tb (gJ s' 177 47) (gJ s' 177 48) u = _
          rw [j2 u u0 u1, show tb (gJ σ 177 47) (gJ σ 177 48) u = tbo σ u from rfl, a4' u u0 u1, BitVec.getLsbD_one]
          by_cases hu : u = i
          · have h0 : (u - i).toNat = 0 := by omega
            rw [h0, decide_eq_true (show i ≤ u by omega), decide_eq_true (show u < i + 1 by omega)]
            unfold vLast
            rw [hu, hxi, hyi]
            simp
          · rw [hstep u u0 u1 hu]
            by_cases h3 : i ≤ u
            · have h0 : ¬ (u - i).toNat = 0 := by omega
              simp [h0]
            · rw [decide_eq_false h3, Bool.false_and, Bool.or_false]
        · rw [if_neg hyi, zg_pos (by decide), if_pos rfl]
          refine ⟨_, rfl, ⟨by dsimp only; omega, by dsimp only; omega, a3', fun u u0 u1 => ?_⟩, by dsimp only; omega⟩
          dsimp only
          rw [a4' u u0 u1]
          by_cases hu : u = i
          · unfold vLast
            rw [hu, Bool.not_eq_true _ |>.mp hyi]
            simp
          · rw [hstep u u0 u1 hu]
      · rw [if_neg hxi, zg_pos (by decide), if_pos rfl]
        refine ⟨_, rfl, ⟨by dsimp only; omega, by dsimp only; omega, a3', fun u u0 u1 => ?_⟩, by dsimp only; omega⟩
        dsimp only
        rw [a4' u u0 u1]
        by_cases hu : u = i
        · unfold vLast
          rw [hu, Bool.not_eq_true _ |>.mp hxi]
          simp
        · rw [hstep u u0 u1 hu]
    · right
      rw [if_neg hc]
      have e : i = N := by omega
      rw [e] at a4'
      exact ⟨_, rfl, a4'⟩) (s := (0, s)) (by
    refine ⟨by dsimp only; omega, by dsimp only; omega, zeq.rf _ _, fun u u0 u1 => ?_⟩
    dsimp only
    rw [ho u u0 u1, decide_eq_false (by omega), Bool.false_and]) (by dsimp only; omega)
  obtain ⟨t, ht, hq⟩ := hloop
  exact ⟨t, by unfold f_215; rw [zo_of ht], hq⟩
end OPS
