/-! VALUES: the reference's firsts, override, dot. -/
theorem tb_lo0 {lo hi : BitVec 64} {t : Int} (h : t < 64) : tb lo (0#64) t = tb lo hi t := by rw [tb_lo h, tb_lo h]
section OPS2
variable {s : zS} {n T : Int} {X Y : Vl}
theorem m_firsts {b : Int} (h : OpS s n T n (n ^ b.toNat) X Y) (b1 : 1 ≤ b) (b3 : b ≤ 3) : ∃ s', f_214 b s = some ((), s') ∧ RV (n ^ b.toNat) (gJ s' 177 47) (gJ s' 177 48) (vFirst (n ^ (b - 1).toNat) X Y) := by
  obtain ⟨hn, n1, n5, hT, T0, T1, hX, hY, ho⟩ := h
  have hm25 := npw_25 n1 n5 (show 0 ≤ b - 1 by omega) (show b - 1 ≤ 2 by omega)
  have hm1 := npw_pos (a := b - 1) n1
  have hNb := npw_b n1 n5 (show 0 ≤ b by omega) b3
  have hsp : n ^ b.toNat = n * n ^ (b - 1).toNat := by
    rw [show b.toNat = (b - 1).toNat + 1 by omega, Int.pow_succ, Int.mul_comm]
  rw [hsp] at hNb hY ⊢
  have pb := m_power (s := s) (a := b - 1) (by omega) (by omega)
  rw [hn] at pb
  generalize hm : n ^ (b - 1).toNat = m at *
  have hloop := zlp_F (B := fun (q : Int × zS) => b_214_10 m q.1 q.2) (I := fun q => 0 ≤ q.1 ∧ q.1 ≤ n ∧ zeq 181709681073906887137087125789180445426754346195578174481958208242185483348267765659986039067486622250153062629121068535064690528616448 s q.2 ∧ ∀ u, 0 ≤ u → u < 128 → tbo q.2 u = (decide (u < q.1 * m) && vFirst m X Y u)) (μ := fun q => (n - q.1).toNat) (Q := fun t => ∀ u, 0 ≤ u → u < 128 → tbo t u = (decide (u < n * m) && vFirst m X Y u)) (by
    rintro ⟨i, σ⟩ ⟨a1', a2', a3', a4'⟩
    dsimp only at a1' a2' a3' a4' ⊢
    have e1 : gI σ 177 1 = gI s 177 1 := a3'.i rfl
    have e2 : gI σ 177 46 = gI s 177 46 := a3'.i rfl
    have e3 := a3'.ja (c := 198) rfl rfl
    have e4 := a3'.ja (c := 199) rfl rfl
    unfold b_214_10
    rw [zg_pos ⟨by omega, by omega⟩, e1, hn]
    by_cases hc : i < n
    · left
      have hiN : i * m + m ≤ n * m := by
        have := mul_mono (m := m) (show i + 1 ≤ n by omega) (by omega)
        rw [succ_mul'] at this
        exact this
      have him : 0 ≤ i * m := Int.mul_nonneg a1' (by omega)
      rw [if_pos hc, e2, hT, show T + 1 - 1 = T by omega, zg_pos ⟨by omega, by omega⟩, e3, m_bit a1' (by omega), zo_of rfl, tb_lo0 (hi := gJ s 199 T) (by omega), hX i a1' (by omega), decide_eq_true hc, Bool.true_and]
      by_cases hxi : X i = true
      · obtain ⟨w, hw, hwb⟩ := m_part (lo := gJ s 198 (T + 1)) (hi := gJ s 199 (T + 1)) (v := i * m) (m := m) him (by omega) (by omega) (by omega) (by omega)
        obtain ⟨s', j1, j2⟩ := m_join (s := σ) (v := i * m) (w := w) him (by omega)
        rw [if_pos hxi, zg_pos (by decide), if_neg (by decide), zg_pos ⟨by omega, by omega⟩, e3, e4, zo_of hw, zb_of j1]
        refine ⟨_, rfl, ⟨by dsimp only; omega, by dsimp only; omega, a3'.tr ((fr_212 j1).eq rfl), fun u u0 u1 => ?_⟩, by dsimp only; omega⟩
        dsimp only
        show tb (gJ s' 177 47) (gJ s' 177 48) u = _
        rw [j2 u u0 u1, show tb (gJ σ 177 47) (gJ σ 177 48) u = tbo σ u from rfl, a4' u u0 u1, succ_mul']
        by_cases hu : u < i * m
        · rw [decide_eq_true hu, decide_eq_false (show ¬ i * m ≤ u by omega), decide_eq_true (show u < i * m + m by omega)]
          simp
        · rw [decide_eq_false hu, decide_eq_true (show i * m ≤ u by omega), Bool.false_and, Bool.false_or, Bool.true_and]
          by_cases hu2 : u < i * m + m
          · obtain ⟨d1, d2⟩ := div_block (by omega) (show i * m ≤ u by omega) hu2
            rw [hwb (u - i * m) (by omega) (by omega), decide_eq_true (show u - i * m < m by omega), Bool.true_and, show i * m + (u - i * m) = u by omega, hY u u0 u1, decide_eq_true (show u < n * m by omega), decide_eq_true hu2]
            unfold vFirst
            rw [d1, hxi]
            rfl
          · rw [decide_eq_false hu2, Bool.false_and]
            by_cases hu3 : u - i * m < 64
            · rw [hwb (u - i * m) (by omega) hu3, decide_eq_false (by omega), Bool.false_and]
            · exact BitVec.getLsbD_of_ge _ _ (by omega)
      · rw [if_neg hxi, zg_pos (by decide), if_pos rfl]
        refine ⟨_, rfl, ⟨by dsimp only; omega, by dsimp only; omega, a3', fun u u0 u1 => ?_⟩, by dsimp only; omega⟩
        dsimp only
        rw [a4' u u0 u1, succ_mul']
        by_cases hu : u < i * m
        · rw [decide_eq_true hu, decide_eq_true (show u < i * m + m by omega)]
        · rw [decide_eq_false hu, Bool.false_and]
          by_cases hu2 : u < i * m + m
          · obtain ⟨d1, d2⟩ := div_block (by omega) (show i * m ≤ u by omega) hu2
            unfold vFirst
            rw [d1, Bool.not_eq_true _ |>.mp hxi]
            simp
          · rw [decide_eq_false hu2, Bool.false_and]
    · right
      rw [if_neg hc]
      have e : i = n := by omega
      rw [e] at a4'
      exact ⟨_, rfl, a4'⟩) (s := (0, s)) (by
    refine ⟨by dsimp only; omega, by dsimp only; omega, zeq.rf _ _, fun u u0 u1 => ?_⟩
    dsimp only
    rw [ho u u0 u1, Int.zero_mul, decide_eq_false (by omega), Bool.false_and]) (by dsimp only; omega)
  obtain ⟨t, ht, hq⟩ := hloop
  exact ⟨t, by unfold f_214; rw [zo_of pb, zo_of ht], hq⟩
/-- a row of pairs is empty -/
theorem row_empty {w : BitVec 64} {n : Int} {f : Int → Bool} (n5 : n ≤ 5) (hw : ∀ j : Int, 0 ≤ j → j < 64 → w.getLsbD j.toNat = (decide (j < n) && f j)) : (w = 0#64) ↔ zany n.toNat f = false := by
  constructor
  · intro h
    cases hz : zany n.toNat f with
    | false => rfl
    | true =>
      obtain ⟨i, i0, i1, i2⟩ := zany_iff.mp hz
      have := hw i i0 (by omega)
      rw [h, i2, decide_eq_true (show i < n by omega)] at this
      simp at this
  · intro h
    apply BitVec.eq_of_getLsbD_eq
    intro i hi
    have := hw (i : Int) (by omega) (by omega)
    rw [show ((i : Int)).toNat = i by omega] at this
    rw [this]
    by_cases hin : (i : Int) < n
    · cases hf : f i with
      | false => simp
      | true =>
        have := (zany_iff (n := n.toNat) (f := f)).mpr ⟨(i : Int), by omega, by omega, hf⟩
        rw [h] at this
        cases this
    · rw [decide_eq_false hin]
      simp
theorem m_override (h : OpS s n T (n * n) (n * n) X Y) : ∃ s', f_213 s = some ((), s') ∧ RV (n * n) (gJ s' 177 47) (gJ s' 177 48) (vOver n X Y) := by
  obtain ⟨hn, n1, n5, hT, T0, T1, hX, hY, ho⟩ := h
  have hnn : n * n ≤ 25 := by
    have hc : n = 1 ∨ n = 2 ∨ n = 3 ∨ n = 4 ∨ n = 5 := by omega
    rcases hc with rfl | rfl | rfl | rfl | rfl <;> decide
  have hloop := zlp_F (B := fun (q : Int × zS) => b_213_2 q.1 q.2) (I := fun q => 0 ≤ q.1 ∧ q.1 ≤ n ∧ zeq 181709681073906887137087125789180445426754346195578174481958208242185483348267765659986039067486622250153062629121068535064690528616448 s q.2 ∧ ∀ u, 0 ≤ u → u < 128 → tbo q.2 u = (decide (u < q.1 * n) && vOver n X Y u)) (μ := fun q => (n - q.1).toNat) (Q := fun t => ∀ u, 0 ≤ u → u < 128 → tbo t u = (decide (u < n * n) && vOver n X Y u)) (by
    rintro ⟨i, σ⟩ ⟨a1', a2', a3', a4'⟩
    dsimp only at a1' a2' a3' a4' ⊢
    have e1 : gI σ 177 1 = gI s 177 1 := a3'.i rfl
    have e2 : gI σ 177 46 = gI s 177 46 := a3'.i rfl
    have e3 := a3'.ja (c := 198) rfl rfl
    unfold b_213_2
    rw [zg_pos ⟨by omega, by omega⟩, e1, hn]
    by_cases hc : i < n
    · left
      have hiN : i * n + n ≤ n * n := by
        have := mul_mono (m := n) (show i + 1 ≤ n by omega) (by omega)
        rw [succ_mul'] at this
        exact this
      have him : 0 ≤ i * n := Int.mul_nonneg a1' (by omega)
      obtain ⟨w, hw, hwb⟩ := m_part (lo := gJ s 198 (T + 1)) (hi := 0#64) (v := i * n) (m := n) him (by omega) (by omega) (by omega) (by omega)
      obtain ⟨x, hx, hxb⟩ := m_part (lo := gJ s 198 T) (hi := 0#64) (v := i * n) (m := n) him (by omega) (by omega) (by omega) (by omega)
      have hwb' : ∀ j : Int, 0 ≤ j → j < 64 → w.getLsbD j.toNat = (decide (j < n) && Y (i * n + j)) := fun j j0 j1 => by
        rw [hwb j j0 j1]
        by_cases hj : j < n
        · rw [decide_eq_true hj, Bool.true_and, Bool.true_and, tb_lo0 (hi := gJ s 199 (T + 1)) (by omega), hY _ (by omega) (by omega), decide_eq_true (by omega), Bool.true_and]
        · rw [decide_eq_false hj, Bool.false_and, Bool.false_and]
      have hxb' : ∀ j : Int, 0 ≤ j → j < 64 → x.getLsbD j.toNat = (decide (j < n) && X (i * n + j)) := fun j j0 j1 => by
        rw [hxb j j0 j1]
        by_cases hj : j < n
        · rw [decide_eq_true hj, Bool.true_and, Bool.true_and, tb_lo0 (hi := gJ s 199 T) (by omega), hX _ (by omega) (by omega), decide_eq_true (by omega), Bool.true_and]
        · rw [decide_eq_false hj, Bool.false_and, Bool.false_and]
      have hre := row_empty n5 hwb'
      -- whichever row is laid, it is the result's
      have hlay : ∀ (z : BitVec 64), (∀ j : Int, 0 ≤ j → j < 64 → z.getLsbD j.toNat = (decide (j < n) && vOver n X Y (i * n + j))) → ∃ q, zb (f_212 (i * n) z σ) (fun _ s12 => some (Sum.inl ((i + 1), s12))) = some (Sum.inl q : (Int × zS) ⊕ zS) ∧ (0 ≤ q.1 ∧ q.1 ≤ n ∧ zeq 181709681073906887137087125789180445426754346195578174481958208242185483348267765659986039067486622250153062629121068535064690528616448 s q.2 ∧ ∀ u, 0 ≤ u → u < 128 → tbo q.2 u = (decide (u < q.1 * n) && vOver n X Y u)) ∧ (n - q.1).toNat < (n - i).toNat := by
        intro z hz
        obtain ⟨s', j1, j2⟩ := m_join (s := σ) (v := i * n) (w := z) him (by omega)
        rw [zb_of j1]
        refine ⟨_, rfl, ⟨by dsimp only; omega, by dsimp only; omega, a3'.tr ((fr_212 j1).eq rfl), fun u u0 u1 => ?_⟩, by dsimp only; omega⟩
        dsimp only
        show tb (gJ s' 177 47) (gJ s' 177 48) u = _
        rw [j2 u u0 u1, show tb (gJ σ 177 47) (gJ σ 177 48) u = tbo σ u from rfl, a4' u u0 u1, succ_mul']
        by_cases hu : u < i * n
        · rw [decide_eq_true hu, decide_eq_false (show ¬ i * n ≤ u by omega), decide_eq_true (show u < i * n + n by omega)]
          simp
        · rw [decide_eq_false hu, decide_eq_true (show i * n ≤ u by omega), Bool.false_and, Bool.false_or, Bool.true_and]
          by_cases hu3 : u - i * n < 64
          · rw [hz (u - i * n) (by omega) hu3, show i * n + (u - i * n) = u by omega]
            congr 1
            apply decide_eq_decide.mpr
            omega
          · rw [BitVec.getLsbD_of_ge _ _ (by omega), decide_eq_false (by omega), Bool.false_and]
      have hdiv : ∀ j : Int, 0 ≤ j → j < n → (i * n + j) / n = i := fun j j0 j1 => (div_block (by omega) (show i * n ≤ i * n + j by omega) (by omega)).1
      rw [if_pos hc, e2, hT, zg_pos ⟨by omega, by omega⟩, e3, zo_of hw]
      by_cases hw0 : w = 0#64
      · rw [if_pos hw0, show T + 1 - 1 = T by omega, zg_pos ⟨by omega, by omega⟩, e3, zo_of hx]
        refine hlay x (fun j j0 j1 => ?_)
        rw [hxb' j j0 j1]
        by_cases hj : j < n
        · have hz := hre.mp hw0
          unfold vOver
          rw [hdiv j j0 hj, hz]
          have hyj : Y (i * n + j) = false := by
            cases hY2 : Y (i * n + j) with
            | false => rfl
            | true =>
              have := (zany_iff (n := n.toNat) (f := fun j => Y (i * n + j))).mpr ⟨j, j0, by omega, hY2⟩
              rw [hz] at this
              cases this
          rw [hyj]
          simp
        · rw [decide_eq_false hj, Bool.false_and, Bool.false_and]
      · rw [if_neg hw0]
        refine hlay w (fun j j0 j1 => ?_)
        rw [hwb' j j0 j1]
        by_cases hj : j < n
        · have hz : zany n.toNat (fun j => Y (i * n + j)) = true := by
            cases hz : zany n.toNat (fun j => Y (i * n + j)) with
            | true => rfl
            | false => exact absurd (hre.mpr hz) hw0
          unfold vOver
          rw [hdiv j j0 hj, hz]
          simp
        · rw [decide_eq_false hj, Bool.false_and, Bool.false_and]
    · right
      rw [if_neg hc]
      have e : i = n := by omega
      rw [e] at a4'
      exact ⟨_, rfl, a4'⟩) (s := (0, s)) (by
    refine ⟨by dsimp only; omega, by dsimp only; omega, zeq.rf _ _, fun u u0 u1 => ?_⟩
    dsimp only
    rw [ho u u0 u1, Int.zero_mul, decide_eq_false (by omega), Bool.false_and]) (by dsimp only; omega)
  obtain ⟨t, ht, hq⟩ := hloop
  exact ⟨t, by unfold f_213; rw [zo_of ht], hq⟩
theorem m_dot {a b : Int} (h : OpS s n T (n ^ a.toNat) (n ^ b.toNat) X Y) (a1 : 1 ≤ a) (b1 : 1 ≤ b) (a3 : a ≤ 3) (b3 : b ≤ 3) (hab : a + b - 2 ≤ 3) : ∃ s', f_216 a b s = some ((), s') ∧ RV (n ^ (a + b - 2).toNat) (gJ s' 177 47) (gJ s' 177 48) (vDot n (n ^ (b - 1).toNat) X Y) := by
  obtain ⟨hn, n1, n5, hT, T0, T1, hX, hY, ho⟩ := h
  have hm25 := npw_25 n1 n5 (show 0 ≤ b - 1 by omega) (show b - 1 ≤ 2 by omega)
  have hm1 := npw_pos (a := b - 1) n1
  have hk1 := npw_pos (a := a - 1) n1
  have hNb := npw_b n1 n5 (show 0 ≤ b by omega) b3
  have hNa := npw_b n1 n5 (show 0 ≤ a by omega) a3
  have hNr := npw_b n1 n5 (show 0 ≤ a + b - 2 by omega) hab
  have hspb : n ^ b.toNat = n * n ^ (b - 1).toNat := by
    rw [show b.toNat = (b - 1).toNat + 1 by omega, Int.pow_succ, Int.mul_comm]
  have hspa : n ^ a.toNat = n ^ (a - 1).toNat * n := by
    rw [show a.toNat = (a - 1).toNat + 1 by omega, Int.pow_succ]
  have hspr : n ^ (a + b - 2).toNat = n ^ (a - 1).toNat * n ^ (b - 1).toNat := by
    rw [← npw_add (by omega) (by omega)]
    congr 2
    omega
  rw [hspb] at hNb hY
  have pa0 : ∀ σ : zS, gI σ 177 1 = n → f_153 a σ = some (n ^ (a - 1).toNat * n) := fun σ hσ => by
    rw [m_power (s := σ) (a := a) (by omega) (by omega), hσ, hspa]
  rw [hspa] at hNa hX
  rw [hspr] at hNr ⊢
  have pb := m_power (s := s) (a := b - 1) (by omega) (by omega)
  rw [hn] at pb
  generalize hm : n ^ (b - 1).toNat = m at *
  generalize hK : n ^ (a - 1).toNat = K at *
  have hloop := zlp_F (B := fun (q : Int × zS) => b_216_11 a m q.1 q.2) (I := fun q => 0 ≤ q.1 ∧ q.1 ≤ K * n ∧ zeq 181709681073906887137087125789180445426754346195578174481958208242185483348267765659986039067486622250153062629121068535064690528616448 s q.2 ∧ ∀ u, 0 ≤ u → u < 128 → tbo q.2 u = zany q.1.toNat (fun t => X t && (decide (t / n = u / m) && Y (t % n * m + u % m)))) (μ := fun q => (K * n - q.1).toNat) (Q := fun t => ∀ u, 0 ≤ u → u < 128 → tbo t u = zany (K * n).toNat (fun t => X t && (decide (t / n = u / m) && Y (t % n * m + u % m)))) (by
    rintro ⟨i, σ⟩ ⟨a1', a2', a3', a4'⟩
    dsimp only at a1' a2' a3' a4' ⊢
    have e1 : gI σ 177 1 = n := by rw [a3'.i (c := 177) (i := 1) rfl]; exact hn
    have e2 : gI σ 177 46 = gI s 177 46 := a3'.i rfl
    have e3 := a3'.ja (c := 198) rfl rfl
    have e4 := a3'.ja (c := 199) rfl rfl
    have hmod := Int.emod_nonneg i (show n ≠ 0 by omega)
    have hmod2 := Int.emod_lt_of_pos i (show 0 < n by omega)
    have ez : (i + 1).toNat = i.toNat + 1 := by omega
    have ei : ((i.toNat : Nat) : Int) = i := by omega
    unfold b_216_11
    rw [zo_of (pa0 σ e1), zg_pos ⟨by omega, by omega⟩, zg_pos ⟨by omega, by omega⟩]
    by_cases hc : i < K * n
    · left
      have hq0 : 0 ≤ i / n := Int.ediv_nonneg a1' (by omega)
      have hq1 : i / n < K := div_lt (by omega) hc
      have hqm : i / n * m + m ≤ K * m := by
        have := mul_mono (m := m) (show i / n + 1 ≤ K by omega) (by omega)
        rw [succ_mul'] at this
        exact this
      have hqm0 : 0 ≤ i / n * m := Int.mul_nonneg hq0 (by omega)
      have hrm : i % n * m + m ≤ n * m := by
        have := mul_mono (m := m) (show i % n + 1 ≤ n by omega) (by omega)
        rw [succ_mul'] at this
        exact this
      have hrm0 : 0 ≤ i % n * m := Int.mul_nonneg hmod (by omega)
      rw [if_pos hc, e2, hT, show T + 1 - 1 = T by omega, zg_pos ⟨by omega, by omega⟩, e3, e4, m_bit a1' (by omega), zo_of rfl, hX i a1' (by omega), decide_eq_true hc, Bool.true_and]
      by_cases hxi : X i = true
      · obtain ⟨w, hw, hwb⟩ := m_part (lo := gJ s 198 (T + 1)) (hi := gJ s 199 (T + 1)) (v := i % n * m) (m := m) hrm0 (by omega) (by omega) (by omega) (by omega)
        obtain ⟨s', j1, j2⟩ := m_join (s := σ) (v := i / n * m) (w := w) hqm0 (by omega)
        rw [if_pos hxi, zg_pos (by decide), if_neg (by decide), e1, zg_pos ⟨a1', ⟨by omega, by omega⟩, by omega, ⟨by omega, by omega⟩⟩, zg_pos ⟨by omega, by omega⟩, e3, e4, zo_of hw, zb_of j1]
        refine ⟨_, rfl, ⟨by dsimp only; omega, by dsimp only; omega, a3'.tr ((fr_212 j1).eq rfl), fun u u0 u1 => ?_⟩, by dsimp only; omega⟩
        dsimp only
        show tb (gJ s' 177 47) (gJ s' 177 48) u = _
        rw [j2 u u0 u1, show tb (gJ σ 177 47) (gJ σ 177 48) u = tbo σ u from rfl, a4' u u0 u1, ez, zany, ei, hxi, Bool.true_and]
        congr 1
        by_cases hu : i / n * m ≤ u
        · rw [decide_eq_true hu, Bool.true_and]
          by_cases hu2 : u < i / n * m + m
          · obtain ⟨d1, d2⟩ := div_block (by omega) hu hu2
            rw [hwb (u - i / n * m) (by omega) (by omega), decide_eq_true (show u - i / n * m < m by omega), Bool.true_and, d1, d2, hY _ (by omega) (by omega), decide_eq_true (show i % n * m + (u - i / n * m) < n * m by omega), decide_eq_true rfl, Bool.true_and]
          · have hd := div_ge (m := m) (t := i / n + 1) (u := u) (by omega) (by rw [succ_mul']; omega)
            rw [decide_eq_false (show ¬ i / n = u / m by omega), Bool.false_and]
            by_cases hu3 : u - i / n * m < 64
            · rw [hwb (u - i / n * m) (by omega) hu3, decide_eq_false (by omega), Bool.false_and]
            · exact BitVec.getLsbD_of_ge _ _ (by omega)
        · have hd := div_lt (m := m) (t := i / n) (u := u) (by omega) (by omega)
          rw [decide_eq_false hu, Bool.false_and, decide_eq_false (show ¬ i / n = u / m by omega), Bool.false_and]
      · rw [if_neg hxi, zg_pos (by decide), if_pos rfl]
        refine ⟨_, rfl, ⟨by dsimp only; omega, by dsimp only; omega, a3', fun u u0 u1 => ?_⟩, by dsimp only; omega⟩
        dsimp only
        rw [a4' u u0 u1, ez, zany, ei, Bool.not_eq_true _ |>.mp hxi, Bool.false_and, Bool.or_false]
    · right
      rw [if_neg hc]
      have e : i = K * n := by omega
      rw [e] at a4'
      exact ⟨_, rfl, a4'⟩) (s := (0, s)) (by
    refine ⟨by dsimp only; omega, by dsimp only; omega, zeq.rf _ _, fun u u0 u1 => ?_⟩
    dsimp only
    rw [ho u u0 u1]
    rfl) (by dsimp only; omega)
  obtain ⟨t, ht, hq⟩ := hloop
  refine ⟨t, by unfold f_216; rw [zo_of pb, zo_of ht], fun u u0 u1 => ?_⟩
  rw [show tb (gJ t 177 47) (gJ t 177 48) u = tbo t u from rfl, hq u u0 u1]
  have hdm := div_mul_mod u m
  have hr0 := Int.emod_nonneg u (show m ≠ 0 by omega)
  have hr1 := Int.emod_lt_of_pos u (show 0 < m by omega)
  have hd0 : 0 ≤ u / m := Int.ediv_nonneg u0 (by omega)
  unfold vDot
  apply Bool.eq_iff_iff.mpr
  rw [zany_iff, Bool.and_eq_true, decide_eq_true_iff, zany_iff]
  constructor
  · rintro ⟨i, i0, i1, hi⟩
    simp only [Bool.and_eq_true, decide_eq_true_iff] at hi
    obtain ⟨h1, h2, h3⟩ := hi
    have hiK : i / n < K := div_lt (by omega) (by omega)
    have hin0 := Int.emod_nonneg i (show n ≠ 0 by omega)
    have hin1 := Int.emod_lt_of_pos i (show 0 < n by omega)
    have hdi := div_mul_mod i n
    refine ⟨?_, i % n, hin0, by omega, ?_⟩
    · have := mul_mono (m := m) (show u / m + 1 ≤ K by omega) (by omega)
      rw [succ_mul'] at this
      omega
    · rw [← h2, hdi, h1, h3]
      rfl
  · rintro ⟨hu, k, k0, k1, hk⟩
    simp only [Bool.and_eq_true] at hk
    have huK : u / m < K := div_lt (by omega) hu
    have hb := div_block (m := n) (t := u / m) (u := u / m * n + k) (by omega) (by omega) (by omega)
    have hlt : u / m * n + k < K * n := by
      have := mul_mono (m := n) (show u / m + 1 ≤ K by omega) (by omega)
      rw [succ_mul'] at this
      omega
    refine ⟨u / m * n + k, by have := Int.mul_nonneg hd0 (show 0 ≤ n by omega); omega, by omega, ?_⟩
    simp only [Bool.and_eq_true, decide_eq_true_iff]
    refine ⟨hk.1, hb.1, ?_⟩
    rw [hb.2, show u / m * n + k - u / m * n = k by omega]
    exact hk.2
end OPS2
