/-! WHICH RENAMINGS ARE FAIR: in the class and in the reference. -/
theorem pt_loop {n w x p y : Int} : y + x * w + w * n * p = y + w * (p * n + x) := by
  rw [Int.mul_add, Int.mul_comm w x, Int.mul_assoc w n p, Int.mul_comm n p]
  omega
theorem c_imageOf {s : zS} {n c t ar : Int} (hn : gI s 1 0 = n) (n1 : 1 ≤ n) (n5 : n ≤ 5) (hE : ∀ x, 0 ≤ x → x < n → gI s 26 x = dgI n c x) (t0 : 0 ≤ t) (tR : zR t) (a0 : 0 ≤ ar) (a3 : ar ≤ 3) : f_132 t ar s = some (pt n (dgI n c) ar.toNat t) := by
  have hl := zlp_F (B := fun (q : Int × Int × Int × Int) => b_132_27 ar n s q.1 q.2.1 q.2.2.1 q.2.2.2) (I := fun q => 0 ≤ q.2.2.2 ∧ q.2.2.2 ≤ ar ∧ 0 ≤ q.1 ∧ q.1 ≤ t ∧ q.2.2.1 + q.2.1 * pt n (dgI n c) (ar - q.2.2.2).toNat q.1 = pt n (dgI n c) ar.toNat t) (μ := fun q => (ar - q.2.2.2).toNat) (Q := fun y => y = pt n (dgI n c) ar.toNat t) (by
    rintro ⟨rest, w, y, i⟩ ⟨q1, q2, q3, q4, q5⟩
    dsimp only at q1 q2 q3 q4 q5 ⊢
    have := tR.2
    unfold b_132_27
    rw [zg_pos ⟨by omega, by omega⟩, zg_pos ⟨by omega, by omega⟩]
    by_cases hi : i < ar
    · left
      obtain ⟨m1, m2⟩ : 0 ≤ rest % n ∧ rest % n < n := ⟨Int.emod_nonneg _ (by omega), Int.emod_lt_of_pos _ (by omega)⟩
      have d1 : 0 ≤ rest / n := Int.ediv_nonneg q3 (by omega)
      have d2 : rest / n ≤ rest := Int.ediv_le_self n q3
      rw [if_pos hi, zg_pos ⟨q3, ⟨by omega, by omega⟩, by omega, ⟨by omega, by omega⟩⟩, zg_pos ⟨m1, by omega⟩, hE _ m1 m2]
      refine ⟨_, rfl, ⟨by dsimp only; omega, by dsimp only; omega, d1, by dsimp only; omega, ?_⟩, by dsimp only; omega⟩
      dsimp only
      rw [show (ar - i).toNat = (ar - (i + 1)).toNat + 1 by omega, pt] at q5
      rw [← q5]
      exact pt_loop
    · right
      rw [if_neg hi]
      have e : i = ar := by omega
      rw [e, show (ar - ar).toNat = 0 by omega, pt, Int.mul_zero, Int.add_zero] at q5
      exact ⟨_, rfl, q5⟩) (s := (t, 1, 0, 0)) ⟨by dsimp only; omega, by dsimp only; omega, t0, Int.le_refl _, by dsimp only; rw [Int.zero_add, Int.one_mul, show (ar - 0).toNat = ar.toNat by omega]⟩ (by dsimp only; omega)
  obtain ⟨y, ey, hy⟩ := hl
  unfold f_132
  rw [hn, if_neg (by omega), zo_of ey, hy]
theorem m_turned {s : zS} {n c t q : Int} (hn : gI s 177 1 = n) (n1 : 1 ≤ n) (n5 : n ≤ 5) (hE : ∀ x, 0 ≤ x → x < n → gI s 204 x = dgI n c x) (t0 : 0 ≤ t) (tR : zR t) (q0 : 0 ≤ q) (q8 : q < 8) (a0 : 0 ≤ gI s 180 q) (a3 : gI s 180 q ≤ 3) : f_232 0 q t s = some (pt n (dgI n c) (gI s 180 q).toNat t) := by
  obtain ⟨ar, har⟩ : ∃ ar, ar = gI s 180 q := ⟨_, rfl⟩
  rw [← har] at a0 a3 ⊢
  have hl := zlp_F (B := fun (q' : Int × Int × Int × Int) => b_232_12 0 q s q'.1 q'.2.1 q'.2.2.1 q'.2.2.2) (I := fun q => 0 ≤ q.2.2.2 ∧ q.2.2.2 ≤ ar ∧ 0 ≤ q.2.1 ∧ q.2.1 ≤ t ∧ q.1 + q.2.2.1 * pt n (dgI n c) (ar - q.2.2.2).toNat q.2.1 = pt n (dgI n c) ar.toNat t) (μ := fun q => (ar - q.2.2.2).toNat) (Q := fun y => y = pt n (dgI n c) ar.toNat t) (by
    rintro ⟨y, rest, w, i⟩ ⟨q1, q2, q3, q4, q5⟩
    dsimp only at q1 q2 q3 q4 q5 ⊢
    have := tR.2
    unfold b_232_12
    rw [zg_pos ⟨q0, q8⟩, zg_pos ⟨by omega, by omega⟩, ← har, hn]
    by_cases hi : i < ar
    · left
      obtain ⟨m1, m2⟩ : 0 ≤ rest % n ∧ rest % n < n := ⟨Int.emod_nonneg _ (by omega), Int.emod_lt_of_pos _ (by omega)⟩
      have d1 : 0 ≤ rest / n := Int.ediv_nonneg q3 (by omega)
      have d2 : rest / n ≤ rest := Int.ediv_le_self n q3
      rw [if_pos hi, zg_pos ⟨q3, ⟨by omega, by omega⟩, by omega, ⟨by omega, by omega⟩⟩, show (5 : Int) * 0 + rest % n = rest % n by omega, zg_pos ⟨m1, by omega⟩, hE _ m1 m2]
      refine ⟨_, rfl, ⟨by dsimp only; omega, by dsimp only; omega, d1, by dsimp only; omega, ?_⟩, by dsimp only; omega⟩
      dsimp only
      rw [show (ar - i).toNat = (ar - (i + 1)).toNat + 1 by omega, pt] at q5
      rw [← q5, Int.mul_comm w (dgI n c (rest % n))]
      exact pt_loop
    · right
      rw [if_neg hi]
      have e : i = ar := by omega
      rw [e, show (ar - ar).toNat = 0 by omega, pt, Int.mul_zero, Int.add_zero] at q5
      exact ⟨_, rfl, q5⟩) (s := (0, t, 1, 0)) ⟨by dsimp only; omega, by dsimp only; omega, t0, Int.le_refl _, by dsimp only; rw [Int.zero_add, Int.one_mul, show (ar - 0).toNat = ar.toNat by omega]⟩ (by dsimp only; omega)
  obtain ⟨y, ey, hy⟩ := hl
  unfold f_232
  rw [zo_of ey, hy]
theorem kim_qt {s : zS} {c q t : Int} (t0 : 0 ≤ t) (t1 : t < 125) : kim s c (q * 125 + t) = q * 125 + pt (gI s 1 0) (dgI (gI s 1 0) c) (gI s 4 q).toNat t := by
  unfold kim
  rw [show (q * 125 + t) / 125 = q by omega, show (q * 125 + t) % 125 = t by omega]
  omega
/-- one tuple is kept -/
def kpt (s : zS) (c q t : Int) : Prop := gI s 5 (q * 125 + t) = 0 ∨ gI s 5 (q * 125 + pt (gI s 1 0) (dgI (gI s 1 0) c) (gI s 4 q).toNat t) = gI s 5 (q * 125 + t)
theorem fairb_iff {s : zS} {c : Int} (hW : IW s) : fairb s c = true ↔ ∀ q t, 0 ≤ q → q < gI s 1 4 → 0 ≤ t → t < gI s 1 0 ^ (gI s 4 q).toNat → kpt s c q t := by
  unfold fairb
  rw [List.all_eq_true]
  constructor
  · intro h q t q0 q1 t0 t1
    have hb := tok_b hW (r := q) (t := t) ⟨q0, q1, t0, t1⟩
    have := h (q * 125 + t).toNat (List.mem_range.mpr (by omega))
    rw [Bool.or_eq_true, decide_eq_true_iff, decide_eq_true_iff, show (((q * 125 + t).toNat : Nat) : Int) = q * 125 + t by omega, kim_qt t0 (by omega)] at this
    exact this
  · intro h k hk
    have hk2 := List.mem_range.mp hk
    rw [Bool.or_eq_true, decide_eq_true_iff, decide_eq_true_iff]
    by_cases h0 : gI s 5 (k : Int) = 0
    · exact Or.inl h0
    · obtain ⟨b1, b2⟩ := (hW.2.2.2.2.1 (k : Int) (by omega) (by omega)).2.2.2 h0
      have e : (k : Int) = (k : Int) / 125 * 125 + (k : Int) % 125 := by omega
      have h1 := h ((k : Int) / 125) ((k : Int) % 125) (by omega) b1 (by omega) b2
      unfold kpt at h1
      rw [← e] at h1
      have h2 := kim_qt (s := s) (c := c) (q := (k : Int) / 125) (t := (k : Int) % 125) (by omega) (by omega)
      rw [← e] at h2
      rw [h2]
      exact h1
theorem pt_tok {s : zS} {c q t : Int} (hW : IW s) (hc : c ∈ cps (gI s 1 0)) (h : tok s q t) : tok s q (pt (gI s 1 0) (dgI (gI s 1 0) c) (gI s 4 q).toNat t) := by
  obtain ⟨⟨n1, n5, -⟩, -⟩ := id hW
  obtain ⟨d, -, hP⟩ := cps_iv n1 n5 hc
  obtain ⟨h1, h2⟩ := pt_b hP (gI s 4 q).toNat t h.2.2.1 h.2.2.2
  exact ⟨h.1, h.2.1, h1, h2⟩
theorem c_isFair {s : zS} {c : Int} (hW : IW s) (hc : c ∈ cps (gI s 1 0)) (hE : ∀ x, 0 ≤ x → x < gI s 1 0 → gI s 26 x = dgI (gI s 1 0) c x) : f_131 s = some (if fairb s c = true then 1 else 0) := by
  obtain ⟨⟨n1, n5, -⟩, -, ⟨r0, r8, -⟩, har, -⟩ := id hW
  have hin : ∀ q, 0 ≤ q → q < gI s 1 4 → ∃ e, zlp (fun (x : Int) => b_131_31 q (q * 125) (gI s 4 q) s x) zF 0 = some e ∧ Sum.elim (fun _ => ∀ t, 0 ≤ t → t < gI s 1 0 ^ (gI s 4 q).toNat → kpt s c q t) (fun r : Int => r = 0 ∧ ∃ t, 0 ≤ t ∧ t < gI s 1 0 ^ (gI s 4 q).toNat ∧ ¬ kpt s c q t) e := by
    intro q q0 q1
    have ha := har q q0 q1
    have hN := npw_b n1 n5 (a := gI s 4 q) (by omega) (by omega)
    refine zlp_F (I := fun x => 0 ≤ x ∧ x ≤ gI s 1 0 ^ (gI s 4 q).toNat ∧ ∀ t, 0 ≤ t → t < x → kpt s c q t) (μ := fun x => (gI s 1 0 ^ (gI s 4 q).toNat - x).toNat) (Q := fun e => Sum.elim (fun _ => ∀ t, 0 ≤ t → t < gI s 1 0 ^ (gI s 4 q).toNat → kpt s c q t) (fun r : Int => r = 0 ∧ ∃ t, 0 ≤ t ∧ t < gI s 1 0 ^ (gI s 4 q).toNat ∧ ¬ kpt s c q t) e) ?_ ⟨by omega, by omega, fun t h1 h2 => by omega⟩ (by omega)
    rintro x ⟨x1, x2, x3⟩
    unfold b_131_31
    rw [zo_of (c_sizeOf hW (by omega) (by omega)), zg_pos ⟨by omega, by omega⟩, zg_pos ⟨by omega, by omega⟩]
    by_cases hx : x < gI s 1 0 ^ (gI s 4 q).toNat
    · have hnext : kpt s c q x → ∀ t, 0 ≤ t → t < x + 1 → kpt s c q t := by
        intro hk t t0 t1
        by_cases e : t = x
        · rw [e]; exact hk
        · exact x3 t t0 (by omega)
      rw [if_pos hx, zg_pos ⟨by omega, by omega⟩]
      by_cases h0 : gI s 5 (q * 125 + x) = 0
      · left
        rw [if_pos h0]
        exact ⟨_, rfl, ⟨by omega, by omega, hnext (Or.inl h0)⟩, by omega⟩
      · have hpt := tok_b hW (pt_tok hW hc ⟨q0, q1, x1, hx⟩)
        rw [if_neg h0, zo_of (c_imageOf rfl n1 n5 hE x1 ⟨by omega, by omega⟩ (by omega) (by omega)), zg_pos ⟨by omega, by omega⟩]
        by_cases he : gI s 5 (q * 125 + pt (gI s 1 0) (dgI (gI s 1 0) c) (gI s 4 q).toNat x) = gI s 5 (q * 125 + x)
        · left
          rw [if_pos he]
          exact ⟨_, rfl, ⟨by omega, by omega, hnext (Or.inr he)⟩, by omega⟩
        · right
          rw [if_neg he]
          refine ⟨_, rfl, rfl, x, x1, hx, ?_⟩
          rintro (h | h)
          · exact h0 h
          · exact he h
    · right
      rw [if_neg hx]
      exact ⟨_, rfl, fun t t0 t1 => x3 t t0 (by omega)⟩
  have hl := zlp_F (B := fun (q : Int) => b_131_2 s q) (I := fun q => 0 ≤ q ∧ q ≤ gI s 1 4 ∧ ∀ p t, 0 ≤ p → p < q → 0 ≤ t → t < gI s 1 0 ^ (gI s 4 p).toNat → kpt s c p t) (μ := fun q => (gI s 1 4 - q).toNat) (Q := fun e => Sum.elim (fun _ => fairb s c = true) (fun r : Int => r = 0 ∧ fairb s c = false) e) (by
    rintro q ⟨q1, q2, q3⟩
    unfold b_131_2
    rw [zg_pos ⟨by omega, by omega⟩]
    by_cases hq : q < gI s 1 4
    · obtain ⟨e, ee, he⟩ := hin q q1 hq
      rw [if_pos hq, zg_pos ⟨q1, by omega⟩, zo_of ee]
      rcases e with u | r
      · left
        refine ⟨_, rfl, ⟨by omega, by omega, fun p t p0 p1 t0 t1 => ?_⟩, by omega⟩
        by_cases e : p = q
        · rw [e] at t1 ⊢
          exact he t t0 t1
        · exact q3 p t p0 (by omega) t0 t1
      · right
        obtain ⟨h1, t, t0, t1, h2⟩ := he
        refine ⟨_, rfl, h1, ?_⟩
        cases hf : fairb s c
        · rfl
        · exact absurd ((fairb_iff hW).mp hf q t q1 hq t0 t1) h2
    · right
      rw [if_neg hq]
      refine ⟨_, rfl, (fairb_iff hW).mpr (fun p t p0 p1 t0 t1 => q3 p t p0 (by omega) t0 t1)⟩) (s := 0) ⟨by decide, r0, fun p t p0 p1 => by omega⟩ (by omega)
  obtain ⟨e, ee, he⟩ := hl
  unfold f_131
  rw [zo_of ee]
  rcases e with u | r
  · have h2 : fairb s c = true := he
    rw [if_pos h2]
    rfl
  · obtain ⟨h1, h2⟩ := he
    rw [h2, if_neg (by decide), h1]
    rfl
/-- fair, as the reference asks it -/
def FULL (s : zS) (c : Int) : Prop := ∀ q t, 0 ≤ q → q < gI s 1 4 → 0 ≤ t → t < gI s 1 0 ^ (gI s 4 q).toNat → gI s 5 (q * 125 + t) = gI s 5 (q * 125 + pt (gI s 1 0) (dgI (gI s 1 0) c) (gI s 4 q).toNat t)
theorem zcnt_le {f g : Int → Bool} : ∀ {N : Nat}, (∀ i : Int, 0 ≤ i → i < N → f i = true → g i = true) → zcnt N f ≤ zcnt N g
  | 0, _ => Int.le_refl _
  | N + 1, h => by
    have ih := zcnt_le (f := f) (g := g) (N := N) (fun i i0 i1 => h i i0 (by omega))
    have hN := h N (by omega) (by omega)
    rw [zcnt, zcnt]
    cases hf : f N
    · cases g N
      · simpa using ih
      · simp only [Bool.false_eq_true, if_false, if_true]; omega
    · rw [hN hf]; omega
theorem zcnt_same {f g : Int → Bool} : ∀ {N : Nat}, (∀ i : Int, 0 ≤ i → i < N → f i = true → g i = true) → zcnt N f = zcnt N g → ∀ i : Int, 0 ≤ i → i < N → g i = f i
  | 0, _, _, i, i0, i1 => by omega
  | N + 1, h, he, i, i0, i1 => by
    have hle := zcnt_le (f := f) (g := g) (N := N) (fun i i0 i1 => h i i0 (by omega))
    have hN := h N (by omega) (by omega)
    rw [zcnt, zcnt] at he
    have hlast : g N = f N ∧ zcnt N f = zcnt N g := by
      cases hf : f N
      · cases hg : g N
        · rw [hf, hg] at he
          exact ⟨rfl, by simpa using he⟩
        · rw [hf, hg] at he
          simp only [Bool.false_eq_true, if_false, if_true] at he
          omega
      · rw [hN hf]
        rw [hf, hN hf] at he
        exact ⟨rfl, by simpa using he⟩
    by_cases e : i = N
    · rw [e]; exact hlast.1
    · exact zcnt_same (fun i i0 i1 => h i i0 (by omega)) hlast.2 i i0 (by omega)
theorem fair_full {s : zS} {c : Int} (hW : IW s) (hc : c ∈ cps (gI s 1 0)) : fairb s c = true ↔ FULL s c := by
  obtain ⟨⟨n1, n5, -⟩, -, ⟨r0, r8, -⟩, har, hst, -⟩ := id hW
  obtain ⟨d, -, hP⟩ := cps_iv n1 n5 hc
  rw [fairb_iff hW]
  constructor
  · intro h q t q0 q1 t0 t1
    have ha := har q q0 q1
    have hN := npw_b n1 n5 (a := gI s 4 q) (by omega) (by omega)
    have hpt := tok_b hW (pt_tok hW hc ⟨q0, q1, t0, t1⟩)
    have hk := h q t q0 q1 t0 t1
    rcases hk with hk | hk
    · -- nothing was there: nothing comes there
      obtain ⟨y, hy⟩ : ∃ y, y = gI s 5 (q * 125 + pt (gI s 1 0) (dgI (gI s 1 0) c) (gI s 4 q).toNat t) := ⟨_, rfl⟩
      rw [hk, ← hy]
      by_cases y0 : y = 0
      · exact y0.symm
      · exfalso
        have hcnt := zcnt_perm (N := (gI s 1 0 ^ (gI s 4 q).toNat).toNat) (f := fun u => decide (gI s 5 (q * 125 + pt (gI s 1 0) (dgI (gI s 1 0) c) (gI s 4 q).toNat u) = y)) (f' := fun u => decide (gI s 5 (q * 125 + u) = y)) (fun u => pt (gI s 1 0) (dgI (gI s 1 0) c) (gI s 4 q).toNat u) (fun u => pt (gI s 1 0) (dgI (gI s 1 0) d) (gI s 4 q).toNat u) (fun k k0 k1 => by
          obtain ⟨b1, b2⟩ := pt_b hP (gI s 4 q).toNat k k0 (by omega)
          exact ⟨b1, by omega, rfl, pt_inv hP _ k k0 (by omega)⟩) (fun k k0 k1 => by
          obtain ⟨b1, b2⟩ := pt_b hP.sy (gI s 4 q).toNat k k0 (by omega)
          exact ⟨b1, by omega, pt_inv hP.sy _ k k0 (by omega)⟩)
        have hsame := zcnt_same (fun i i0 i1 hi => by
          rw [decide_eq_true_iff] at hi ⊢
          rcases h q i q0 q1 i0 (by omega) with h2 | h2
          · omega
          · omega) hcnt t t0 (by omega)
        rw [decide_eq_true hy.symm, decide_eq_false (by omega)] at hsame
        cases hsame
    · exact hk.symm
  · intro h q t q0 q1 t0 t1
    exact Or.inr (h q t q0 q1 t0 t1).symm
theorem m_isFair {s : zS} {c : Int} (hW : IW s) (hc : c ∈ cps (gI s 1 0)) (hE : ∀ x, 0 ≤ x → x < gI s 1 0 → gI s 204 x = dgI (gI s 1 0) c x) : f_231 0 s = some (if fairb s c = true then 1 else 0) := by
  obtain ⟨⟨n1, n5, n0⟩, -, ⟨r0, r8, r10⟩, har, hst, -⟩ := id hW
  have hE2 : ∀ x, 0 ≤ x → x < gI s 177 1 → gI s 204 x = dgI (gI s 177 1) c x := by rw [n0]; exact hE
  have hin : ∀ q, 0 ≤ q → q < gI s 1 4 → ∃ e : Int, zlp (fun (x : Int × Int) => b_231_19 0 q s x.1 x.2) zF (1, 0) = some e ∧ ((e = 1 ∧ ∀ t, 0 ≤ t → t < gI s 1 0 ^ (gI s 4 q).toNat → gI s 5 (q * 125 + t) = gI s 5 (q * 125 + pt (gI s 1 0) (dgI (gI s 1 0) c) (gI s 4 q).toNat t)) ∨ (e = 0 ∧ ∃ t, 0 ≤ t ∧ t < gI s 1 0 ^ (gI s 4 q).toNat ∧ ¬ gI s 5 (q * 125 + t) = gI s 5 (q * 125 + pt (gI s 1 0) (dgI (gI s 1 0) c) (gI s 4 q).toNat t))) := by
    intro q q0 q1
    obtain ⟨-, ha1, ha2, ha3⟩ := har q q0 q1
    have hN := npw_b n1 n5 (a := gI s 4 q) (by omega) (by omega)
    refine zlp_F (I := fun (x : Int × Int) => 0 ≤ x.2 ∧ x.2 ≤ gI s 1 0 ^ (gI s 4 q).toNat ∧ ((x.1 = 1 ∧ ∀ t, 0 ≤ t → t < x.2 → gI s 5 (q * 125 + t) = gI s 5 (q * 125 + pt (gI s 1 0) (dgI (gI s 1 0) c) (gI s 4 q).toNat t)) ∨ (x.1 = 0 ∧ ∃ t, 0 ≤ t ∧ t < gI s 1 0 ^ (gI s 4 q).toNat ∧ ¬ gI s 5 (q * 125 + t) = gI s 5 (q * 125 + pt (gI s 1 0) (dgI (gI s 1 0) c) (gI s 4 q).toNat t)))) (μ := fun x => (gI s 1 0 ^ (gI s 4 q).toNat - x.2).toNat) (Q := fun e : Int => (e = 1 ∧ ∀ t, 0 ≤ t → t < gI s 1 0 ^ (gI s 4 q).toNat → gI s 5 (q * 125 + t) = gI s 5 (q * 125 + pt (gI s 1 0) (dgI (gI s 1 0) c) (gI s 4 q).toNat t)) ∨ (e = 0 ∧ ∃ t, 0 ≤ t ∧ t < gI s 1 0 ^ (gI s 4 q).toNat ∧ ¬ gI s 5 (q * 125 + t) = gI s 5 (q * 125 + pt (gI s 1 0) (dgI (gI s 1 0) c) (gI s 4 q).toNat t))) ?_ ⟨by dsimp only; omega, by dsimp only; omega, Or.inl ⟨rfl, fun t h1 h2 => by dsimp only at h2; omega⟩⟩ (by dsimp only; omega)
    rintro ⟨g, x⟩ ⟨x1, x2, x3⟩
    dsimp only at x1 x2 x3 ⊢
    have e153 : f_153 (gI s 180 q) s = some (gI s 1 0 ^ (gI s 4 q).toNat) := by rw [m_power (by omega) (by omega), n0, ← ha1]
    unfold b_231_19
    rw [zg_pos ⟨q0, by omega⟩, zo_of e153, zg_pos ⟨by omega, by omega⟩, zg_pos ⟨by omega, by omega⟩]
    by_cases hx : x < gI s 1 0 ^ (gI s 4 q).toNat
    · rw [if_pos hx]
      rcases x3 with ⟨g1, x3⟩ | ⟨g0, x3⟩
      · left
        have hpt := tok_b hW (pt_tok hW hc ⟨q0, q1, x1, hx⟩)
        have e232 : f_232 0 q x s = some (pt (gI s 1 0) (dgI (gI s 1 0) c) (gI s 4 q).toNat x) := by
          rw [m_turned (c := c) rfl (by omega) (by omega) hE2 x1 ⟨by omega, by omega⟩ q0 (by omega) (by omega) (by omega), n0, ← ha1]
        have h1 := (hst (q * 125 + x) (by omega) (by omega)).1
        have h2 := (hst (q * 125 + pt (gI s 1 0) (dgI (gI s 1 0) c) (gI s 4 q).toNat x) (by omega) (by omega)).1
        rw [zg_pos (by rw [g1]; decide), if_neg (by omega), zg_pos ⟨by omega, by omega⟩, zo_of e232, zg_pos ⟨by omega, by omega⟩, show 125 * q + x = q * 125 + x by omega, show 125 * q + pt (gI s 1 0) (dgI (gI s 1 0) c) (gI s 4 q).toNat x = q * 125 + pt (gI s 1 0) (dgI (gI s 1 0) c) (gI s 4 q).toNat x by omega, ← h1, ← h2]
        by_cases he : gI s 5 (q * 125 + x) = gI s 5 (q * 125 + pt (gI s 1 0) (dgI (gI s 1 0) c) (gI s 4 q).toNat x)
        · rw [if_pos he]
          refine ⟨_, rfl, ⟨by dsimp only; omega, by dsimp only; omega, Or.inl ⟨rfl, fun t t0 t1 => ?_⟩⟩, by dsimp only; omega⟩
          dsimp only at t1
          by_cases e : t = x
          · rw [e]; exact he
          · exact x3 t t0 (by omega)
        · rw [if_neg he]
          exact ⟨_, rfl, ⟨by dsimp only; omega, by dsimp only; omega, Or.inr ⟨rfl, x, x1, hx, he⟩⟩, by dsimp only; omega⟩
      · right
        rw [zg_pos (by rw [g0]; decide), if_pos g0]
        exact ⟨_, rfl, Or.inr ⟨g0, x3⟩⟩
    · right
      rw [if_neg hx]
      refine ⟨_, rfl, ?_⟩
      rcases x3 with ⟨g1, x3⟩ | ⟨g0, x3⟩
      · exact Or.inl ⟨g1, fun t t0 t1 => x3 t t0 (by omega)⟩
      · exact Or.inr ⟨g0, x3⟩
  have hl := zlp_F (B := fun (x : Int × Int) => b_231_4 0 s x.1 x.2) (I := fun x => 0 ≤ x.2 ∧ x.2 ≤ gI s 1 4 ∧ ((x.1 = 1 ∧ ∀ p t, 0 ≤ p → p < x.2 → 0 ≤ t → t < gI s 1 0 ^ (gI s 4 p).toNat → gI s 5 (p * 125 + t) = gI s 5 (p * 125 + pt (gI s 1 0) (dgI (gI s 1 0) c) (gI s 4 p).toNat t)) ∨ (x.1 = 0 ∧ ¬ FULL s c))) (μ := fun x => (gI s 1 4 - x.2).toNat) (Q := fun e => (e = 1 ∧ FULL s c) ∨ (e = 0 ∧ ¬ FULL s c)) (by
    rintro ⟨g, q⟩ ⟨q1, q2, q3⟩
    dsimp only at q1 q2 q3 ⊢
    unfold b_231_4
    rw [zg_pos ⟨by omega, by omega⟩, r10]
    by_cases hq : q < gI s 1 4
    · rw [if_pos hq]
      rcases q3 with ⟨g1, q3⟩ | ⟨g0, q3⟩
      · left
        obtain ⟨e, ee, he⟩ := hin q q1 hq
        rw [g1, zg_pos (by decide), if_neg (by decide), zo_of ee]
        refine ⟨_, rfl, ⟨by dsimp only; omega, by dsimp only; omega, ?_⟩, by dsimp only; omega⟩
        rcases he with ⟨e1, he⟩ | ⟨e1, t, t0, t1, he⟩
        · refine Or.inl ⟨e1, fun p t p0 p1 t0 t1 => ?_⟩
          dsimp only at p1
          by_cases e : p = q
          · rw [e] at t1 ⊢
            exact he t t0 t1
          · exact q3 p t p0 (by omega) t0 t1
        · exact Or.inr ⟨e1, fun hf => he (hf q t q1 hq t0 t1)⟩
      · right
        rw [zg_pos (by rw [g0]; decide), if_pos g0]
        exact ⟨_, rfl, Or.inr ⟨g0, q3⟩⟩
    · right
      rw [if_neg hq]
      refine ⟨_, rfl, ?_⟩
      rcases q3 with ⟨g1, q3⟩ | ⟨g0, q3⟩
      · exact Or.inl ⟨g1, fun p t p0 p1 t0 t1 => q3 p t p0 (by omega) t0 t1⟩
      · exact Or.inr ⟨g0, q3⟩) (s := (1, 0)) ⟨by dsimp only; omega, by dsimp only; omega, Or.inl ⟨rfl, fun p t p0 p1 => by dsimp only at p1; omega⟩⟩ (by dsimp only; omega)
  obtain ⟨e, ee, he⟩ := hl
  unfold f_231
  rw [zo_of ee]
  rcases he with ⟨e1, he⟩ | ⟨e1, he⟩
  · rw [e1, zg_pos (Or.inr rfl), if_pos ((fair_full hW hc).mpr he)]
  · rw [e1, zg_pos (Or.inl rfl), if_neg (fun h => he ((fair_full hW hc).mp h))]
