/-! THE CLASS'S PARSER: what ends. -/
section CSTEP
variable {σ : zS} {c : Nat} {fm K len : Int} {S : List Fr} {f : Fr}
theorem sln {S : List Fr} : (S.length : Int) + 1 - 1 = S.length := by omega
/-- only the number of open things falls -/
theorem c_pop (h : PC σ c fm K (f :: S) len) : PC (sI σ 10 8 (gI σ 10 8 - 1)) c fm K S len ∧ cdo (sI σ 10 8 (gI σ 10 8 - 1)) c = cdo σ c ∧ ∀ i, i ≠ 8 → gI (sI σ 10 8 (gI σ 10 8 - 1)) 10 i = gI σ 10 i := by
  have hb := h.c29
  obtain ⟨t8, t20, -⟩ := h.top
  have n : ∀ (x : Nat) (i : Int), x ≠ 10 → gI (sI σ 10 8 (gI σ 10 8 - 1)) x i = gI σ x i := fun x i hx => gI_nc hx
  refine ⟨h.pop rfl (gI_ni (by decide)) (gI_ni (by decide)) (gI_ni (by decide)) (by rw [gI_same ⟨by omega, by omega⟩]; omega) (fun i _ _ => ⟨n 11 i (by decide), n 12 i (by decide), n 13 i (by decide), n 14 i (by decide), n 15 i (by decide), rfl⟩) (n c 0 (by omega)) (n c 8 (by omega)), cdo_eq (fun j _ _ k => n _ k (by omega)), fun i hi => gI_ni hi⟩
/-- an operator that is written behind its operands ends -/
theorem c_closeP {r2 ρ : Int} (h : PC σ c fm K (f :: S) len) (hp : f.p = 0) (hk : f.k ≠ 10 ∧ f.k ≠ 11 ∧ f.k ≠ 12) (hr : gI σ 10 6 = r2) (hf : f_96 f.k (gI σ 14 S.length) r2 = some ρ) (hρ : 0 ≤ ρ) (hρ3 : ρ ≤ 3) (l1 : len < 200) : ∃ σ', f_92 σ = some ((), σ') ∧ PC σ' c fm K S (len + 1) ∧ cAdd σ σ' c len f.k 0 0 ∧ gI σ' 10 6 = ρ ∧ gI σ' 10 4 = gI σ 10 4 := by
  have hb := h.c29
  obtain ⟨t8, t20, ⟨t1, t2, t3, -⟩, -⟩ := h.top
  have hkz : zR f.k := by rw [← t1]; exact zR_gI _ _ _
  have h21 : f_21 f.k = some 0 := by
    unfold f_21
    rw [zg_pos hkz, if_neg hk.1, if_neg hk.2.1, if_neg hk.2.2]
  obtain ⟨σ1, a1, a2, a3, a4⟩ := c_padd h l1 hkz (show zR 0 by decide) (show zR 0 by decide)
  have e95 : f_95 S.length σ = some ((), sI σ1 10 6 ρ) := by
    unfold f_95
    rw [zg_pos ⟨by omega, by omega⟩, t1, hr, zo_of hf, zg_pos ⟨by omega, by omega⟩, if_neg (by omega), h.1.2, zg_pos h.1.1, zb_of a1]
  have n : ∀ (x : Nat) (i : Int), x ≠ 10 → gI (sI σ1 10 6 ρ) x i = gI σ1 x i := fun x i hx => gI_nc hx
  have hP : PC (sI σ1 10 6 ρ) c fm K (f :: S) (len + 1) := a3.keep rfl (gI_ni (by decide)) (gI_ni (by decide)) (gI_ni (by decide)) (gI_ni (by decide)) (fun i _ _ => ⟨n 11 i (by decide), n 12 i (by decide), n 13 i (by decide), n 14 i (by decide), n 15 i (by decide), rfl⟩) (n c 0 (by omega)) (n c 8 (by omega))
  obtain ⟨p1, p2, p3⟩ := c_pop hP
  have hcd : cdo (sI σ1 10 6 ρ) c = cdo σ1 c := cdo_eq (fun j _ _ k => n _ k (by omega))
  refine ⟨_, ?_, p1, ?_, ?_, ?_⟩
  · unfold f_92
    rw [t8, sln, zg_pos ⟨by omega, by omega⟩, if_neg (by omega), zg_pos ⟨by omega, by omega⟩, t2, hp, if_neg (by decide), t1, zo_of h21, zg_pos (by decide), if_pos rfl, zb_of e95]
  · unfold cAdd at a4 ⊢
    rw [p2, hcd]
    exact a4
  · rw [p3 6 (by decide)]
    exact gI_same ⟨by omega, by omega⟩
  · rw [p3 4 (by decide), gI_ni (by decide), a2.i (Or.inl (by omega))]
/-- ... or its operands do not fit -/
theorem c_closeF {r2 : Int} (h : PC σ c fm K (f :: S) len) (hp : f.p = 0) (hk : f.k ≠ 10 ∧ f.k ≠ 11 ∧ f.k ≠ 12) (hr : gI σ 10 6 = r2) (hf : f_96 f.k (gI σ 14 S.length) r2 = some (-1)) : ∃ σ', f_92 σ = some ((), σ') ∧ gI σ' 10 15 = 5 ∧ gI σ' 10 16 = f.pl := by
  obtain ⟨t8, t20, ⟨t1, t2, t3, -⟩, -⟩ := h.top
  have hkz : zR f.k := by rw [← t1]; exact zR_gI _ _ _
  have hpz : zR f.pl := by rw [← t3]; exact zR_gI _ _ _
  have h21 : f_21 f.k = some 0 := by
    unfold f_21
    rw [zg_pos hkz, if_neg hk.1, if_neg hk.2.1, if_neg hk.2.2]
  obtain ⟨σ1, a1, a2, a3⟩ := c_refuse (σ := σ) (why := 5) (by decide) hpz
  have e95 : f_95 S.length σ = some ((), σ1) := by
    unfold f_95
    rw [zg_pos ⟨by omega, by omega⟩, t1, hr, zo_of hf, zg_pos (by decide), if_pos rfl, t3, zb_of a1]
  refine ⟨sI σ1 10 8 (gI σ1 10 8 - 1), ?_, by rw [gI_ni (by decide)]; exact a2, by rw [gI_ni (by decide)]; exact a3⟩
  unfold f_92
  rw [t8, sln, zg_pos ⟨by omega, by omega⟩, if_neg (by omega), zg_pos ⟨by omega, by omega⟩, t2, hp, if_neg (by decide), t1, zo_of h21, zg_pos (by decide), if_pos rfl, zb_of e95]
/-- and, or, implies end: their second operand ends here -/
theorem c_closeL (h : PC σ c fm K (f :: S) len) (hp : f.p = 0) (hk : 10 ≤ f.k ∧ f.k ≤ 12) (h1 : 1 ≤ f.ce) (h2 : f.ce ≤ len) (l2 : len ≤ 200) : ∃ σ', f_92 σ = some ((), σ') ∧ PC σ' c fm K S len ∧ (cdo σ' c).op (f.ce - 1) = (cdo σ c).op (f.ce - 1) ∧ (cdo σ' c).en (f.ce - 1) = len ∧ (∀ k, k ≠ f.ce - 1 → cdE (cdo σ c) (cdo σ' c) k) ∧ gI σ' 10 6 = gI σ 10 6 ∧ gI σ' 10 4 = gI σ 10 4 := by
  have hb := h.c29
  obtain ⟨t8, t20, ⟨t1, t2, t3, -, t5, -⟩, -⟩ := h.top
  have hkz : zR f.k := ⟨by omega, by omega⟩
  have h21 : f_21 f.k = some 1 := by
    have : f.k = 10 ∨ f.k = 11 ∨ f.k = 12 := by omega
    rcases this with e | e | e <;> rw [e] <;> decide
  have t15 := t5 hp hk.1 hk.2
  have n : ∀ (x : Nat) (i : Int), x ≠ c + 5 → gI (sI σ (c + 5) (f.ce - 1) len) x i = gI σ x i := fun x i hx => gI_nc hx
  have hP : PC (sI σ (c + 5) (f.ce - 1) len) c fm K (f :: S) len := h.keep rfl (n 10 3 (by omega)) (n 10 15 (by omega)) (n 10 5 (by omega)) (n 10 8 (by omega)) (fun i _ _ => ⟨n 11 i (by omega), n 12 i (by omega), n 13 i (by omega), n 14 i (by omega), n 15 i (by omega), rfl⟩) (n c 0 (by omega)) (n c 8 (by omega))
  obtain ⟨p1, p2, p3⟩ := c_pop hP
  refine ⟨_, ?_, p1, ?_, ?_, fun k hk' => ?_, ?_, ?_⟩
  · unfold f_92
    rw [t8, sln, zg_pos ⟨by omega, by omega⟩, if_neg (by omega), zg_pos ⟨by omega, by omega⟩, t2, hp, if_neg (by decide), t1, zo_of h21, zg_pos (by decide), if_neg (by decide), h.1.2, zg_pos h.1.1, t15, zg_pos ⟨by omega, by omega⟩, h.2.2.2.2.2.1.1]
  · rw [p2]
    exact n (c + 1) _ (by omega)
  · rw [p2]
    exact gI_same ⟨by omega, by omega⟩
  · rw [p2]
    exact cdE.of (fun j j1 j7 => gI_ni hk')
  · rw [p3 6 (by decide)]
    exact n 10 6 (by omega)
  · rw [p3 4 (by decide)]
    exact n 10 4 (by omega)
theorem zor_lt {a b : Int} (a0 : 0 ≤ a) (a1 : a < 1048576) (b0 : 0 ≤ b) (b1 : b < 1048576) : 0 ≤ zor a b ∧ zor a b < 1048576 := by
  rw [zor_nat a0 ⟨by omega, by omega⟩ b0 ⟨by omega, by omega⟩]
  have : a.toNat ||| b.toNat < 2 ^ 20 := Nat.or_lt_two_pow (by omega) (by omega)
  omega
theorem c_bodiesBelow {i : Int} (i0 : 0 ≤ i) (i1 : i < 20) : ∃ x, f_94 i σ = some x ∧ zR x := by
  have hl := zlp_F (B := fun (q : Int × Int) => b_94_4 i σ q.1 q.2) (I := fun q => 0 ≤ q.1 ∧ q.1 < 1048576 ∧ 0 ≤ q.2 ∧ q.2 ≤ i) (μ := fun q => (i - q.2).toNat) (Q := fun t => 0 ≤ t ∧ t < 1048576) (by
    rintro ⟨x, j⟩ ⟨q1, q2, q3, q4⟩
    dsimp only at q1 q2 q3 q4 ⊢
    unfold b_94_4
    rw [zg_pos ⟨by omega, by omega⟩, zg_pos ⟨by omega, by omega⟩]
    by_cases hj : j < i
    · left
      rw [if_pos hj, zg_pos ⟨q3, by omega⟩]
      by_cases h2 : gI σ 12 j = 2
      · rw [if_pos h2]
        have hp : 0 ≤ (1 : Int) * 2 ^ zsh j ∧ (1 : Int) * 2 ^ zsh j < 1048576 := by
          rw [Int.one_mul, show zsh j = j.toNat by unfold zsh; omega]
          have : (2 : Nat) ^ j.toNat < 2 ^ 20 := Nat.pow_lt_pow_right (by decide) (by omega)
          have e : ((2 : Int) ^ j.toNat) = ((2 ^ j.toNat : Nat) : Int) := by norm_cast
          rw [e]
          generalize (2 : Nat) ^ j.toNat = P at this ⊢
          omega
        have := zor_lt q1 q2 hp.1 hp.2
        exact ⟨_, rfl, ⟨this.1, this.2, by dsimp only; omega, by dsimp only; omega⟩, by dsimp only; omega⟩
      · rw [if_neg h2]
        have := zor_lt q1 q2 (show (0 : Int) ≤ 0 by decide) (by decide)
        exact ⟨_, rfl, ⟨this.1, this.2, by dsimp only; omega, by dsimp only; omega⟩, by dsimp only; omega⟩
    · right
      rw [if_neg hj]
      exact ⟨_, rfl, q1, q2⟩) (s := (0, 0)) ⟨by decide, by decide, by decide, i0⟩ (by dsimp only; omega)
  obtain ⟨t, e, h1, h2⟩ := hl
  unfold f_94
  rw [zo_of e]
  exact ⟨t, rfl, by omega, by omega⟩
/-- a binder ends -/
theorem c_closeB (h : PC σ c fm K (f :: S) len) (hp : f.p = 2) (a0 : 0 ≤ f.ca) (al : f.ca < len) (l2 : len ≤ 200) (K0 : 0 ≤ K) (K40 : K ≤ 40) (hu : (cdo σ c).us f.ca = 0) (hm : (cdo σ c).mm f.ca = -1) (hv : ∀ k, f.ca < k → k < len → (cdo σ c).op k = 43 → 0 ≤ (cdo σ c).arg k ∧ (cdo σ c).arg k < 20) : ∃ σ' U K', f_93 σ = some ((), σ') ∧ PC σ' c fm K' S len ∧ Ub (cdo σ c) (f.ca + 1) len S.length U ∧ (∀ k, k ≠ f.ca → cdE (cdo σ c) (cdo σ' c) k) ∧ ((cdo σ' c).op f.ca = (cdo σ c).op f.ca ∧ (cdo σ' c).arg f.ca = (cdo σ c).arg f.ca ∧ (cdo σ' c).sg f.ca = (cdo σ c).sg f.ca ∧ (cdo σ' c).md f.ca = (cdo σ c).md f.ca ∧ (cdo σ' c).en f.ca = len ∧ (cdo σ' c).us f.ca = U) ∧ (((cdo σ' c).mm f.ca = -1 ∧ K' = K) ∨ ((cdo σ' c).mm f.ca = K ∧ K' = K + 1 ∧ K < 40 ∧ cb U 20 ≤ 2)) ∧ gI σ' 10 6 = (if f.k = 39 then 1 else 0) ∧ gI σ' 10 4 = gI σ 10 4 := by
  have hb := h.c29
  obtain ⟨t8, t20, ⟨t1, t2, t3, -, -, t6⟩, -⟩ := h.top
  have t15 := t6 (by omega)
  obtain ⟨x, x1, x2⟩ := c_bodiesBelow (σ := σ) (i := S.length) (by omega) (by omega)
  obtain ⟨σ1, U, b1, b2, b3, b4, b5, b6, b7, b8, b9⟩ := c_endBinder (slot := S.length) (around := x) h.1.1 a0 al l2 h.2.2.2.2.2.1.1 h.2.2.2.2.2.2 K0 K40 hu hm (by omega) (by omega) x2 hv
  obtain ⟨K', hK', hmm⟩ : ∃ K', gI σ1 c 8 = K' ∧ (((cdo σ1 c).mm f.ca = -1 ∧ K' = K) ∨ ((cdo σ1 c).mm f.ca = K ∧ K' = K + 1 ∧ K < 40 ∧ cb U 20 ≤ 2)) := by
    rcases b9 with ⟨m1, m2⟩ | ⟨m1, m2, m3, m4⟩
    · exact ⟨K, m2, Or.inl ⟨m1, rfl⟩⟩
    · exact ⟨K + 1, m2, Or.inr ⟨m1, rfl, m3, m4⟩⟩
  have hP1 : PC σ1 c fm K' (f :: S) len := by
    obtain ⟨g1, g2, g3, g4, g5, g6, g7⟩ := h
    have e10 : ∀ i, gI σ1 10 i = gI σ 10 i := fun i => b2.i (Or.inl (by omega)) i
    exact ⟨⟨g1.1, by rw [b2.p]; exact g1.2⟩, ⟨by rw [e10]; exact g2.1, g2.2⟩, ⟨by rw [e10]; exact g3.1, by rw [e10]; exact g3.2⟩, ⟨by rw [e10]; exact g4.1, g4.2⟩, g5.up (fun i _ _ => ⟨b2.i (Or.inl (by omega)) i, b2.i (Or.inl (by omega)) i, b2.i (Or.inl (by omega)) i, b2.i (Or.inl (by omega)) i, b2.i (Or.inl (by omega)) i, b2.j 16 i⟩), ⟨b3, g6.2⟩, hK'⟩
  have e11 : gI σ1 11 S.length = f.k := by rw [b2.i (Or.inl (by omega))]; exact t1
  have key : ∀ y : Int, zR y → PC (sI (sI σ1 10 6 y) 10 8 (gI σ1 10 8 - 1)) c fm K' S len ∧ cdo (sI (sI σ1 10 6 y) 10 8 (gI σ1 10 8 - 1)) c = cdo σ1 c ∧ gI (sI (sI σ1 10 6 y) 10 8 (gI σ1 10 8 - 1)) 10 6 = y ∧ gI (sI (sI σ1 10 6 y) 10 8 (gI σ1 10 8 - 1)) 10 4 = gI σ 10 4 := by
    intro y hy
    have n : ∀ (x : Nat) (i : Int), x ≠ 10 → gI (sI σ1 10 6 y) x i = gI σ1 x i := fun x i hx => gI_nc hx
    have hP : PC (sI σ1 10 6 y) c fm K' (f :: S) len := hP1.keep rfl (gI_ni (by decide)) (gI_ni (by decide)) (gI_ni (by decide)) (gI_ni (by decide)) (fun i _ _ => ⟨n 11 i (by decide), n 12 i (by decide), n 13 i (by decide), n 14 i (by decide), n 15 i (by decide), rfl⟩) (n c 0 (by omega)) (n c 8 (by omega))
    have e8 : gI (sI σ1 10 6 y) 10 8 = gI σ1 10 8 := gI_ni (by decide)
    obtain ⟨p1, p2, p3⟩ := c_pop hP
    rw [e8] at p1 p2 p3
    refine ⟨p1, by rw [p2]; exact cdo_eq (fun j _ _ k => n _ k (by omega)), by rw [p3 6 (by decide)]; exact gI_same hy, ?_⟩
    rw [p3 4 (by decide), gI_ni (by decide), b2.i (Or.inl (by omega))]
  have hcode : (∀ k, k ≠ f.ca → cdE (cdo σ c) (cdo σ1 c) k) ∧ ((cdo σ1 c).op f.ca = (cdo σ c).op f.ca ∧ (cdo σ1 c).arg f.ca = (cdo σ c).arg f.ca ∧ (cdo σ1 c).sg f.ca = (cdo σ c).sg f.ca ∧ (cdo σ1 c).md f.ca = (cdo σ c).md f.ca ∧ (cdo σ1 c).en f.ca = len ∧ (cdo σ1 c).us f.ca = U) := ⟨fun k hk' => cdE.of (fun j j1 j7 => b7 j j1 j7 k hk'), b8 1 (by decide) (by decide), b8 2 (by decide) (by decide), b8 3 (by decide) (by decide), b8 4 (by decide) (by decide), b5, b6⟩
  have e93 : f_93 σ = if f.k = 39 then some ((), sI (sI σ1 10 6 1) 10 8 (gI σ1 10 8 - 1)) else some ((), sI (sI σ1 10 6 0) 10 8 (gI σ1 10 8 - 1)) := by
    unfold f_93
    rw [h.1.2, zg_pos h.1.1, t8, sln, zg_pos ⟨by omega, by omega⟩, zo_of x1, t15, zb_of b1, e11]
  rw [e93]
  by_cases h39 : f.k = 39
  · obtain ⟨k1, k2, k3, k4⟩ := key 1 (by decide)
    rw [if_pos h39, if_pos h39]
    refine ⟨_, U, K', rfl, k1, b4, ?_, ?_, ?_, k3, k4⟩
    · rw [k2]; exact hcode.1
    · rw [k2]; exact hcode.2
    · rw [k2]; exact hmm
  · obtain ⟨k1, k2, k3, k4⟩ := key 0 (by decide)
    rw [if_neg h39, if_neg h39]
    refine ⟨_, U, K', rfl, k1, b4, ?_, ?_, ?_, k3, k4⟩
    · rw [k2]; exact hcode.1
    · rw [k2]; exact hcode.2
    · rw [k2]; exact hmm
end CSTEP
section CSTEP2
variable {σ : zS} {c : Nat} {fm K len : Int} {S : List Fr} {k pl r ca ce ra re : Int} {nm w : BitVec 64} {D : Dn}
/-- the name that a binder binds -/
theorem c_bindName {p : Int} (hp : p ≠ 0) (h : PC σ c fm K (mkF k p pl nm r D ca ce ra re :: S) len) (hw : gJ σ 8 6 = w) : ∃ σ', f_84 2 σ = some ((), σ') ∧ PC σ' c fm K (mkF k p pl w r D ca ce ra re :: S) len ∧ cdo σ' c = cdo σ c ∧ gI σ' 10 4 = 2 := by
  have hb := h.c29
  obtain ⟨t8, t20, t1, -⟩ := h.top
  have n : ∀ (x : Nat) (i : Int), x ≠ 10 → gI (sI (sJ σ 16 S.length w) 10 4 2) x i = gI σ x i := fun x i hx => gI_nc hx
  have m : ∀ i : Int, i ≠ 4 → gI (sI (sJ σ 16 S.length w) 10 4 2) 10 i = gI σ 10 i := fun i hi => gI_ni hi
  refine ⟨sI (sJ σ 16 S.length w) 10 4 2, ?_, ?_, cdo_eq (fun j _ _ k => n _ k (by omega)), gI_same (by decide)⟩
  · unfold f_84
    rw [zg_pos (by decide), if_pos rfl, t8, if_neg (by omega), sln, zg_pos ⟨by omega, by omega⟩, hw]
  · obtain ⟨g1, g2, g3, g4, g5, g6, g7⟩ := h
    refine ⟨g1, ⟨by rw [m 3 (by decide)]; exact g2.1, g2.2⟩, ⟨by rw [m 15 (by decide)]; exact g3.1, by rw [m 5 (by decide)]; exact g3.2⟩, ⟨by rw [m 8 (by decide)]; exact g4.1, g4.2⟩, ⟨g5.1.up (fun i i0 i1 => ⟨n 11 i (by decide), n 12 i (by decide), n 13 i (by decide), n 14 i (by decide), n 15 i (by decide), ?_⟩), ?_, fun _ => ?_⟩, ⟨by rw [n c 0 (by omega)]; exact g6.1, g6.2⟩, by rw [n c 8 (by omega)]; exact g7⟩
    · rw [gJ_sI]
      exact gJ_ni (by omega)
    · unfold FC at t1 ⊢
      rw [n 11 _ (by decide), n 12 _ (by decide), n 13 _ (by decide), n 14 _ (by decide), n 15 _ (by decide)]
      exact t1
    · rw [gJ_sI]
      exact gJ_same
/-- the bar of a binder -/
theorem c_bar {re' : Int} {D1 : Dn} (h : PC σ c fm K (mkF k 1 pl nm r D ca ce ra re :: S) len) (hr : gI σ 10 6 = 1) (a0 : 0 ≤ ca) (al : ca < len) (l2 : len ≤ 200) : ∃ σ', f_99 42 σ = some ((), σ') ∧ PC σ' c fm K (mkF k 2 pl nm 1 D1 ca len ra re' :: S) len ∧ (∀ j, j ≠ ca → cdE (cdo σ c) (cdo σ' c) j) ∧ ((cdo σ' c).op ca = (cdo σ c).op ca ∧ (cdo σ' c).arg ca = (cdo σ c).arg ca ∧ (cdo σ' c).sg ca = (cdo σ c).sg ca ∧ (cdo σ' c).md ca = len ∧ (cdo σ' c).us ca = (cdo σ c).us ca ∧ (cdo σ' c).mm ca = (cdo σ c).mm ca) ∧ gI σ' 10 4 = 0 := by
  have hb := h.c29
  obtain ⟨t8, t20, ⟨t1, t2, t3, t4, t5, t6⟩, t7⟩ := h.top
  have t15 : gI σ 15 S.length = ca := t6 (by show (1 : Int) ≠ 0; decide)
  have n : ∀ (x : Nat) (i : Int), x ≠ 10 → x ≠ c + 4 → x ≠ 12 → gI (sI (sI (sI σ 12 S.length 2) (c + 4) ca len) 10 4 0) x i = gI σ x i := fun x i h1 h2 h3 => by rw [gI_nc h1, gI_nc h2, gI_nc h3]
  have m : ∀ i : Int, i ≠ 4 → gI (sI (sI (sI σ 12 S.length 2) (c + 4) ca len) 10 4 0) 10 i = gI σ 10 i := fun i hi => by rw [gI_ni hi, gI_nc (by omega), gI_nc (by decide)]
  have e12 : ∀ i, gI (sI (sI (sI σ 12 S.length 2) (c + 4) ca len) 10 4 0) 12 i = if i = (S.length : Int) then 2 else gI σ 12 i := fun i => by rw [gI_nc (by decide), gI_nc (by omega), gI_if (by decide)]
  refine ⟨sI (sI (sI σ 12 S.length 2) (c + 4) ca len) 10 4 0, ?_, ?_, fun j hj => cdE.of (fun q q1 q7 => ?_), ⟨?_, ?_, ?_, ?_, ?_, ?_⟩, gI_same (by decide)⟩
  · unfold f_99
    rw [hr, if_pos rfl, zg_pos (by decide), if_pos rfl, t8, sln, zg_pos ⟨by omega, by omega⟩, h.1.2, zg_pos h.1.1, t15, zg_pos ⟨a0, by omega⟩, gI_nc (by omega), h.2.2.2.2.2.1.1]
  · obtain ⟨g1, g2, g3, g4, g5, g6, g7⟩ := h
    refine ⟨g1, ⟨by rw [m 3 (by decide)]; exact g2.1, g2.2⟩, ⟨by rw [m 15 (by decide)]; exact g3.1, by rw [m 5 (by decide)]; exact g3.2⟩, ⟨by rw [m 8 (by decide)]; exact g4.1, g4.2⟩, ⟨g5.1.up (fun i i0 i1 => ⟨n 11 i (by decide) (by omega) (by decide), by rw [e12, if_neg (by omega)], n 13 i (by decide) (by omega) (by decide), n 14 i (by decide) (by omega) (by decide), n 15 i (by decide) (by omega) (by decide), rfl⟩), ⟨?_, ?_, ?_, ?_, ?_, ?_⟩, fun _ => t7 (by show (1 : Int) ≠ 0; decide)⟩, ⟨by rw [n c 0 (by omega) (by omega) (by omega)]; exact g6.1, g6.2⟩, by rw [n c 8 (by omega) (by omega) (by omega)]; exact g7⟩
    · rw [n 11 _ (by decide) (by omega) (by decide)]; exact t1
    · rw [e12, if_pos rfl]
    · rw [n 13 _ (by decide) (by omega) (by decide)]; exact t3
    · intro hh
      exact absurd hh (by show ¬ (2 : Int) = 0; decide)
    · intro hh
      exact absurd hh (by show ¬ (2 : Int) = 0; decide)
    · intro _
      rw [n 15 _ (by decide) (by omega) (by decide)]; exact t15
  · by_cases hq : q = 4
    · rw [hq, gI_nc (by omega), gI_ni hj, gI_nc (by omega)]
    · exact n _ _ (by omega) (by omega) (by omega)
  · exact n (c + 1) _ (by omega) (by omega) (by omega)
  · exact n (c + 2) _ (by omega) (by omega) (by omega)
  · exact n (c + 3) _ (by omega) (by omega) (by omega)
  · show gI (sI (sI (sI σ 12 S.length 2) (c + 4) ca len) 10 4 0) (c + 4) ca = len
    rw [gI_nc (by omega), gI_same ⟨by omega, by omega⟩]
  · exact n (c + 6) _ (by omega) (by omega) (by omega)
  · exact n (c + 7) _ (by omega) (by omega) (by omega)
/-- a number behind # -/
theorem c_number {f : Fr} {x sg : Int} (h : PC σ c fm K (f :: S) len) (l1 : len < 200) (hx : gI σ 8 7 = x) (hs : gI σ 10 7 = sg) : ∃ σ', f_86 3 σ = some ((), σ') ∧ PC σ' c fm K S (len + 1) ∧ cAdd σ σ' c len 31 x sg ∧ gI σ' 10 6 = 0 ∧ gI σ' 10 4 = 4 := by
  have hb := h.c29
  obtain ⟨t8, t20, -⟩ := h.top
  obtain ⟨p1, p2, p3⟩ := c_pop h
  have hxz : zR x := by rw [← hx]; exact zR_gI _ _ _
  have hsz : zR sg := by rw [← hs]; exact zR_gI _ _ _
  obtain ⟨σ1, a1, a2, a3, a4⟩ := c_padd p1 l1 (show zR 31 by decide) hxz hsz
  have n : ∀ (x : Nat) (i : Int), x ≠ 10 → gI (sI (sI σ1 10 6 0) 10 4 4) x i = gI σ1 x i := fun x i hx => by rw [gI_nc hx, gI_nc hx]
  have m : ∀ i : Int, i ≠ 4 → i ≠ 6 → gI (sI (sI σ1 10 6 0) 10 4 4) 10 i = gI σ1 10 i := fun i h1 h2 => by rw [gI_ni h1, gI_ni h2]
  have e80 : f_80 0 σ1 = some ((), sI (sI σ1 10 6 0) 10 4 4) := rfl
  refine ⟨sI (sI σ1 10 6 0) 10 4 4, ?_, a3.keep rfl (m 3 (by decide) (by decide)) (m 15 (by decide) (by decide)) (m 5 (by decide) (by decide)) (m 8 (by decide) (by decide)) (fun i _ _ => ⟨n 11 i (by decide), n 12 i (by decide), n 13 i (by decide), n 14 i (by decide), n 15 i (by decide), rfl⟩) (n c 0 (by omega)) (n c 8 (by omega)), ?_, ?_, gI_same (by decide)⟩
  · unfold f_86
    rw [zg_pos (by decide), if_pos rfl, if_neg (by omega), h.1.2, zg_pos h.1.1, hx, hs, zb_of a1, zb_of e80]
  · unfold cAdd at a4 ⊢
    rw [show cdo (sI (sI σ1 10 6 0) 10 4 4) c = cdo σ1 c from cdo_eq (fun j _ _ k => n _ k (by omega))]
    rw [p2] at a4
    exact a4
  · rw [gI_ni (by decide)]
    exact gI_same (by decide)
end CSTEP2
