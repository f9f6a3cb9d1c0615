/-! THE CLASS'S CODE as it grows: add, endBinder; Integer.bitCount. -/
theorem zand_n (a b : Nat) (ha : a < 2147483648) (hb : b < 2147483648) : zand (a : Int) (b : Int) = ((a &&& b : Nat) : Int) := by
  rw [zand_nat (by omega) ⟨by omega, by omega⟩ (by omega) ⟨by omega, by omega⟩]
  rfl
theorem i_bitCount (v : Nat) (h : v < 2147483648) : f_269 (v : Int) = some ((nbt (fun i => v.testBit i) 32 : Nat) : Int) := by
  have z1 : (2 : Int) ^ zsh 1 = 2 := by decide
  have z2 : (2 : Int) ^ zsh 2 = 4 := by decide
  have z4 : (2 : Int) ^ zsh 4 = 16 := by decide
  have z8 : (2 : Int) ^ zsh 8 = 256 := by decide
  have z16 : (2 : Int) ^ zsh 16 = 65536 := by decide
  have m1 : bym 85 4 = 1431655765 := by decide
  have m2 : bym 51 4 = 858993459 := by decide
  have m3 : bym 15 4 = 252645135 := by decide
  have p1 : pc1 4 v = v - ((v / 2) &&& 1431655765) := by unfold pc1; rw [m1]
  have p2 : pc2 4 v = (pc1 4 v &&& 858993459) + ((pc1 4 v / 4) &&& 858993459) := by unfold pc2; rw [m2]
  have p3 : pc3 4 v = (pc2 4 v + pc2 4 v / 16) &&& 252645135 := by unfold pc3; rw [m3]
  have l0 : (v / 2) &&& 1431655765 ≤ v / 2 := Nat.and_le_left
  have l1 : pc1 4 v ≤ v := by rw [p1]; omega
  have a1 : zand ((v : Int) / 2) 1431655765 = (((v / 2) &&& 1431655765 : Nat) : Int) := by
    have := zand_n (v / 2) 1431655765 (by omega) (by decide)
    rw [show ((v / 2 : Nat) : Int) = (v : Int) / 2 by omega] at this
    exact this
  have e1 : (v : Int) - zand ((v : Int) / 2) 1431655765 = ((pc1 4 v : Nat) : Int) := by rw [a1, p1]; omega
  have a2 : zand ((pc1 4 v : Nat) : Int) 858993459 = ((pc1 4 v &&& 858993459 : Nat) : Int) := zand_n _ 858993459 (by omega) (by decide)
  have a3 : zand (((pc1 4 v : Nat) : Int) / 4) 858993459 = (((pc1 4 v / 4) &&& 858993459 : Nat) : Int) := by
    have := zand_n (pc1 4 v / 4) 858993459 (by omega) (by decide)
    rw [show ((pc1 4 v / 4 : Nat) : Int) = ((pc1 4 v : Nat) : Int) / 4 by omega] at this
    exact this
  have e2 : zand ((pc1 4 v : Nat) : Int) 858993459 + zand (((pc1 4 v : Nat) : Int) / 4) 858993459 = ((pc2 4 v : Nat) : Int) := by rw [a2, a3, p2]; omega
  have l2 : pc2 4 v ≤ 1717986918 := by
    rw [p2]
    have h1 : pc1 4 v &&& 858993459 ≤ 858993459 := Nat.and_le_right
    have h2 : (pc1 4 v / 4) &&& 858993459 ≤ 858993459 := Nat.and_le_right
    omega
  have e3 : zand (((pc2 4 v : Nat) : Int) + ((pc2 4 v : Nat) : Int) / 16) 252645135 = ((pc3 4 v : Nat) : Int) := by
    have := zand_n (pc2 4 v + pc2 4 v / 16) 252645135 (by omega) (by decide)
    rw [show ((pc2 4 v + pc2 4 v / 16 : Nat) : Int) = ((pc2 4 v : Nat) : Int) + ((pc2 4 v : Nat) : Int) / 16 by omega] at this
    rw [p3]
    exact this
  have l3 : pc3 4 v ≤ 252645135 := by rw [p3]; exact Nat.and_le_right
  have e4 : zand (((pc3 4 v : Nat) : Int) + ((pc3 4 v : Nat) : Int) / 256 + (((pc3 4 v : Nat) : Int) + ((pc3 4 v : Nat) : Int) / 256) / 65536) 63 = ((nbt (fun i => v.testBit i) 32 : Nat) : Int) := by
    have := zand_n ((pc3 4 v + pc3 4 v / 256) + (pc3 4 v + pc3 4 v / 256) / 65536) 63 (by omega) (by decide)
    rw [popcount32 v (by omega)] at this
    rw [← this]
    congr 1
  unfold f_269
  rw [z1, z2, z4, z8, z16]
  rw [e1, e2, e3, zg_pos ⟨by omega, by omega, by omega⟩, zg_pos ⟨by omega, by omega, by omega⟩, zg_pos ⟨by omega, by omega, by omega⟩, zg_pos ⟨by omega, by omega, by omega⟩, zg_pos ⟨by omega, by omega, by omega⟩, e4]
theorem cb_eq (U : Int) : ∀ k : Nat, cb U k = nbt (fun i => U.toNat.testBit i) k
  | 0 => rfl
  | k + 1 => by rw [cb, nbt, cb_eq U k]
theorem nbt_le (f : Nat → Bool) (a : Nat) : ∀ b : Nat, nbt f a ≤ nbt f (a + b)
  | 0 => Nat.le_refl _
  | b + 1 => by
    have := nbt_le f a b
    rw [← Nat.add_assoc, nbt]
    omega
/-- the code of a cell as it stands -/
def cdo (σ : zS) (c : Nat) : Cd := (fun k => gI σ (c + 1) k, fun k => gI σ (c + 2) k, fun k => gI σ (c + 3) k, fun k => gI σ (c + 4) k, fun k => gI σ (c + 5) k, fun k => gI σ (c + 6) k, fun k => gI σ (c + 7) k)
/-- nothing but ints of the cells of a code is other -/
def oC (c : Nat) (σ τ : zS) : Prop := τ.2 = σ.2 ∧ ∀ x i, (x < c ∨ c + 7 < x) → τ.1 x i = σ.1 x i
theorem oC.rf (c : Nat) (σ : zS) : oC c σ σ := ⟨rfl, fun _ _ _ => rfl⟩
theorem oC.tr {c : Nat} {σ τ ω : zS} (h : oC c σ τ) (h2 : oC c τ ω) : oC c σ ω := ⟨h2.1.trans h.1, fun x i hx => (h2.2 x i hx).trans (h.2 x i hx)⟩
theorem oC.st {c j : Nat} {σ τ : zS} {i v : Int} (h : oC c σ τ) (hj : j ≤ 7) : oC c σ (sI τ (c + j) i v) := ⟨h.1, fun x y hx => by
  show (if x = c + j then (if y = i then Int32.ofInt v else τ.1 x y) else τ.1 x y) = _
  rw [if_neg (by omega)]
  exact h.2 x y hx⟩
theorem oC.i {c : Nat} {σ τ : zS} (h : oC c σ τ) {x : Nat} (hx : x < c ∨ c + 7 < x) (i : Int) : gI τ x i = gI σ x i := by unfold gI; rw [h.2 x i hx]
theorem oC.j {c : Nat} {σ τ : zS} (h : oC c σ τ) (x : Nat) (i : Int) : gJ τ x i = gJ σ x i := by unfold gJ; rw [h.1]
theorem oC.p {c : Nat} {σ τ : zS} (h : oC c σ τ) (x : Nat) (i : Int) : gP τ x i = gP σ x i := by unfold gP; rw [h.1]
theorem c_add {σ : zS} {c : Nat} {op arg sg len : Int} (hc : zC c = true) (hl : gI σ c 0 = len) (l0 : 0 ≤ len) (l1 : len < 200) (h1 : zR op) (h2 : zR arg) (h3 : zR sg) : ∃ σ', f_139 c op arg sg σ = some (len, σ') ∧ oC c σ σ' ∧ gI σ' c 0 = len + 1 ∧ gI σ' c 8 = gI σ c 8 ∧ (∀ j : Nat, 1 ≤ j → j ≤ 7 → ∀ k, k ≠ len → gI σ' (c + j) k = gI σ (c + j) k) ∧ (cdo σ' c).op len = op ∧ (cdo σ' c).arg len = arg ∧ (cdo σ' c).sg len = sg ∧ (cdo σ' c).md len = len + 1 ∧ (cdo σ' c).en len = len + 1 ∧ (cdo σ' c).us len = 0 ∧ (cdo σ' c).mm len = -1 := by
  have e1 : ∀ (t : zS) (i v : Int), gI (sI t (c + 1) i v) c 0 = gI t c 0 := fun t i v => gI_nc (by omega)
  have e2 : ∀ (t : zS) (i v : Int), gI (sI t (c + 2) i v) c 0 = gI t c 0 := fun t i v => gI_nc (by omega)
  have e3 : ∀ (t : zS) (i v : Int), gI (sI t (c + 3) i v) c 0 = gI t c 0 := fun t i v => gI_nc (by omega)
  have e4 : ∀ (t : zS) (i v : Int), gI (sI t (c + 4) i v) c 0 = gI t c 0 := fun t i v => gI_nc (by omega)
  have e5 : ∀ (t : zS) (i v : Int), gI (sI t (c + 5) i v) c 0 = gI t c 0 := fun t i v => gI_nc (by omega)
  have e6 : ∀ (t : zS) (i v : Int), gI (sI t (c + 6) i v) c 0 = gI t c 0 := fun t i v => gI_nc (by omega)
  have e7 : ∀ (t : zS) (i v : Int), gI (sI t (c + 7) i v) c 0 = gI t c 0 := fun t i v => gI_nc (by omega)
  have key : f_139 c op arg sg σ = some (len, sI (sI (sI (sI (sI (sI (sI (sI σ (c + 1) len op) (c + 2) len arg) (c + 3) len sg) (c + 4) len (len + 1)) (c + 5) len (len + 1)) (c + 6) len 0) (c + 7) len (-1)) c 0 (len + 1)) := by
    unfold f_139
    simp only [e1, e2, e3, e4, e5, e6, e7, hl]
    rw [zg_pos hc, if_pos l1]
    simp only [zg_pos (show 0 ≤ len ∧ len < 200 from ⟨l0, l1⟩), gI_same (show zR (len + 1) from ⟨by omega, by omega⟩)]
    rw [show len + 1 - 1 = len by omega]
  have n0 : ∀ (j : Nat), 1 ≤ j → ∀ (t : zS) (i k v : Int), gI (sI t c i v) (c + j) k = gI t (c + j) k := fun j hj t i k v => gI_nc (by omega)
  have nn : ∀ (j j' : Nat), j ≠ j' → ∀ (t : zS) (i k v : Int), gI (sI t (c + j') i v) (c + j) k = gI t (c + j) k := fun j j' hj t i k v => gI_nc (by omega)
  refine ⟨_, key, ?_, gI_same ⟨by omega, by omega⟩, ?_, fun j j1 j7 k hk => ?_, ?_, ?_, ?_, ?_, ?_, ?_, ?_⟩
  · have hb := ((((((((oC.rf c σ).st (j := 1) (i := len) (v := op) (by decide)).st (j := 2) (i := len) (v := arg) (by decide)).st (j := 3) (i := len) (v := sg) (by decide)).st (j := 4) (i := len) (v := len + 1) (by decide)).st (j := 5) (i := len) (v := len + 1) (by decide)).st (j := 6) (i := len) (v := 0) (by decide)).st (j := 7) (i := len) (v := -1) (by decide))
    exact hb.st (j := 0) (by decide)
  · rw [gI_ni (by decide)]
    rw [gI_nc (by omega), gI_nc (by omega), gI_nc (by omega), gI_nc (by omega), gI_nc (by omega), gI_nc (by omega), gI_nc (by omega)]
  · rw [gI_nc (by omega), gI_ni hk, gI_ni hk, gI_ni hk, gI_ni hk, gI_ni hk, gI_ni hk, gI_ni hk]
  · show gI _ (c + 1) len = op
    rw [n0 1 (by decide), nn 1 7 (by decide), nn 1 6 (by decide), nn 1 5 (by decide), nn 1 4 (by decide), nn 1 3 (by decide), nn 1 2 (by decide), gI_same h1]
  · show gI _ (c + 2) len = arg
    rw [n0 2 (by decide), nn 2 7 (by decide), nn 2 6 (by decide), nn 2 5 (by decide), nn 2 4 (by decide), nn 2 3 (by decide), gI_same h2]
  · show gI _ (c + 3) len = sg
    rw [n0 3 (by decide), nn 3 7 (by decide), nn 3 6 (by decide), nn 3 5 (by decide), nn 3 4 (by decide), gI_same h3]
  · show gI _ (c + 4) len = len + 1
    rw [n0 4 (by decide), nn 4 7 (by decide), nn 4 6 (by decide), nn 4 5 (by decide), gI_same ⟨by omega, by omega⟩]
  · show gI _ (c + 5) len = len + 1
    rw [n0 5 (by decide), nn 5 7 (by decide), nn 5 6 (by decide), gI_same ⟨by omega, by omega⟩]
  · show gI _ (c + 6) len = 0
    rw [n0 6 (by decide), nn 6 7 (by decide), gI_same (by decide)]
  · show gI _ (c + 7) len = -1
    rw [n0 7 (by decide), gI_same (by decide)]
/-- the variables that a binder uses, as bits -/
def Ub (cd : Cd) (a b slot : Int) (U : Int) : Prop := 0 ≤ U ∧ U < 1048576 ∧ ∀ i : Nat, i < 20 → (U.toNat.testBit i = true ↔ ∃ k, a ≤ k ∧ k < b ∧ cd.op k = 43 ∧ cd.arg k = i ∧ (i : Int) < slot)
theorem c_uses {σ : zS} {c : Nat} {at_ slot len : Int} {around : Int} (hc : zC c = true) (a0 : 0 ≤ at_) (al : at_ < len) (l2 : len ≤ 200) (hl : gI σ c 0 = len) (hu : gI σ (c + 6) at_ = 0) (s0 : 0 ≤ slot) (s20 : slot ≤ 20) (hv : ∀ k, at_ < k → k < len → gI σ (c + 1) k = 43 → 0 ≤ gI σ (c + 2) k ∧ gI σ (c + 2) k < 20) : ∃ t U, zlp (fun (q : Int × zS) => b_140_15 c at_ slot around q.1 q.2) zF (at_ + 1, σ) = some t ∧ oC c σ t ∧ Ub (cdo σ c) (at_ + 1) len slot U ∧ gI t (c + 6) at_ = U ∧ (∀ k, k ≠ at_ → gI t (c + 6) k = gI σ (c + 6) k) ∧ ∀ j : Nat, j ≤ 7 → j ≠ 6 → ∀ k, gI t (c + j) k = gI σ (c + j) k := by
  have hl' := zlp_F (B := fun (q : Int × zS) => b_140_15 c at_ slot around q.1 q.2) (I := fun q => at_ + 1 ≤ q.1 ∧ q.1 ≤ len ∧ oC c σ q.2 ∧ Ub (cdo σ c) (at_ + 1) q.1 slot (gI q.2 (c + 6) at_) ∧ (∀ k, k ≠ at_ → gI q.2 (c + 6) k = gI σ (c + 6) k) ∧ ∀ j : Nat, j ≤ 7 → j ≠ 6 → ∀ k, gI q.2 (c + j) k = gI σ (c + j) k) (μ := fun q => (len - q.1).toNat) (Q := fun t => oC c σ t ∧ Ub (cdo σ c) (at_ + 1) len slot (gI t (c + 6) at_) ∧ (∀ k, k ≠ at_ → gI t (c + 6) k = gI σ (c + 6) k) ∧ ∀ j : Nat, j ≤ 7 → j ≠ 6 → ∀ k, gI t (c + j) k = gI σ (c + j) k) (by
    rintro ⟨i, τ⟩ ⟨q1, q2, q3, ⟨u0, u1, u2⟩, q5, q6⟩
    dsimp only at q1 q2 q3 u0 u1 u2 q5 q6 ⊢
    have el : gI τ c 0 = len := by
      have := q6 0 (by decide) (by decide) 0
      rw [Nat.add_zero] at this
      rw [this]; exact hl
    unfold b_140_15
    rw [zg_pos hc, zg_pos ⟨by omega, by omega⟩, el]
    by_cases hi : i < len
    · left
      rw [if_pos hi, zg_pos ⟨by omega, by omega⟩, q6 1 (by decide) (by decide) i]
      have skip : (∀ k : Nat, (cdo σ c).op i = 43 → (cdo σ c).arg i = k → ¬ (k : Int) < slot) → Ub (cdo σ c) (at_ + 1) (i + 1) slot (gI τ (c + 6) at_) := by
        intro hno
        refine ⟨u0, u1, fun n hn => ?_⟩
        rw [u2 n hn]
        constructor
        · rintro ⟨k, k0, k1, k2⟩
          exact ⟨k, k0, by omega, k2⟩
        · rintro ⟨k, k0, k1, k2, k3, k4⟩
          refine ⟨k, k0, ?_, k2, k3, k4⟩
          by_cases e : k = i
          · rw [e] at k2 k3
            exact absurd k4 (hno n k2 k3)
          · omega
      by_cases h43 : gI σ (c + 1) i = 43
      · obtain ⟨g0, g20⟩ := hv i (by omega) hi h43
        rw [if_pos h43, zg_pos ⟨by omega, by omega⟩, q6 2 (by decide) (by decide) i]
        by_cases hs : gI σ (c + 2) i < slot
        · rw [if_pos hs, zg_pos ⟨a0, by omega⟩]
          have hp : (1 : Int) * 2 ^ zsh (gI σ (c + 2) i) = ((2 ^ (gI σ (c + 2) i).toNat : Nat) : Int) := by
            rw [Int.one_mul, show zsh (gI σ (c + 2) i) = (gI σ (c + 2) i).toNat by unfold zsh; omega]
            norm_cast
          have hpb : 2 ^ (gI σ (c + 2) i).toNat < 1048576 := by
            have : (2 : Nat) ^ (gI σ (c + 2) i).toNat < 2 ^ 20 := Nat.pow_lt_pow_right (by decide) (by omega)
            exact this
          have hz : zor (gI τ (c + 6) at_) (1 * 2 ^ zsh (gI σ (c + 2) i)) = (((gI τ (c + 6) at_).toNat ||| 2 ^ (gI σ (c + 2) i).toNat : Nat) : Int) := by
            rw [hp]
            generalize 2 ^ (gI σ (c + 2) i).toNat = P at hpb ⊢
            rw [zor_nat u0 ⟨by omega, by omega⟩ (by omega) ⟨by omega, by omega⟩]
            rfl
          have hlt : (gI τ (c + 6) at_).toNat ||| 2 ^ (gI σ (c + 2) i).toNat < 2 ^ 20 := Nat.or_lt_two_pow (by omega) hpb
          have hsm : gI (sI τ (c + 6) at_ (zor (gI τ (c + 6) at_) (1 * 2 ^ zsh (gI σ (c + 2) i)))) (c + 6) at_ = (((gI τ (c + 6) at_).toNat ||| 2 ^ (gI σ (c + 2) i).toNat : Nat) : Int) := by
            rw [hz]
            exact gI_same ⟨by omega, by omega⟩
          refine ⟨_, rfl, ⟨by dsimp only; omega, by dsimp only; omega, q3.st (by decide), ?_, ?_, ?_⟩, by dsimp only; omega⟩
          · dsimp only
            rw [hsm]
            refine ⟨by omega, by omega, fun n hn => ?_⟩
            rw [Int.toNat_natCast, Nat.testBit_or, Bool.or_eq_true, u2 n hn, Nat.testBit_two_pow, decide_eq_true_iff]
            constructor
            · rintro (⟨k, k0, k1, k2⟩ | h)
              · exact ⟨k, k0, by omega, k2⟩
              · exact ⟨i, by omega, by omega, h43, by show gI σ (c + 2) i = n; omega, by omega⟩
            · rintro ⟨k, k0, k1, k2, k3, k4⟩
              by_cases e : k = i
              · right
                rw [e] at k3
                have : gI σ (c + 2) i = n := k3
                omega
              · exact Or.inl ⟨k, k0, by omega, k2, k3, k4⟩
          · intro k hk
            dsimp only
            rw [gI_ni hk]
            exact q5 k hk
          · intro j hj hj6 k
            dsimp only
            rw [gI_nc (by omega)]
            exact q6 j hj hj6 k
        · rw [if_neg hs]
          refine ⟨_, rfl, ⟨by dsimp only; omega, by dsimp only; omega, q3, skip (fun k _ h2 h3 => hs (by rw [show gI σ (c + 2) i = k from h2]; exact h3)), q5, q6⟩, by dsimp only; omega⟩
      · rw [if_neg h43]
        refine ⟨_, rfl, ⟨by dsimp only; omega, by dsimp only; omega, q3, skip (fun k h1 _ _ => h43 h1), q5, q6⟩, by dsimp only; omega⟩
    · right
      rw [if_neg hi]
      have e : i = len := by omega
      rw [e] at u2
      exact ⟨τ, rfl, q3, ⟨u0, u1, u2⟩, q5, q6⟩) (s := (at_ + 1, σ)) ⟨by dsimp only; omega, by dsimp only; omega, oC.rf c σ, by
      dsimp only
      rw [hu]
      refine ⟨by decide, by decide, fun n hn => ?_⟩
      constructor
      · intro h
        rw [show (0 : Int).toNat = 0 from rfl, Nat.zero_testBit] at h
        cases h
      · rintro ⟨k, k0, k1, -⟩
        omega, fun _ _ => rfl, fun _ _ _ _ => rfl⟩ (by dsimp only; omega)
  obtain ⟨t, e, q1, q2, q3, q4⟩ := hl'
  exact ⟨t, _, e, q1, q2, rfl, q3, q4⟩
/-- a binder ends -/
theorem c_endBinder {σ : zS} {c : Nat} {at_ slot len around K : Int} (hc : zC c = true) (a0 : 0 ≤ at_) (al : at_ < len) (l2 : len ≤ 200) (hl : gI σ c 0 = len) (hK : gI σ c 8 = K) (K0 : 0 ≤ K) (K40 : K ≤ 40) (hu : gI σ (c + 6) at_ = 0) (hm : gI σ (c + 7) at_ = -1) (s0 : 0 ≤ slot) (s20 : slot ≤ 20) (hr : zR around) (hv : ∀ k, at_ < k → k < len → gI σ (c + 1) k = 43 → 0 ≤ gI σ (c + 2) k ∧ gI σ (c + 2) k < 20) : ∃ σ' U, f_140 c at_ slot around σ = some ((), σ') ∧ oC c σ σ' ∧ gI σ' c 0 = len ∧ Ub (cdo σ c) (at_ + 1) len slot U ∧ gI σ' (c + 5) at_ = len ∧ gI σ' (c + 6) at_ = U ∧ (∀ j : Nat, 1 ≤ j → j ≤ 7 → ∀ k, k ≠ at_ → gI σ' (c + j) k = gI σ (c + j) k) ∧ (∀ j : Nat, 1 ≤ j → j ≤ 4 → gI σ' (c + j) at_ = gI σ (c + j) at_) ∧ ((gI σ' (c + 7) at_ = -1 ∧ gI σ' c 8 = K) ∨ (gI σ' (c + 7) at_ = K ∧ gI σ' c 8 = K + 1 ∧ K < 40 ∧ cb U 20 ≤ 2)) := by
  have hn : ∀ j : Nat, j ≤ 7 → j ≠ 5 → ∀ k, gI (sI σ (c + 5) at_ len) (c + j) k = gI σ (c + j) k := fun j _ hj k => gI_nc (by omega)
  obtain ⟨t, U, e1, o1, u1, u2, u3, u4⟩ := c_uses (σ := sI σ (c + 5) at_ len) (around := around) hc a0 al l2 (by rw [gI_nc (by omega)]; exact hl) (by rw [hn 6 (by decide) (by decide)]; exact hu) s0 s20 (fun k k0 k1 h => by
    rw [hn 1 (by decide) (by decide)] at h
    rw [hn 2 (by decide) (by decide)]
    exact hv k k0 k1 h)
  have hU : Ub (cdo σ c) (at_ + 1) len slot U := by
    obtain ⟨x1, x2, x3⟩ := u1
    refine ⟨x1, x2, fun i hi => ?_⟩
    rw [x3 i hi]
    have h1 : ∀ k, (cdo (sI σ (c + 5) at_ len) c).op k = (cdo σ c).op k := fun k => hn 1 (by decide) (by decide) k
    have h2 : ∀ k, (cdo (sI σ (c + 5) at_ len) c).arg k = (cdo σ c).arg k := fun k => hn 2 (by decide) (by decide) k
    constructor
    · rintro ⟨k, k0, k1, k2, k3, k4⟩
      exact ⟨k, k0, k1, by rw [← h1]; exact k2, by rw [← h2]; exact k3, k4⟩
    · rintro ⟨k, k0, k1, k2, k3, k4⟩
      exact ⟨k, k0, k1, by rw [h1]; exact k2, by rw [h2]; exact k3, k4⟩
  have oT : oC c σ t := ((oC.rf c σ).st (j := 5) (by decide)).tr o1
  have t0 : gI t c 0 = len := by
    have := u4 0 (by decide) (by decide) 0
    rw [Nat.add_zero] at this
    rw [this, gI_nc (by omega)]; exact hl
  have t8 : gI t c 8 = K := by
    have := u4 0 (by decide) (by decide) 8
    rw [Nat.add_zero] at this
    rw [this, gI_nc (by omega)]; exact hK
  have t5 : gI t (c + 5) at_ = len := by rw [u4 5 (by decide) (by decide)]; exact gI_same ⟨by omega, by omega⟩
  have tk : ∀ j : Nat, 1 ≤ j → j ≤ 7 → ∀ k, k ≠ at_ → gI t (c + j) k = gI σ (c + j) k := by
    intro j j1 j7 k hk
    by_cases h6 : j = 6
    · rw [h6, u3 k hk]; exact hn 6 (by decide) (by decide) k
    · rw [u4 j j7 h6]
      by_cases h5 : j = 5
      · rw [h5]; exact gI_ni hk
      · exact hn j j7 h5 k
  have t14 : ∀ j : Nat, 1 ≤ j → j ≤ 4 → gI t (c + j) at_ = gI σ (c + j) at_ := fun j j1 j4 => by
    rw [u4 j (by omega) (by omega)]; exact hn j (by omega) (by omega) at_
  have t7 : gI t (c + 7) at_ = -1 := by rw [u4 7 (by decide) (by decide), hn 7 (by decide) (by decide)]; exact hm
  unfold f_140
  rw [zg_pos hc, zg_pos ⟨a0, by omega⟩, hl, zo_of e1, zg_pos hr, u2]
  by_cases ha : U = around
  · rw [if_pos ha]
    exact ⟨t, U, rfl, oT, t0, hU, t5, u2, tk, t14, Or.inl ⟨t7, t8⟩⟩
  · have hbc := i_bitCount U.toNat (by have := hU.1; have := hU.2.1; omega)
    rw [show ((U.toNat : Nat) : Int) = U by have := hU.1; omega] at hbc
    have hle := nbt_le (fun i => U.toNat.testBit i) 20 12
    have hle2 : nbt (fun i => U.toNat.testBit i) 32 ≤ 32 := by
      have : ∀ (f : Nat → Bool) (k : Nat), nbt f k ≤ k := fun f k => by
        induction k with
        | zero => exact Nat.le_refl _
        | succ k ih => rw [nbt]; split <;> omega
      exact this _ _
    rw [if_neg ha, zo_of hbc, zg_pos ⟨by omega, by omega⟩]
    by_cases h2 : (2 : Int) < ((nbt (fun i => U.toNat.testBit i) 32 : Nat) : Int)
    · rw [if_pos h2]
      exact ⟨t, U, rfl, oT, t0, hU, t5, u2, tk, t14, Or.inl ⟨t7, t8⟩⟩
    · rw [if_neg h2, t8]
      by_cases h40 : K < 40
      · rw [if_pos h40, gI_nc (by omega), t8]
        refine ⟨_, U, rfl, (oT.st (j := 7) (by decide)).st (j := 0) (by decide), ?_, hU, ?_, ?_, fun j j1 j7 k hk => ?_, fun j j1 j4 => ?_, Or.inr ⟨?_, gI_same ⟨by omega, by omega⟩, h40, ?_⟩⟩
        · rw [gI_ni (by decide), gI_nc (by omega)]; exact t0
        · rw [gI_nc (by omega), gI_nc (by omega)]; exact t5
        · rw [gI_nc (by omega), gI_nc (by omega)]; exact u2
        · rw [gI_nc (by omega), gI_ni hk]; exact tk j j1 j7 k hk
        · rw [gI_nc (by omega), gI_nc (by omega)]; exact t14 j j1 j4
        · rw [gI_nc (by omega)]; exact gI_same ⟨by omega, by omega⟩
        · rw [cb_eq]
          have : nbt (fun i => U.toNat.testBit i) (20 + 12) = nbt (fun i => U.toNat.testBit i) 32 := rfl
          omega
      · rw [if_neg h40]
        exact ⟨t, U, rfl, oT, t0, hU, t5, u2, tk, t14, Or.inl ⟨t7, t8⟩⟩
