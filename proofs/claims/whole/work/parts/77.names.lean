/-! NAMES: keywords, isName, numberOf; relation. -/
abbrev zlet (b : Int) : Prop := 97 ≤ b ∧ b ≤ 122
theorem c_isLetter {b : Int} (h : zR b) : f_18 b = some (if zlet b then 1 else 0) := by
  unfold f_18
  rw [zg_pos h]
  by_cases h1 : b < 97
  · rw [if_pos h1, if_neg (by omega)]
  · rw [if_neg h1]
    by_cases h2 : 122 < b
    · rw [if_pos h2, if_neg (by omega)]
    · rw [if_neg h2, if_pos (by omega)]
theorem m_isLetter {b : Int} (h : zR b) : f_150 b = some (if zlet b then 1 else 0) := c_isLetter h
/-- the words of the class and of the reference agree on what is a keyword -/
theorem kw_spec (w : BitVec 64) (s : zS) : (∃ i : Int, 0 ≤ i ∧ i < 16 ∧ f_19 w s = some (4 + i) ∧ f_148 w = some (10 + i)) ∨ (f_19 w s = some 2 ∧ f_148 w = some (-1)) := by
  have hloop := zlp_F (B := fun (q : Int) => b_19_2 w s q) (I := fun q => 0 ≤ q ∧ q ≤ 16 ∧ ∀ i, 0 ≤ i → i < q → zkw i ≠ w) (μ := fun q => (16 - q).toNat) (Q := fun t => Sum.elim (fun _ => ∀ i, 0 ≤ i → i < 16 → zkw i ≠ w) (fun r => ∃ i, 0 ≤ i ∧ i < 16 ∧ zkw i = w ∧ r = 4 + i) t) (by
    rintro i ⟨a1, a2, a3⟩
    unfold b_19_2
    rw [zg_pos ⟨by omega, by omega⟩]
    by_cases hc : i < 16
    · rw [if_pos hc, zg_pos ⟨by omega, by omega⟩]
      by_cases he : zkw i = w
      · right
        rw [if_pos he]
        exact ⟨_, rfl, i, a1, hc, he, rfl⟩
      · left
        rw [if_neg he]
        refine ⟨_, rfl, ⟨by omega, by omega, fun j hj hj2 => ?_⟩, by omega⟩
        by_cases e : j = i
        · rw [e]; exact he
        · exact a3 j hj (by omega)
    · right
      rw [if_neg hc]
      exact ⟨_, rfl, fun j hj hj2 => a3 j hj (by omega)⟩) (s := 0) ⟨by decide, by decide, fun i hi hi2 => by omega⟩ (by decide)
  obtain ⟨t, ht, hq⟩ := hloop
  rcases t with u | r
  · right
    refine ⟨by unfold f_19; rw [zo_of ht]; rfl, ?_⟩
    have n0 := hq 0 (by decide) (by decide)
    have n1 := hq 1 (by decide) (by decide)
    have n2 := hq 2 (by decide) (by decide)
    have n3 := hq 3 (by decide) (by decide)
    have n4 := hq 4 (by decide) (by decide)
    have n5 := hq 5 (by decide) (by decide)
    have n6 := hq 6 (by decide) (by decide)
    have n7 := hq 7 (by decide) (by decide)
    have n8 := hq 8 (by decide) (by decide)
    have n9 := hq 9 (by decide) (by decide)
    have n10 := hq 10 (by decide) (by decide)
    have n11 := hq 11 (by decide) (by decide)
    have n12 := hq 12 (by decide) (by decide)
    have n13 := hq 13 (by decide) (by decide)
    have n14 := hq 14 (by decide) (by decide)
    have n15 := hq 15 (by decide) (by decide)
    unfold f_148
    rw [if_neg (fun h => n0 h.symm), if_neg (fun h => n1 h.symm), if_neg (fun h => n2 h.symm), if_neg (fun h => n3 h.symm), if_neg (fun h => n4 h.symm), if_neg (fun h => n5 h.symm), if_neg (fun h => n6 h.symm), if_neg (fun h => n7 h.symm), if_neg (fun h => n8 h.symm), if_neg (fun h => n9 h.symm), if_neg (fun h => n10 h.symm), if_neg (fun h => n11 h.symm), if_neg (fun h => n12 h.symm), if_neg (fun h => n13 h.symm), if_neg (fun h => n14 h.symm), if_neg (fun h => n15 h.symm)]
  · left
    obtain ⟨i, h0, h16, hw, hr⟩ := hq
    refine ⟨i, h0, h16, by unfold f_19; rw [zo_of ht, hr]; rfl, ?_⟩
    have hc : i = 0 ∨ i = 1 ∨ i = 2 ∨ i = 3 ∨ i = 4 ∨ i = 5 ∨ i = 6 ∨ i = 7 ∨ i = 8 ∨ i = 9 ∨ i = 10 ∨ i = 11 ∨ i = 12 ∨ i = 13 ∨ i = 14 ∨ i = 15 := by omega
    rw [← hw]
    rcases hc with rfl | rfl | rfl | rfl | rfl | rfl | rfl | rfl | rfl | rfl | rfl | rfl | rfl | rfl | rfl | rfl <;> decide
/-- the k-th byte of a word, from the end -/
def zby (w : BitVec 64) (k : Int) : Int := ((BitVec.toNat ((w >>> (8 * k).toNat) &&& (255#64)) : Nat) : Int)
theorem zby_b (w : BitVec 64) (k : Int) : 0 ≤ zby w k ∧ zby w k ≤ 255 := by
  unfold zby
  have h : ((w >>> (8 * k).toNat) &&& (255#64)).toNat ≤ 255 := by
    rw [BitVec.toNat_and]
    exact Nat.and_le_right
  omega
theorem bv_shr8 (w : BitVec 64) {i : Int} (h0 : 0 ≤ i) : (w >>> (8 * i).toNat) >>> 8 = w >>> (8 * (i + 1)).toNat := by
  rw [← BitVec.shiftRight_add]
  congr 1
  omega
theorem bv_shr64 (w : BitVec 64) : w >>> 64 = 0#64 := by
  apply BitVec.eq_of_getLsbD_eq
  intro i hi
  rw [BitVec.getLsbD_ushiftRight, BitVec.getLsbD_of_ge _ _ (by omega)]
  simp
/-- how many bytes a word has -/
theorem m_letters (w : BitVec 64) (s : zS) : ∃ n : Int, f_147 w s = some n ∧ 0 ≤ n ∧ n ≤ 8 ∧ w >>> (8 * n).toNat = 0#64 ∧ ∀ k, 0 ≤ k → k < n → w >>> (8 * k).toNat ≠ 0#64 := by
  have hloop := zlp_F (B := fun (q : Int × BitVec 64) => b_147_4 s q.1 q.2) (I := fun q => 0 ≤ q.1 ∧ q.1 ≤ 8 ∧ q.2 = w >>> (8 * q.1).toNat ∧ ∀ k, 0 ≤ k → k < q.1 → w >>> (8 * k).toNat ≠ 0#64) (μ := fun q => (8 - q.1).toNat) (Q := fun n => 0 ≤ n ∧ n ≤ 8 ∧ w >>> (8 * n).toNat = 0#64 ∧ ∀ k, 0 ≤ k → k < n → w >>> (8 * k).toNat ≠ 0#64) (by
    rintro ⟨i, v⟩ ⟨a1, a2, a3, a4⟩
    dsimp only at a1 a2 a3 a4 ⊢
    unfold b_147_4
    by_cases hc : v = 0#64
    · right
      rw [if_pos hc]
      exact ⟨_, rfl, a1, a2, by rw [← a3]; exact hc, a4⟩
    · left
      rw [if_neg hc]
      have h8 : i < 8 := by
        by_cases e : i = 8
        · exfalso
          apply hc
          rw [a3, e]
          exact bv_shr64 w
        · omega
      refine ⟨_, rfl, ⟨by omega, by omega, ?_, ?_⟩, by omega⟩
      · show v >>> zshl 8 = _
        rw [a3, show zshl 8 = 8 from rfl, bv_shr8 w a1]
      · intro k hk hk2
        by_cases e : k = i
        · rw [e, ← a3]; exact hc
        · exact a4 k hk (by omega)) (s := (0, w)) ⟨by dsimp only; omega, by dsimp only; omega, by simp, fun k hk hk2 => by dsimp only at hk2; omega⟩ (by dsimp only; omega)
  obtain ⟨t, ht, hq⟩ := hloop
  exact ⟨t, by unfold f_147; rw [zo_of ht], hq⟩
/-- the reference looks at all bytes -/
theorem m_allLetters {w : BitVec 64} {s : zS} {n t0 : Int} (hn0 : 0 ≤ n) (hn : n ≤ 8) (h01 : t0 = 0 ∨ t0 = 1) : (j_146_29 w n t0 s = some 1 ∧ t0 = 1 ∧ ∀ k, 0 ≤ k → k < n → zlet (zby w k)) ∨ (j_146_29 w n t0 s = some 0 ∧ ¬ (t0 = 1 ∧ ∀ k, 0 ≤ k → k < n → zlet (zby w k))) := by
  have hloop := zlp_F (B := fun (q : Int × Int) => b_146_33 w n s q.1 q.2) (I := fun q => 0 ≤ q.2 ∧ q.2 ≤ n ∧ ((q.1 = 1 ∧ t0 = 1 ∧ ∀ k, 0 ≤ k → k < q.2 → zlet (zby w k)) ∨ (q.1 = 0 ∧ ¬ (t0 = 1 ∧ ∀ k, 0 ≤ k → k < n → zlet (zby w k))))) (μ := fun q => (n - q.2).toNat) (Q := fun t => (t = 1 ∧ t0 = 1 ∧ ∀ k, 0 ≤ k → k < n → zlet (zby w k)) ∨ (t = 0 ∧ ¬ (t0 = 1 ∧ ∀ k, 0 ≤ k → k < n → zlet (zby w k)))) (by
    rintro ⟨g, i⟩ ⟨a1, a2, a3⟩
    dsimp only at a1 a2 a3 ⊢
    have hg : g = 0 ∨ g = 1 := by rcases a3 with ⟨h, -⟩ | ⟨h, -⟩ <;> omega
    unfold b_146_33
    rw [zg_pos ⟨by omega, by omega⟩, zg_pos ⟨by omega, by omega⟩]
    by_cases hc : i < n
    · left
      rw [if_pos hc, zg_pos ⟨by omega, by omega⟩]
      rcases a3 with ⟨b1, b2, b3⟩ | ⟨b1, b2⟩
      · rw [if_neg (by omega)]
        have e1 : f_149 w i = some ((w >>> (8 * i).toNat) &&& (255#64)) := by
          unfold f_149
          rw [zg_pos ⟨by omega, by omega⟩, zshl_eq (by omega) (by omega)]
        have hb := zby_b w i
        have e2 := m_isLetter (b := zby w i) ⟨by omega, by omega⟩
        rw [zo_of e1, show ((BitVec.toNat ((w >>> (8 * i).toNat) &&& (255#64)) : Nat) : Int) = zby w i from rfl, zo_of e2]
        by_cases hl : zlet (zby w i)
        · rw [if_pos hl, zg_pos (by decide), if_neg (by decide)]
          refine ⟨_, rfl, ⟨by omega, by omega, Or.inl ⟨rfl, b2, fun k hk hk2 => ?_⟩⟩, by omega⟩
          by_cases e : k = i
          · rw [e]; exact hl
          · exact b3 k hk (by dsimp only at hk2; omega)
        · rw [if_neg hl, zg_pos (by decide), if_pos rfl]
          exact ⟨_, rfl, ⟨by omega, by omega, Or.inr ⟨rfl, fun h => hl (h.2 i a1 hc)⟩⟩, by omega⟩
      · rw [if_pos b1]
        exact ⟨_, rfl, ⟨by omega, by omega, Or.inr ⟨rfl, b2⟩⟩, by omega⟩
    · right
      rw [if_neg hc]
      have e : i = n := by omega
      rw [e] at a3
      exact ⟨_, rfl, a3⟩) (s := (t0, 0)) (by
    refine ⟨by dsimp only; omega, by dsimp only; omega, ?_⟩
    dsimp only
    rcases h01 with h | h
    · exact Or.inr ⟨h, fun h2 => by omega⟩
    · exact Or.inl ⟨h, h, fun k hk hk2 => by omega⟩) (by dsimp only; omega)
  obtain ⟨t, ht, hq⟩ := hloop
  unfold j_146_29
  rw [zo_of ht]
  rcases hq with ⟨h1, h2⟩ | ⟨h1, h2⟩
  · left
    rw [zg_pos (Or.inr h1), h1]
    exact ⟨rfl, h2⟩
  · right
    rw [zg_pos (Or.inl h1), h1]
    exact ⟨rfl, h2⟩
theorem isName_same (w : BitVec 64) (s : zS) : ∃ b : Int, (b = 0 ∨ b = 1) ∧ f_34 w s = some b ∧ f_146 w s = some b := by
  obtain ⟨n, hn, n0, n8, hz, hnz⟩ := m_letters w s
  -- the class's loop
  have hloop := zlp_F (B := fun (q : BitVec 64 × Int) => b_34_5 w s q.1 q.2) (I := fun q => 0 ≤ q.2 ∧ q.2 ≤ 6 ∧ q.2 ≤ n ∧ q.1 = w >>> (8 * q.2).toNat ∧ ∀ k, 0 ≤ k → k < q.2 → zlet (zby w k)) (μ := fun q => (6 - q.2).toNat) (Q := fun t => Sum.elim (fun e => ∃ i : Int, 0 ≤ i ∧ i ≤ 6 ∧ i ≤ n ∧ e = w >>> (8 * i).toNat ∧ (i = n ∨ i = 6) ∧ ∀ k, 0 ≤ k → k < i → zlet (zby w k)) (fun r => r = 0 ∧ ∃ k, 0 ≤ k ∧ k < n ∧ ¬ zlet (zby w k)) t) (by
    rintro ⟨v, i⟩ ⟨a1, a2, a3, a4, a5⟩
    dsimp only at a1 a2 a3 a4 a5 ⊢
    unfold b_34_5
    rw [zg_pos ⟨by omega, by omega⟩]
    by_cases hc : i < 6
    · rw [if_pos hc]
      by_cases h0 : v = 0#64
      · right
        rw [if_pos h0]
        have e : i = n := by
          by_cases e : i < n
          · have := hnz i a1 e
            rw [← a4] at this
            exact absurd h0 this
          · omega
        exact ⟨_, rfl, i, a1, a2, a3, a4, Or.inl e, a5⟩
      · rw [if_neg h0]
        have hin : i < n := by
          by_cases e : i = n
          · rw [e, hz] at a4
            exact absurd a4 h0
          · omega
        have hb := zby_b w i
        have e2 := c_isLetter (b := zby w i) ⟨by omega, by omega⟩
        rw [a4, show ((BitVec.toNat ((w >>> (8 * i).toNat) &&& (255#64)) : Nat) : Int) = zby w i from rfl, zo_of e2]
        by_cases hl : zlet (zby w i)
        · left
          rw [if_pos hl, zg_pos (by decide), if_neg (by decide)]
          refine ⟨_, rfl, ⟨by omega, by omega, by omega, ?_, ?_⟩, by omega⟩
          · show (w >>> (8 * i).toNat) >>> zshl 8 = _
            rw [show zshl 8 = 8 from rfl, bv_shr8 w a1]
          · intro k hk hk2
            by_cases e : k = i
            · rw [e]; exact hl
            · exact a5 k hk (by dsimp only at hk2; omega)
        · right
          rw [if_neg hl, zg_pos (by decide), if_pos rfl]
          exact ⟨_, rfl, rfl, i, a1, hin, hl⟩
    · right
      rw [if_neg hc]
      exact ⟨_, rfl, i, a1, a2, a3, a4, Or.inr (by omega), a5⟩) (s := (w, 0)) ⟨by dsimp only; omega, by dsimp only; omega, by dsimp only; omega, by simp, fun k hk hk2 => by dsimp only at hk2; omega⟩ (by dsimp only; omega)
  obtain ⟨t, ht, hq⟩ := hloop
  unfold f_34 f_146 j_146_28
  rw [zo_of ht, zo_of hn, zg_pos ⟨by omega, by omega⟩]
  have hm1 := m_allLetters (w := w) (s := s) (n := n) (t0 := 1) n0 n8 (Or.inr rfl)
  have hm0 := m_allLetters (w := w) (s := s) (n := n) (t0 := 0) n0 n8 (Or.inl rfl)
  have hm0' : j_146_29 w n 0 s = some 0 := by
    rcases hm0 with ⟨-, h, -⟩ | ⟨h, -⟩
    · exact absurd h (by decide)
    · exact h
  rcases t with e | r
  · obtain ⟨i, i0, i6, inn, hi, hor, hall⟩ := hq
    rw [ze_l]
    unfold j_34_43
    by_cases hw : w = 0#64
    · have en : n = 0 := by
        by_cases e : 0 < n
        · have := hnz 0 (by decide) e
          simp at this
          exact absurd hw this
        · omega
      refine ⟨0, Or.inl rfl, by rw [if_pos hw], ?_⟩
      rw [if_pos (by omega), hm0']
    · rw [if_neg hw]
      have n1 : 1 ≤ n := by
        by_cases e : n = 0
        · rw [e] at hz
          simp at hz
          exact absurd hz hw
        · omega
      by_cases h6 : 6 < n
      · have ei : i = 6 := by omega
        have hne : ¬ e = 0#64 := by rw [hi, ei]; exact hnz 6 (by decide) h6
        refine ⟨0, Or.inl rfl, by rw [if_neg hne], ?_⟩
        rw [if_neg (by omega), if_pos h6, hm0']
      · have ei : i = n := by omega
        have he : e = 0#64 := by rw [hi, ei]; exact hz
        rw [if_pos he, if_neg (by omega), if_neg h6]
        rcases kw_spec w s with ⟨j, j0, j16, k1, k2⟩ | ⟨k1, k2⟩
        · refine ⟨0, Or.inl rfl, ?_, ?_⟩
          · rw [zo_of k1, zg_pos ⟨by omega, by omega⟩, if_neg (by omega)]
          · rw [zo_of k2, zg_pos ⟨by omega, by omega⟩, if_neg (by omega), hm0']
        · refine ⟨1, Or.inr rfl, ?_, ?_⟩
          · rw [zo_of k1, zg_pos (by decide), if_pos rfl]
          · rw [zo_of k2, zg_pos (by decide), if_pos rfl]
            rcases hm1 with ⟨h, -⟩ | ⟨-, h⟩
            · exact h
            · exact absurd ⟨rfl, fun k hk hk2 => hall k hk (by omega)⟩ h
  · obtain ⟨hr, k, k0, kn, hk⟩ := hq
    refine ⟨0, Or.inl rfl, by rw [ze_r, hr], ?_⟩
    have hm1' : j_146_29 w n 1 s = some 0 := by
      rcases hm1 with ⟨-, -, h⟩ | ⟨h, -⟩
      · exact absurd (h k k0 kn) hk
      · exact h
    by_cases h1 : n < 1
    · rw [if_pos h1, hm0']
    · rw [if_neg h1]
      by_cases h6 : 6 < n
      · rw [if_pos h6, hm0']
      · rw [if_neg h6]
        rcases kw_spec w s with ⟨j, j0, j16, k1, k2⟩ | ⟨k1, k2⟩
        · rw [zo_of k2, zg_pos ⟨by omega, by omega⟩, if_neg (by omega), hm0']
        · rw [zo_of k2, zg_pos (by decide), if_pos rfl, hm1']
/-- the class's numberOf -/
theorem c_numberOf {s : zS} (hW : IW s) (w : BitVec 64) : ∃ r, f_48 w s = some r ∧ ((0 ≤ r ∧ r < gI s 1 4 ∧ gJ s 3 r = w ∧ ∀ i, 0 ≤ i → i < r → gJ s 3 i ≠ w) ∨ (r = -1 ∧ ∀ i, 0 ≤ i → i < gI s 1 4 → gJ s 3 i ≠ w)) := by
  obtain ⟨-, -, ⟨r0, r8, -⟩, -⟩ := hW
  have hloop := zlp_F (B := fun (q : Int) => b_48_2 w s q) (I := fun q => 0 ≤ q ∧ q ≤ gI s 1 4 ∧ ∀ i, 0 ≤ i → i < q → gJ s 3 i ≠ w) (μ := fun q => (gI s 1 4 - q).toNat) (Q := fun t => Sum.elim (fun _ => ∀ i, 0 ≤ i → i < gI s 1 4 → gJ s 3 i ≠ w) (fun r => 0 ≤ r ∧ r < gI s 1 4 ∧ gJ s 3 r = w ∧ ∀ i, 0 ≤ i → i < r → gJ s 3 i ≠ w) t) (by
    rintro i ⟨a1, a2, a3⟩
    unfold b_48_2
    rw [zg_pos ⟨by omega, by omega⟩]
    by_cases hc : i < gI s 1 4
    · rw [if_pos hc, zg_pos ⟨by omega, by omega⟩]
      by_cases he : gJ s 3 i = w
      · right
        rw [if_pos he]
        exact ⟨_, rfl, a1, hc, he, a3⟩
      · left
        rw [if_neg he]
        refine ⟨_, rfl, ⟨by omega, by omega, fun j hj hj2 => ?_⟩, by omega⟩
        by_cases e : j = i
        · rw [e]; exact he
        · exact a3 j hj (by omega)
    · right
      rw [if_neg hc]
      exact ⟨_, rfl, fun j hj hj2 => a3 j hj (by omega)⟩) (s := 0) ⟨by decide, r0, fun i hi hi2 => by omega⟩ (by omega)
  obtain ⟨t, ht, hq⟩ := hloop
  rcases t with u | r
  · exact ⟨-1, by unfold f_48; rw [zo_of ht]; rfl, Or.inr ⟨rfl, hq⟩⟩
  · exact ⟨r, by unfold f_48; rw [zo_of ht]; rfl, Or.inl hq⟩
