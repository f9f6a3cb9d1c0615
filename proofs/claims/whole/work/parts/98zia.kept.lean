/-! THE REFERENCE: a step of its parser leaves the token as it was. -/
section KEPT
variable {B : Int → Int} {l cur : Int} {τ : zS}
theorem tk3 (h : TB B l) (c0 : 0 ≤ cur) (cl : cur ≤ l) (h3 : tkK B l cur = 3) : 0 ≤ tkV B l cur ∧ tkV B l cur < 1000 := by
  obtain ⟨⟨a1, a2, a3⟩, a4⟩ := tkP_spec h c0 cl
  obtain ⟨l0, l6, hb⟩ := id h
  unfold tkV
  unfold tkK tkW tkE at h3
  unfold tkE
  generalize tkP B l cur = p at a1 a2 a3 a4 h3 ⊢
  by_cases hp : p < l
  · have hbp := hb p (by omega) hp
    rw [if_pos hp] at h3 ⊢
    rw [if_pos hp] at h3
    by_cases hz : zlet (B p)
    · exfalso
      rw [if_pos hz, if_pos hz] at h3
      have := (kwk_spec (zwd B p (rn (fun i => decide (zlet (B i))) l p - p).toNat) default).2.2
      split at h3
      · omega
      · split at h3 <;> omega
    · rw [if_neg hz] at h3 ⊢
      rw [if_neg hz] at h3
      by_cases hd : zdig (B p)
      · rw [if_pos hd] at h3 ⊢
        rw [if_pos hd] at h3
        obtain ⟨⟨b1, b2, b3⟩, b4⟩ := rn_spec (P := fun i => decide (zdig (B i))) (l := l) (i := p) (by omega) a4 l6
        refine znm_b3 ?_ (fun k k0 k1 => of_decide_eq_true (b2 k k0 (by omega)).2)
        split at h3
        · omega
        · omega
      · exfalso
        rw [if_neg hd] at h3
        by_cases h0 : psk (B p) (tkN B l p) = 0
        · rw [if_pos h0] at h3
          obtain ⟨r, -, -, h4⟩ := c_sign (s := default) hbp.1 hbp.2
          omega
        · rw [if_neg h0] at h3
          have := psk_b (B p) (tkN B l p)
          omega
  · rw [if_neg hp] at h3
    omega
theorem kept_z {M : Nat} {s t : zS} (h : zfr M s t) (h1 : Nat.testBit M 426 = false) (h2 : Nat.testBit M 427 = false) : gI t 177 26 = gI s 177 26 ∧ gI t 177 27 = gI s 177 27 := ⟨h.i (c := 177) (i := 26) h1, h.i (c := 177) (i := 27) h2⟩
theorem kept103 {q : Int × zS} (h : j_171_103 τ = some q) : gI q.2 177 26 = gI τ 177 26 ∧ gI q.2 177 27 = gI τ 177 27 := by
  unfold j_171_103 at h
  obtain ⟨a, s, h1, h2⟩ := zb_some h
  cases h2
  exact kept_z (fr_158 h1) rfl rfl
theorem kept118 {x : Int} {q : Int × zS} (h : j_171_118 x τ = some q) : gI q.2 177 26 = gI τ 177 26 ∧ gI q.2 177 27 = gI τ 177 27 := by
  unfold j_171_118 at h
  obtain ⟨-, h⟩ := zg_some h
  split at h
  · split at h
    · obtain ⟨a, s, h1, h2⟩ := zb_some h
      cases h2
      exact kept_z (fr_158 h1) rfl rfl
    · obtain ⟨a, s, h1, h2⟩ := zb_some h
      cases h2
      exact kept_z (fr_174 h1) rfl rfl
  · obtain ⟨a, s, h1, h2⟩ := zb_some h
    cases h2
    exact kept_z (fr_158 h1) rfl rfl
theorem kept82 (hB : TB B l) (hMT : MT τ B l) (hmc : gI τ 177 26 = cur) (c0 : 0 ≤ cur) (cl : cur ≤ l) {x : Int} {q : Int × zS} (h : j_171_82 x τ = some q) : gI q.2 177 26 = gI τ 177 26 ∧ gI q.2 177 27 = gI τ 177 27 := by
  unfold j_171_82 at h
  split at h
  · exact kept103 h
  · obtain ⟨-, h⟩ := zg_some h
    split at h
    · exact kept118 h
    · obtain ⟨a, s, h1, h2⟩ := zb_some h
      obtain ⟨s', e1, e2, e3, e4⟩ := m_beginsLine hB hMT hmc c0 cl
      rw [e1] at h1
      injection h1 with h1
      injection h1 with h1a h1b
      rw [h1b] at e2 e3
      obtain ⟨-, h2⟩ := zg_some h2
      split at h2
      · obtain ⟨g1, g2⟩ := kept118 h2
        exact ⟨by rw [g1, e2, hmc], by rw [g2, e3]⟩
      · obtain ⟨g1, g2⟩ := kept103 h2
        exact ⟨by rw [g1, e2, hmc], by rw [g2, e3]⟩
theorem kept171 (hB : TB B l) (hMT : MT τ B l) (hmc : gI τ 177 26 = cur) (c0 : 0 ≤ cur) (cl : cur ≤ l) {q : Int × zS} (h : f_171 τ = some q) : gI q.2 177 26 = gI τ 177 26 ∧ gI q.2 177 27 = gI τ 177 27 := by
  unfold f_171 j_171_81 at h
  split at h
  · obtain ⟨a, s, h1, h2⟩ := zb_some h
    cases h2
    exact kept_z (fr_158 h1) rfl rfl
  · split at h
    · obtain ⟨a, s, h1, h2⟩ := zb_some h
      cases h2
      exact kept_z (fr_158 h1) rfl rfl
    · split at h
      · obtain ⟨a, s, h1, h2⟩ := zb_some h
        cases h2
        exact kept_z (fr_172 h1) rfl rfl
      · split at h
        · obtain ⟨a, s, h1, h2⟩ := zb_some h
          cases h2
          exact kept_z (fr_172 h1) rfl rfl
        · split at h
          · exact kept82 hB hMT hmc c0 cl h
          · split at h
            · exact kept82 hB hMT hmc c0 cl h
            · exact kept82 hB hMT hmc c0 cl h
theorem kept170 (hB : TB B l) (hMT : MT τ B l) (hmc : gI τ 177 26 = cur) (c0 : 0 ≤ cur) (cl : cur ≤ l) {x y : Int} {τ' : zS} (h : f_170 x τ = some (y, τ')) : gI τ' 177 26 = gI τ 177 26 ∧ gI τ' 177 27 = gI τ 177 27 := by
  unfold f_170 at h
  obtain ⟨-, h⟩ := zg_some h
  split at h
  · obtain ⟨a, s, h1, h2⟩ := zb_some h
    cases h2
    exact kept171 hB hMT hmc c0 cl h1
  · split at h
    · obtain ⟨a, s, h1, h2⟩ := zb_some h
      cases h2
      exact kept_z (fr_174 h1) rfl rfl
    · split at h
      · obtain ⟨a, s, h1, h2⟩ := zb_some h
        cases h2
        exact kept_z (fr_176 h1) rfl rfl
      · split at h
        · obtain ⟨a, s, h1, h2⟩ := zb_some h
          cases h2
          exact kept_z (fr_183 h1) rfl rfl
        · split at h
          · obtain ⟨a, s, h1, h2⟩ := zb_some h
            cases h2
            exact kept_z (fr_188 h1) rfl rfl
          · cases h
theorem cursorKept (hB : TB B l) (hMT : MT τ B l) (hmc : gI τ 177 26 = cur) (c0 : 0 ≤ cur) (cl : cur ≤ l) {x y : Int} {τ' : zS} (h : f_170 x τ = some (y, τ')) : gI τ' 177 26 = cur := by
  rw [(kept170 hB hMT hmc c0 cl h).1]; exact hmc
theorem tokenKept {t : Int} (hB : TB B l) (hMT : MT τ B l) (hmc : gI τ 177 26 = cur) (c0 : 0 ≤ cur) (cl : cur ≤ l) {x y : Int} {τ' : zS} (h : f_170 x τ = some (y, τ')) (ht : gI τ 177 27 = t) : gI τ' 177 27 = t := by
  rw [(kept170 hB hMT hmc c0 cl h).2]; exact ht
end KEPT
