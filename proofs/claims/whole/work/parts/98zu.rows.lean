/-! THE REFERENCE'S READING leaves the rows of its codes but the last one. By program (py/gen98zu.py). -/
def NNm (s : zS) : Prop := (∀ i, 0 ≤ gI s 192 i) ∧ 0 ≤ gI s 177 41
def zfm (a b : zS) : Prop := NNm a → NNm b ∧ ∀ x, (x = 184 ∨ x = 185 ∨ x = 186) → ∀ i, i < 5440 → gI b x i = gI a x i
theorem zfm_rf (s : zS) : zfm s s := fun h => ⟨h, fun _ _ _ _ => rfl⟩
theorem zfm_tr {a b c : zS} (h1 : zfm a b) (h2 : zfm b c) : zfm a c := fun h => ⟨(h2 (h1 h).1).1, fun x hx i hi => ((h2 (h1 h).1).2 x hx i hi).trans ((h1 h).2 x hx i hi)⟩
theorem zfm_lp {S T : Type} {B : S → Option (S ⊕ T)} {f : S → zS} {g : T → zS} (h : ∀ s q, B s = some q → zfm (f s) (Sum.elim f g q)) : ∀ n s t, zlp B n s = some t → zfm (f s) (g t) := by
  intro n
  induction n with
  | zero => intro s t h1; cases h1
  | succ n ih =>
    intro s t h1
    unfold zlp at h1
    split at h1
    · rename_i s' e
      exact zfm_tr (h s _ e) (ih s' t h1)
    · rename_i t' e
      cases h1
      exact h s _ e
    · cases h1
theorem zfm_of {m : Nat} {s t : zS} (h : zfr m s t) (h1 : Nat.testBit m 184 = false) (h2 : Nat.testBit m 185 = false) (h3 : Nat.testBit m 186 = false) (h4 : Nat.testBit m 192 = false) (h5 : Nat.testBit m 441 = false) : zfm s t := fun hN => ⟨⟨fun i => by rw [h.ia (c := 192) rfl h4]; exact hN.1 i, by rw [h.i (c := 177) (i := 41) h5]; exact hN.2⟩, fun x hx i _ => by
  rcases hx with e | e | e
  · rw [e, h.ia (c := 184) rfl h1]
  · rw [e, h.ia (c := 185) rfl h2]
  · rw [e, h.ia (c := 186) rfl h3]⟩
theorem zfm_I {c : Nat} {s : zS} {i v : Int} (h : c ≠ 184 ∧ c ≠ 185 ∧ c ≠ 186 ∧ c ≠ 192 ∧ (c ≠ 177 ∨ i ≠ 41)) : zfm s (sI s c i v) := by
  intro hN
  refine ⟨⟨fun j => by rw [gI_nc (fun e => h.2.2.2.1 e.symm)]; exact hN.1 j, ?_⟩, fun x hx j _ => gI_nc (by rcases hx with e | e | e <;> rw [e] <;> omega)⟩
  rcases h.2.2.2.2 with h1 | h1
  · rw [gI_nc (fun e => h1 e.symm)]; exact hN.2
  · rw [gI_ni (fun e => h1 e.symm)]; exact hN.2
theorem zfm_J {c : Nat} {s : zS} {i : Int} {v : BitVec 64} : zfm s (sJ s c i v) := fun h => ⟨h, fun _ _ _ _ => rfl⟩
theorem zfm_w {c : Nat} {s : zS} {i v : Int} (hc : c = 184 ∨ c = 185 ∨ c = 186) (hi : 5440 ≤ i) : zfm s (sI s c i v) := fun hN => ⟨⟨fun j => by rw [gI_nc (by omega)]; exact hN.1 j, by rw [gI_nc (by omega)]; exact hN.2⟩, fun x _ j hj => gI_ni (by omega)⟩
theorem zfm_41 {s : zS} {v : Int} (h0 : 0 ≤ v) (hR : zR v) : zfm s (sI s 177 41 v) := fun hN => ⟨⟨fun j => by rw [gI_nc (by decide)]; exact hN.1 j, by rw [gI_same hR]; exact h0⟩, fun x hx j _ => gI_nc (by rcases hx with e | e | e <;> rw [e] <;> decide)⟩
theorem zfm_192 {s : zS} {i v : Int} (h0 : NNm s → 0 ≤ v) (hR : zR v) : zfm s (sI s 192 i v) := fun hN => ⟨⟨fun j => by
  by_cases e : j = i
  · rw [e, gI_same hR]; exact h0 hN
  · rw [gI_ni e]; exact hN.1 j, by rw [gI_nc (by decide)]; exact hN.2⟩, fun x hx j _ => gI_nc (by rcases hx with e | e | e <;> rw [e] <;> decide)⟩
theorem mm_158 {v1 : Int} {v2 : Int} {s : zS} {q : (Unit × zS)} (h : f_158 v1 v2 s = some q) : zfm s q.2 := by
  unfold f_158 at h
  obtain ⟨hg1, h⟩ := zg_some h
  cases h
  have e : ∀ x y z, gI (sI (sI (sI s 189 (gI s 177 38) x) 190 (gI s 177 38) y) 191 (gI s 177 38) z) 177 41 = gI s 177 41 := fun x y z => by rw [gI_nc (by decide), gI_nc (by decide), gI_nc (by decide)]
  exact zfm_tr (zfm_tr (zfm_tr (zfm_tr (zfm_tr (zfm_tr (zfm_I ⟨by decide, by decide, by decide, by decide, Or.inl (by decide)⟩) (zfm_I ⟨by decide, by decide, by decide, by decide, Or.inl (by decide)⟩)) (zfm_I ⟨by decide, by decide, by decide, by decide, Or.inl (by decide)⟩)) (zfm_192 (fun hN => by have := hN.2; rw [e] at this; exact this) (zR_gI _ _ _))) (zfm_I ⟨by decide, by decide, by decide, by decide, Or.inl (by decide)⟩)) zfm_J) (zfm_I ⟨by decide, by decide, by decide, by decide, Or.inr (by decide)⟩)
theorem mm_172 {v1 : Int} {v2 : Int} {v3 : Int} {s : zS} {q : (Unit × zS)} (h : f_172 v1 v2 v3 s = some q) : zfm s q.2 := by
  unfold f_172 at h
  obtain ⟨hg1, h⟩ := zg_some h
  cases h
  intro hN
  have h0 := hN.2
  exact (zfm_tr (zfm_tr (zfm_tr (zfm_w (Or.inl rfl) (by omega)) (zfm_w (Or.inr (Or.inl rfl)) (by omega))) (zfm_w (Or.inr (Or.inr rfl)) (by omega))) (zfm_41 (by omega) ⟨by omega, by omega⟩)) hN
theorem mm_187 {s : zS} {q : (Unit × zS)} (h : f_187 s = some q) : zfm s q.2 := by
  unfold f_187 at h
  obtain ⟨hg1, h⟩ := zg_some h
  obtain ⟨r3, s4, h2, h⟩ := zb_some h
  have f5 : zfm s s4 := zfm_tr (zfm_I ⟨by decide, by decide, by decide, by decide, Or.inr (by decide)⟩) (mm_172 h2)
  obtain ⟨hg2, h⟩ := zg_some h
  obtain ⟨hg3, h⟩ := zg_some h
  cases h
  intro hN
  have h4 := (f5 hN).1.1 (gI s4 177 38)
  exact (zfm_tr f5 (zfm_w (Or.inr (Or.inl rfl)) (by omega))) hN
theorem mmj_176_132 {t1 : Int} {t2 : Int} {s : zS} {q : (Int × zS)} (h : j_176_132 t1 t2 s = some q) : zfm s q.2 := by
  unfold j_176_132 at h
  obtain ⟨hg1, h⟩ := zg_some h
  obtain ⟨hg2, h⟩ := zg_some h
  obtain ⟨r3, s4, h2, h⟩ := zb_some h
  cases h
  have e : gI (sI s 189 t1 t2) 177 41 = gI s 177 41 := gI_nc (by decide)
  exact zfm_tr (zfm_tr (zfm_tr (zfm_I ⟨by decide, by decide, by decide, by decide, Or.inl (by decide)⟩) (zfm_192 (fun hN => by have := hN.2; rw [e] at this; exact this) (zR_gI _ _ _))) (zfm_I ⟨by decide, by decide, by decide, by decide, Or.inr (by decide)⟩)) (mm_172 h2)
theorem mmj_171_103 {s : zS} {q : (Int × zS)} (h : j_171_103 s = some q) : zfm s q.2 := by
  unfold j_171_103 at h
  obtain ⟨r2, s3, h1, h⟩ := zb_some h
  have f4 := zfm_tr (zfm_rf _) (mm_158 h1)
  cases h
  exact f4
theorem mmb_175_101 {v3 : Int} {s : zS} {q : (Int × zS) ⊕ ((zS) ⊕ (Int × zS))} (h : b_175_101 v3 s = some q) : zfm s (Sum.elim (fun e : (Int × zS) => e.2) (fun t : ((zS) ⊕ (Int × zS)) => Sum.elim (fun e : (zS) => e) (fun q => q.2) t) q) := by
  unfold b_175_101 at h
  obtain ⟨hg1, h⟩ := zg_some h
  by_cases hc2 : v3 < (gI s 177 10)
  · rw [if_pos hc2] at h
    obtain ⟨hg3, h⟩ := zg_some h
    by_cases hc4 : (gJ s 179 v3) = (gJ s 177 29)
    · rw [if_pos hc4] at h
      obtain ⟨r6, s7, h5, h⟩ := zb_some h
      have f8 := zfm_tr (zfm_rf _) (mm_172 h5)
      obtain ⟨hg9, h⟩ := zg_some h
      cases h
      exact (zfm_tr (zfm_tr f8 (zfm_I ⟨by decide, by decide, by decide, by decide, by first | exact Or.inl (by decide) | exact Or.inr (by decide)⟩)) (zfm_I ⟨by decide, by decide, by decide, by decide, by first | exact Or.inl (by decide) | exact Or.inr (by decide)⟩))
    · rw [if_neg hc4] at h
      cases h
      exact (zfm_rf _)
  · rw [if_neg hc2] at h
    cases h
    exact (zfm_rf _)
theorem mml_175_101 {n : Nat} {e0 : (Int × zS)} {t : ((zS) ⊕ (Int × zS))} (h : zlp (fun (q : Int × zS) => b_175_101 q.1 q.2) n e0 = some t) : zfm ((fun e : (Int × zS) => e.2) e0) ((fun t : ((zS) ⊕ (Int × zS)) => Sum.elim (fun e : (zS) => e) (fun q => q.2) t) t) := zfm_lp (f := (fun e : (Int × zS) => e.2)) (g := (fun t : ((zS) ⊕ (Int × zS)) => Sum.elim (fun e : (zS) => e) (fun q => q.2) t)) (fun e q h1 => mmb_175_101 h1) n e0 t h
theorem mm_175 {s : zS} {q : (Int × zS)} (h : f_175 s = some q) : zfm s q.2 := by
  unfold f_175 at h
  obtain ⟨e1, h2, h⟩ := zo_some h
  obtain ⟨hg3, h⟩ := zg_some h
  by_cases hc4 : e1 = (-1)
  · rw [if_pos hc4] at h
    obtain ⟨e5, h6, h⟩ := zo_some h
    rcases e5 with e8 | q9
    · simp only [ze_l] at h
      have f7 : zfm s e8 := zfm_tr (zfm_rf _) (mml_175_101 h6)
      cases h
      exact f7
    · cases h
      exact zfm_tr (zfm_rf _) (mml_175_101 h6)
  · rw [if_neg hc4] at h
    obtain ⟨r11, s12, h10, h⟩ := zb_some h
    have f13 := zfm_tr (zfm_rf _) (mm_172 h10)
    obtain ⟨hg14, h⟩ := zg_some h
    cases h
    exact (zfm_tr (zfm_tr f13 (zfm_I ⟨by decide, by decide, by decide, by decide, by first | exact Or.inl (by decide) | exact Or.inr (by decide)⟩)) (zfm_I ⟨by decide, by decide, by decide, by decide, by first | exact Or.inl (by decide) | exact Or.inr (by decide)⟩))
theorem mmj_174_99 {s : zS} {q : (Int × zS)} (h : j_174_99 s = some q) : zfm s q.2 := by
  unfold j_174_99 at h
  obtain ⟨r2, s3, h1, h⟩ := zb_some h
  have f4 := zfm_tr (zfm_rf _) (mm_172 h1)
  by_cases hc5 : (gI s3 177 27) = 23
  · rw [if_pos hc5] at h
    obtain ⟨hg6, h⟩ := zg_some h
    cases h
    exact (zfm_tr (zfm_tr f4 (zfm_I ⟨by decide, by decide, by decide, by decide, by first | exact Or.inl (by decide) | exact Or.inr (by decide)⟩)) (zfm_I ⟨by decide, by decide, by decide, by decide, by first | exact Or.inl (by decide) | exact Or.inr (by decide)⟩))
  · rw [if_neg hc5] at h
    obtain ⟨hg7, h⟩ := zg_some h
    cases h
    exact (zfm_tr (zfm_tr f4 (zfm_I ⟨by decide, by decide, by decide, by decide, by first | exact Or.inl (by decide) | exact Or.inr (by decide)⟩)) (zfm_I ⟨by decide, by decide, by decide, by decide, by first | exact Or.inl (by decide) | exact Or.inr (by decide)⟩))
theorem mm_174 {s : zS} {q : (Int × zS)} (h : f_174 s = some q) : zfm s q.2 := by
  unfold f_174 at h
  obtain ⟨r2, h1, h⟩ := zo_some h
  obtain ⟨hg3, h⟩ := zg_some h
  by_cases hc4 : r2 = 16
  · rw [if_pos hc4] at h
    obtain ⟨r6, s7, h5, h⟩ := zb_some h
    have f8 := zfm_tr (zfm_rf _) (mm_158 h5)
    cases h
    exact f8
  · rw [if_neg hc4] at h
    by_cases hc9 : (gI s 177 27) = 45
    · rw [if_pos hc9] at h
      obtain ⟨r11, s12, h10, h⟩ := zb_some h
      have f13 := zfm_tr (zfm_rf _) (mm_158 h10)
      cases h
      exact f13
    · rw [if_neg hc9] at h
      by_cases hc14 : (gI s 177 27) = 49
      · rw [if_pos hc14] at h
        obtain ⟨r16, s17, h15, h⟩ := zb_some h
        have f18 := zfm_tr (zfm_rf _) (mm_158 h15)
        cases h
        exact f18
      · rw [if_neg hc14] at h
        by_cases hc19 : (gI s 177 27) = 1
        · rw [if_pos hc19] at h
          obtain ⟨r21, s22, h20, h⟩ := zb_some h
          have f23 := zfm_tr (zfm_rf _) (mm_175 h20)
          obtain ⟨hg24, h⟩ := zg_some h
          by_cases hc25 : r21 = 0
          · rw [if_pos hc25] at h
            cases h
            exact f23
          · rw [if_neg hc25] at h
            cases h
            exact f23
        · rw [if_neg hc19] at h
          by_cases hc26 : (gI s 177 27) = 21
          · rw [if_pos hc26] at h
            exact zfm_tr (zfm_rf _) (mmj_174_99 h)
          · rw [if_neg hc26] at h
            by_cases hc27 : (gI s 177 27) = 22
            · rw [if_pos hc27] at h
              exact zfm_tr (zfm_rf _) (mmj_174_99 h)
            · rw [if_neg hc27] at h
              by_cases hc28 : (gI s 177 27) = 23
              · rw [if_pos hc28] at h
                exact zfm_tr (zfm_rf _) (mmj_174_99 h)
              · rw [if_neg hc28] at h
                cases h
                exact (zfm_rf _)
theorem mmj_171_118 {v1 : Int} {s : zS} {q : (Int × zS)} (h : j_171_118 v1 s = some q) : zfm s q.2 := by
  unfold j_171_118 at h
  obtain ⟨hg1, h⟩ := zg_some h
  by_cases hc2 : v1 = 0
  · rw [if_pos hc2] at h
    by_cases hc3 : (gI s 177 27) = 41
    · rw [if_pos hc3] at h
      obtain ⟨r5, s6, h4, h⟩ := zb_some h
      have f7 := zfm_tr (zfm_rf _) (mm_158 h4)
      cases h
      exact f7
    · rw [if_neg hc3] at h
      obtain ⟨r9, s10, h8, h⟩ := zb_some h
      have f11 := zfm_tr (zfm_rf _) (mm_174 h8)
      cases h
      exact f11
  · rw [if_neg hc2] at h
    obtain ⟨r13, s14, h12, h⟩ := zb_some h
    have f15 := zfm_tr (zfm_rf _) (mm_158 h12)
    cases h
    exact f15
theorem mmj_171_82 {t0 : Int} {s : zS} {q : (Int × zS)} (h : j_171_82 t0 s = some q) : zfm s q.2 := by
  unfold j_171_82 at h
  by_cases hc1 : (gI s 177 27) = 10
  · rw [if_pos hc1] at h
    exact zfm_tr (zfm_rf _) (mmj_171_103 h)
  · rw [if_neg hc1] at h
    obtain ⟨hg2, h⟩ := zg_some h
    by_cases hc3 : t0 = 0
    · rw [if_pos hc3] at h
      exact zfm_tr (zfm_rf _) (mmj_171_118 h)
    · rw [if_neg hc3] at h
      obtain ⟨r5, s6, h4, h⟩ := zb_some h
      have f7 := zfm_tr (zfm_rf _) (zfm_of (fr_173 h4) rfl rfl rfl rfl rfl)
      obtain ⟨hg8, h⟩ := zg_some h
      by_cases hc9 : r5 = 0
      · rw [if_pos hc9] at h
        exact zfm_tr f7 (mmj_171_118 h)
      · rw [if_neg hc9] at h
        exact zfm_tr f7 (mmj_171_103 h)
theorem mmj_171_81 {s : zS} {q : (Int × zS)} (h : j_171_81 s = some q) : zfm s q.2 := by
  unfold j_171_81 at h
  exact zfm_tr (zfm_rf _) (mmj_171_82 h)
theorem mm_171 {s : zS} {q : (Int × zS)} (h : f_171 s = some q) : zfm s q.2 := by
  unfold f_171 at h
  by_cases hc1 : (gI s 177 27) = 15
  · rw [if_pos hc1] at h
    obtain ⟨r3, s4, h2, h⟩ := zb_some h
    have f5 := zfm_tr (zfm_rf _) (mm_158 h2)
    cases h
    exact f5
  · rw [if_neg hc1] at h
    by_cases hc6 : (gI s 177 27) = 47
    · rw [if_pos hc6] at h
      obtain ⟨r8, s9, h7, h⟩ := zb_some h
      have f10 := zfm_tr (zfm_rf _) (mm_158 h7)
      cases h
      exact f10
    · rw [if_neg hc6] at h
      by_cases hc11 : (gI s 177 27) = 24
      · rw [if_pos hc11] at h
        obtain ⟨r13, s14, h12, h⟩ := zb_some h
        have f15 := zfm_tr (zfm_rf _) (mm_172 h12)
        cases h
        exact f15
      · rw [if_neg hc11] at h
        by_cases hc16 : (gI s 177 27) = 25
        · rw [if_pos hc16] at h
          obtain ⟨r18, s19, h17, h⟩ := zb_some h
          have f20 := zfm_tr (zfm_rf _) (mm_172 h17)
          cases h
          exact f20
        · rw [if_neg hc16] at h
          by_cases hc21 : (gI s 177 27) < 10
          · rw [if_pos hc21] at h
            exact zfm_tr (zfm_rf _) (mmj_171_81 h)
          · rw [if_neg hc21] at h
            by_cases hc22 : 14 < (gI s 177 27)
            · rw [if_pos hc22] at h
              exact zfm_tr (zfm_rf _) (mmj_171_81 h)
            · rw [if_neg hc22] at h
              exact zfm_tr (zfm_rf _) (mmj_171_82 h)
theorem mmj_179_246 {v1 : Int} {v2 : Int} {v3 : Int} {v4 : Int} {v5 : Int} {s : zS} {q : (Int × zS)} (h : j_179_246 v1 v2 v3 v4 v5 s = some q) : zfm s q.2 := by
  unfold j_179_246 at h
  obtain ⟨hg1, h⟩ := zg_some h
  obtain ⟨r3, s4, h2, h⟩ := zb_some h
  have f5 := zfm_tr (zfm_tr (zfm_rf _) (zfm_I ⟨by decide, by decide, by decide, by decide, by first | exact Or.inl (by decide) | exact Or.inr (by decide)⟩)) (mm_172 h2)
  obtain ⟨hg6, h⟩ := zg_some h
  by_cases hc7 : v5 = 0
  · rw [if_pos hc7] at h
    obtain ⟨hg8, h⟩ := zg_some h
    obtain ⟨r10, s11, h9, h⟩ := zb_some h
    have f12 := zfm_tr f5 (zfm_of (fr_180 h9) rfl rfl rfl rfl rfl)
    cases h
    exact f12
  · rw [if_neg hc7] at h
    cases h
    exact f5
theorem mmj_179_153 {v1 : Int} {v2 : Int} {v3 : Int} {v4 : Int} {t0 : Int} {s : zS} {q : (Int × zS)} (h : j_179_153 v1 v2 v3 v4 t0 s = some q) : zfm s q.2 := by
  unfold j_179_153 at h
  exact zfm_tr (zfm_rf _) (mmj_179_246 h)
theorem mmj_179_152 {v1 : Int} {v2 : Int} {v3 : Int} {v4 : Int} {s : zS} {q : (Int × zS)} (h : j_179_152 v1 v2 v3 v4 s = some q) : zfm s q.2 := by
  unfold j_179_152 at h
  exact zfm_tr (zfm_rf _) (mmj_179_153 h)
theorem mmj_179_174 {v1 : Int} {v2 : Int} {v3 : Int} {v4 : Int} {t0 : Int} {s : zS} {q : (Int × zS)} (h : j_179_174 v1 v2 v3 v4 t0 s = some q) : zfm s q.2 := by
  unfold j_179_174 at h
  exact zfm_tr (zfm_rf _) (mmj_179_246 h)
theorem mmj_179_195 {v1 : Int} {v2 : Int} {v3 : Int} {v4 : Int} {t0 : Int} {s : zS} {q : (Int × zS)} (h : j_179_195 v1 v2 v3 v4 t0 s = some q) : zfm s q.2 := by
  unfold j_179_195 at h
  exact zfm_tr (zfm_rf _) (mmj_179_246 h)
theorem mmj_179_229 {v1 : Int} {v2 : Int} {v3 : Int} {v4 : Int} {t0 : Int} {s : zS} {q : (Int × zS)} (h : j_179_229 v1 v2 v3 v4 t0 s = some q) : zfm s q.2 := by
  unfold j_179_229 at h
  exact zfm_tr (zfm_rf _) (mmj_179_246 h)
theorem mmj_179_228 {v1 : Int} {v2 : Int} {v3 : Int} {v4 : Int} {s : zS} {q : (Int × zS)} (h : j_179_228 v1 v2 v3 v4 s = some q) : zfm s q.2 := by
  unfold j_179_228 at h
  exact zfm_tr (zfm_rf _) (mmj_179_229 h)
theorem mmj_179_212 {v1 : Int} {v2 : Int} {v3 : Int} {v4 : Int} {s : zS} {q : (Int × zS)} (h : j_179_212 v1 v2 v3 v4 s = some q) : zfm s q.2 := by
  unfold j_179_212 at h
  obtain ⟨hg1, h⟩ := zg_some h
  by_cases hc2 : v4 < 1
  · rw [if_pos hc2] at h
    exact zfm_tr (zfm_rf _) (mmj_179_228 h)
  · rw [if_neg hc2] at h
    by_cases hc3 : 3 < v4
    · rw [if_pos hc3] at h
      exact zfm_tr (zfm_rf _) (mmj_179_228 h)
    · rw [if_neg hc3] at h
      exact zfm_tr (zfm_rf _) (mmj_179_229 h)
theorem mmj_179_244 {v1 : Int} {v2 : Int} {v3 : Int} {v4 : Int} {t0 : Int} {s : zS} {q : (Int × zS)} (h : j_179_244 v1 v2 v3 v4 t0 s = some q) : zfm s q.2 := by
  unfold j_179_244 at h
  exact zfm_tr (zfm_rf _) (mmj_179_246 h)
theorem mmj_179_130 {v1 : Int} {v2 : Int} {v3 : Int} {t0 : Int} {s : zS} {q : (Int × zS)} (h : j_179_130 v1 v2 v3 t0 s = some q) : zfm s q.2 := by
  unfold j_179_130 at h
  obtain ⟨hg1, h⟩ := zg_some h
  by_cases hc2 : v1 = 31
  · rw [if_pos hc2] at h
    obtain ⟨hg3, h⟩ := zg_some h
    by_cases hc4 : v3 = 2
    · rw [if_pos hc4] at h
      obtain ⟨hg5, h⟩ := zg_some h
      by_cases hc6 : v2 = 2
      · rw [if_pos hc6] at h
        exact zfm_tr (zfm_rf _) (mmj_179_153 h)
      · rw [if_neg hc6] at h
        exact zfm_tr (zfm_rf _) (mmj_179_152 h)
    · rw [if_neg hc4] at h
      exact zfm_tr (zfm_rf _) (mmj_179_152 h)
  · rw [if_neg hc2] at h
    by_cases hc7 : v1 = 32
    · rw [if_pos hc7] at h
      obtain ⟨hg8, h⟩ := zg_some h
      by_cases hc9 : v3 = 1
      · rw [if_pos hc9] at h
        exact zfm_tr (zfm_rf _) (mmj_179_174 h)
      · rw [if_neg hc9] at h
        exact zfm_tr (zfm_rf _) (mmj_179_174 h)
    · rw [if_neg hc7] at h
      by_cases hc10 : v1 = 33
      · rw [if_pos hc10] at h
        obtain ⟨hg11, h⟩ := zg_some h
        by_cases hc12 : v2 = 1
        · rw [if_pos hc12] at h
          exact zfm_tr (zfm_rf _) (mmj_179_195 h)
        · rw [if_neg hc12] at h
          exact zfm_tr (zfm_rf _) (mmj_179_195 h)
      · rw [if_neg hc10] at h
        by_cases hc13 : v1 = 30
        · rw [if_pos hc13] at h
          exact zfm_tr (zfm_rf _) (mmj_179_212 h)
        · rw [if_neg hc13] at h
          by_cases hc14 : v1 = 37
          · rw [if_pos hc14] at h
            exact zfm_tr (zfm_rf _) (mmj_179_212 h)
          · rw [if_neg hc14] at h
            obtain ⟨hg15, h⟩ := zg_some h
            obtain ⟨hg16, h⟩ := zg_some h
            by_cases hc17 : v3 = v2
            · rw [if_pos hc17] at h
              exact zfm_tr (zfm_rf _) (mmj_179_244 h)
            · rw [if_neg hc17] at h
              exact zfm_tr (zfm_rf _) (mmj_179_244 h)
theorem mm_179 {s : zS} {q : (Int × zS)} (h : f_179 s = some q) : zfm s q.2 := by
  unfold f_179 at h
  obtain ⟨hg1, h⟩ := zg_some h
  obtain ⟨hg2, h⟩ := zg_some h
  obtain ⟨r4, h3, h⟩ := zo_some h
  obtain ⟨hg5, h⟩ := zg_some h
  by_cases hc6 : r4 = 16
  · rw [if_pos hc6] at h
    obtain ⟨r8, s9, h7, h⟩ := zb_some h
    have f10 := zfm_tr (zfm_tr (zfm_rf _) (zfm_I ⟨by decide, by decide, by decide, by decide, by first | exact Or.inl (by decide) | exact Or.inr (by decide)⟩)) (mm_172 h7)
    by_cases hc11 : (gI s 195 ((gI s 177 40) - 1)) = 2
    · rw [if_pos hc11] at h
      cases h
      exact f10
    · rw [if_neg hc11] at h
      obtain ⟨hg12, h⟩ := zg_some h
      obtain ⟨r14, s15, h13, h⟩ := zb_some h
      have f16 := zfm_tr f10 (zfm_of (fr_180 h13) rfl rfl rfl rfl rfl)
      cases h
      exact f16
  · rw [if_neg hc6] at h
    obtain ⟨hg17, h⟩ := zg_some h
    by_cases hc18 : (gI s 189 (gI (sI s 177 38 ((gI s 177 38) - 1)) 177 38)) = 30
    · rw [if_pos hc18] at h
      exact zfm_tr (zfm_tr (zfm_tr (zfm_rf _) (zfm_I ⟨by decide, by decide, by decide, by decide, by first | exact Or.inl (by decide) | exact Or.inr (by decide)⟩)) (zfm_I ⟨by decide, by decide, by decide, by decide, by first | exact Or.inl (by decide) | exact Or.inr (by decide)⟩)) (mmj_179_130 h)
    · rw [if_neg hc18] at h
      by_cases hc19 : (gI s 189 (gI (sI s 177 38 ((gI s 177 38) - 1)) 177 38)) = 37
      · rw [if_pos hc19] at h
        exact zfm_tr (zfm_tr (zfm_tr (zfm_rf _) (zfm_I ⟨by decide, by decide, by decide, by decide, by first | exact Or.inl (by decide) | exact Or.inr (by decide)⟩)) (zfm_I ⟨by decide, by decide, by decide, by decide, by first | exact Or.inl (by decide) | exact Or.inr (by decide)⟩)) (mmj_179_130 h)
      · rw [if_neg hc19] at h
        by_cases hc20 : (gI s 189 (gI (sI s 177 38 ((gI s 177 38) - 1)) 177 38)) = 32
        · rw [if_pos hc20] at h
          exact zfm_tr (zfm_tr (zfm_tr (zfm_rf _) (zfm_I ⟨by decide, by decide, by decide, by decide, by first | exact Or.inl (by decide) | exact Or.inr (by decide)⟩)) (zfm_I ⟨by decide, by decide, by decide, by decide, by first | exact Or.inl (by decide) | exact Or.inr (by decide)⟩)) (mmj_179_130 h)
        · rw [if_neg hc20] at h
          exact zfm_tr (zfm_tr (zfm_tr (zfm_rf _) (zfm_I ⟨by decide, by decide, by decide, by decide, by first | exact Or.inl (by decide) | exact Or.inr (by decide)⟩)) (zfm_I ⟨by decide, by decide, by decide, by decide, by first | exact Or.inl (by decide) | exact Or.inr (by decide)⟩)) (mmj_179_130 h)
theorem mmb_177_0 {v1 : Int} {s : zS} {q : (zS) ⊕ ((zS) ⊕ (Int × zS))} (h : b_177_0 v1 s = some q) : zfm s (Sum.elim (fun e : (zS) => e) (fun t : ((zS) ⊕ (Int × zS)) => Sum.elim (fun e : (zS) => e) (fun q => q.2) t) q) := by
  unfold b_177_0 at h
  obtain ⟨r2, h1, h⟩ := zo_some h
  obtain ⟨r4, h3, h⟩ := zo_some h
  obtain ⟨hg5, h⟩ := zg_some h
  obtain ⟨hg6, h⟩ := zg_some h
  by_cases hc7 : r4 < v1
  · rw [if_pos hc7] at h
    cases h
    exact (zfm_rf _)
  · rw [if_neg hc7] at h
    obtain ⟨r9, h8, h⟩ := zo_some h
    obtain ⟨r11, h10, h⟩ := zo_some h
    obtain ⟨hg12, h⟩ := zg_some h
    by_cases hc13 : 10 < r11
    · rw [if_pos hc13] at h
      obtain ⟨r15, s16, h14, h⟩ := zb_some h
      have f17 := zfm_tr (zfm_rf _) (mm_179 h14)
      obtain ⟨hg18, h⟩ := zg_some h
      by_cases hc19 : 0 < r15
      · rw [if_pos hc19] at h
        cases h
        exact f17
      · rw [if_neg hc19] at h
        cases h
        exact f17
    · rw [if_neg hc13] at h
      cases h
      exact (zfm_rf _)
theorem mml_177_0 {v1 : Int} {n : Nat} {e0 : (zS)} {t : ((zS) ⊕ (Int × zS))} (h : zlp (fun (q : zS) => b_177_0 v1 q) n e0 = some t) : zfm ((fun e : (zS) => e) e0) ((fun t : ((zS) ⊕ (Int × zS)) => Sum.elim (fun e : (zS) => e) (fun q => q.2) t) t) := zfm_lp (f := (fun e : (zS) => e)) (g := (fun t : ((zS) ⊕ (Int × zS)) => Sum.elim (fun e : (zS) => e) (fun q => q.2) t)) (fun e q h1 => mmb_177_0 h1) n e0 t h
theorem mm_177 {v1 : Int} {s : zS} {q : (Int × zS)} (h : f_177 v1 s = some q) : zfm s q.2 := by
  unfold f_177 at h
  obtain ⟨e1, h2, h⟩ := zo_some h
  rcases e1 with e4 | q5
  · simp only [ze_l] at h
    have f3 : zfm s e4 := zfm_tr (zfm_rf _) (mml_177_0 h2)
    cases h
    exact f3
  · cases h
    exact zfm_tr (zfm_rf _) (mml_177_0 h2)
theorem mmj_181_86 {s : zS} {q : (Int × zS)} (h : j_181_86 s = some q) : zfm s q.2 := by
  unfold j_181_86 at h
  obtain ⟨hg1, h⟩ := zg_some h
  by_cases hc2 : (gI s 195 ((gI s 177 40) - 1)) = 1
  · rw [if_pos hc2] at h
    cases h
    exact (zfm_rf _)
  · rw [if_neg hc2] at h
    obtain ⟨hg3, h⟩ := zg_some h
    obtain ⟨r5, s6, h4, h⟩ := zb_some h
    have f7 := zfm_tr (zfm_rf _) (zfm_of (fr_180 h4) rfl rfl rfl rfl rfl)
    cases h
    exact f7
theorem mm_181 {s : zS} {q : (Int × zS)} (h : f_181 s = some q) : zfm s q.2 := by
  unfold f_181 at h
  obtain ⟨r2, s3, h1, h⟩ := zb_some h
  have f4 := zfm_tr (zfm_rf _) (mm_177 h1)
  obtain ⟨hg5, h⟩ := zg_some h
  by_cases hc6 : 0 < r2
  · rw [if_pos hc6] at h
    cases h
    exact f4
  · rw [if_neg hc6] at h
    obtain ⟨r8, h7, h⟩ := zo_some h
    obtain ⟨hg9, h⟩ := zg_some h
    by_cases hc10 : r8 = 68
    · rw [if_pos hc10] at h
      obtain ⟨hg11, h⟩ := zg_some h
      obtain ⟨hg12, h⟩ := zg_some h
      by_cases hc13 : (gI s3 191 ((gI s3 177 38) - 1)) = (gI s3 195 ((gI s3 177 40) - 1))
      · rw [if_pos hc13] at h
        cases h
        exact f4
      · rw [if_neg hc13] at h
        obtain ⟨r15, s16, h14, h⟩ := zb_some h
        have f17 := zfm_tr f4 (zfm_of (fr_180 h14) rfl rfl rfl rfl rfl)
        cases h
        exact f17
    · rw [if_neg hc10] at h
      obtain ⟨r19, h18, h⟩ := zo_some h
      obtain ⟨hg20, h⟩ := zg_some h
      by_cases hc21 : r19 = 62
      · rw [if_pos hc21] at h
        exact zfm_tr f4 (mmj_181_86 h)
      · rw [if_neg hc21] at h
        obtain ⟨r23, h22, h⟩ := zo_some h
        obtain ⟨hg24, h⟩ := zg_some h
        by_cases hc25 : r23 = 64
        · rw [if_pos hc25] at h
          exact zfm_tr f4 (mmj_181_86 h)
        · rw [if_neg hc25] at h
          cases h
          exact f4
theorem mmj_176_109 {v2 : Int} {s : zS} {q : (Int × zS)} (h : j_176_109 v2 s = some q) : zfm s q.2 := by
  unfold j_176_109 at h
  obtain ⟨hg1, h⟩ := zg_some h
  by_cases hc2 : v2 = 62
  · rw [if_pos hc2] at h
    exact zfm_tr (zfm_rf _) (mmj_176_132 h)
  · rw [if_neg hc2] at h
    exact zfm_tr (zfm_rf _) (mmj_176_132 h)
theorem mmj_176_200 {s : zS} {q : (Int × zS)} (h : j_176_200 s = some q) : zfm s q.2 := by
  unfold j_176_200 at h
  obtain ⟨r2, s3, h1, h⟩ := zb_some h
  have f4 := zfm_tr (zfm_tr (zfm_tr (zfm_rf _) (zfm_I ⟨by decide, by decide, by decide, by decide, by first | exact Or.inl (by decide) | exact Or.inr (by decide)⟩)) (zfm_I ⟨by decide, by decide, by decide, by decide, by first | exact Or.inl (by decide) | exact Or.inr (by decide)⟩)) (mm_158 h1)
  cases h
  exact f4
theorem mmj_182_33 {t1 : Int} {s : zS} {q : (Int × zS)} (h : j_182_33 t1 s = some q) : zfm s q.2 := by
  unfold j_182_33 at h
  obtain ⟨r2, s3, h1, h⟩ := zb_some h
  have f4 := zfm_tr (zfm_rf _) (mm_172 h1)
  cases h
  exact (zfm_tr (zfm_tr f4 (zfm_I ⟨by decide, by decide, by decide, by decide, by first | exact Or.inl (by decide) | exact Or.inr (by decide)⟩)) (zfm_I ⟨by decide, by decide, by decide, by decide, by first | exact Or.inl (by decide) | exact Or.inr (by decide)⟩))
theorem mm_182 {s : zS} {q : (Int × zS)} (h : f_182 s = some q) : zfm s q.2 := by
  unfold f_182 at h
  obtain ⟨r2, h1, h⟩ := zo_some h
  obtain ⟨hg3, h⟩ := zg_some h
  by_cases hc4 : r2 = 68
  · rw [if_pos hc4] at h
    obtain ⟨hg5, h⟩ := zg_some h
    by_cases hc6 : (gI s 193 ((gI s 177 38) - 1)) = 20
    · rw [if_pos hc6] at h
      exact zfm_tr (zfm_rf _) (mmj_182_33 h)
    · rw [if_neg hc6] at h
      exact zfm_tr (zfm_rf _) (mmj_182_33 h)
  · rw [if_neg hc4] at h
    obtain ⟨r8, h7, h⟩ := zo_some h
    obtain ⟨hg9, h⟩ := zg_some h
    by_cases hc10 : r8 = 106
    · rw [if_pos hc10] at h
      obtain ⟨hg11, h⟩ := zg_some h
      obtain ⟨r13, s14, h12, h⟩ := zb_some h
      have f15 := zfm_tr (zfm_rf _) (mm_172 h12)
      cases h
      exact (zfm_tr (zfm_tr f15 (zfm_I ⟨by decide, by decide, by decide, by decide, by first | exact Or.inl (by decide) | exact Or.inr (by decide)⟩)) (zfm_I ⟨by decide, by decide, by decide, by decide, by first | exact Or.inl (by decide) | exact Or.inr (by decide)⟩))
    · rw [if_neg hc10] at h
      cases h
      exact (zfm_rf _)
theorem mm_185 {s : zS} {q : (Unit × zS)} (h : f_185 s = some q) : zfm s q.2 := by
  unfold f_185 at h
  obtain ⟨hg1, h⟩ := zg_some h
  obtain ⟨r3, s4, h2, h⟩ := zb_some h
  have f5 := zfm_tr (zfm_tr (zfm_rf _) (zfm_I ⟨by decide, by decide, by decide, by decide, by first | exact Or.inl (by decide) | exact Or.inr (by decide)⟩)) (mm_172 h2)
  cases h
  exact f5
theorem mmb_184_0 {v1 : Int} {s : zS} {q : (zS) ⊕ (zS)} (h : b_184_0 v1 s = some q) : zfm s (Sum.elim (fun e : (zS) => e) (fun e : (zS) => e) q) := by
  unfold b_184_0 at h
  obtain ⟨r2, h1, h⟩ := zo_some h
  obtain ⟨hg3, h⟩ := zg_some h
  by_cases hc4 : r2 = 15
  · rw [if_pos hc4] at h
    obtain ⟨r6, s7, h5, h⟩ := zb_some h
    have f8 := zfm_tr (zfm_rf _) (mm_185 h5)
    cases h
    exact f8
  · rw [if_neg hc4] at h
    obtain ⟨r10, h9, h⟩ := zo_some h
    obtain ⟨r12, h11, h⟩ := zo_some h
    obtain ⟨hg13, h⟩ := zg_some h
    by_cases hc14 : r12 = 0
    · rw [if_pos hc14] at h
      cases h
      exact (zfm_rf _)
    · rw [if_neg hc14] at h
      obtain ⟨r16, h15, h⟩ := zo_some h
      obtain ⟨r18, h17, h⟩ := zo_some h
      obtain ⟨hg19, h⟩ := zg_some h
      obtain ⟨hg20, h⟩ := zg_some h
      by_cases hc21 : r18 < v1
      · rw [if_pos hc21] at h
        cases h
        exact (zfm_rf _)
      · rw [if_neg hc21] at h
        obtain ⟨r23, s24, h22, h⟩ := zb_some h
        have f25 := zfm_tr (zfm_rf _) (mm_185 h22)
        cases h
        exact f25
theorem mml_184_0 {v1 : Int} {n : Nat} {e0 : (zS)} {t : (zS)} (h : zlp (fun (q : zS) => b_184_0 v1 q) n e0 = some t) : zfm ((fun e : (zS) => e) e0) ((fun e : (zS) => e) t) := zfm_lp (f := (fun e : (zS) => e)) (g := (fun e : (zS) => e)) (fun e q h1 => mmb_184_0 h1) n e0 t h
theorem mm_184 {v1 : Int} {s : zS} {q : (Unit × zS)} (h : f_184 v1 s = some q) : zfm s q.2 := by
  unfold f_184 at h
  obtain ⟨e1, h2, h⟩ := zo_some h
  have f3 : zfm s e1 := zfm_tr (zfm_rf _) (mml_184_0 h2)
  cases h
  exact f3
theorem mmj_186_2_25 {t0 : Int} {s : zS} {q : (Int × zS) ⊕ (zS)} (h : j_186_2_25 t0 s = some q) : zfm s (Sum.elim (fun e : (Int × zS) => e.2) (fun e : (zS) => e) q) := by
  unfold j_186_2_25 at h
  obtain ⟨hg1, h⟩ := zg_some h
  by_cases hc2 : t0 = 0
  · rw [if_pos hc2] at h
    cases h
    exact (zfm_rf _)
  · rw [if_neg hc2] at h
    obtain ⟨r4, s5, h3, h⟩ := zb_some h
    have f6 := zfm_tr (zfm_rf _) (mm_187 h3)
    cases h
    exact f6
theorem mmb_186_2 {v1 : Int} {s : zS} {q : (Int × zS) ⊕ (zS)} (h : b_186_2 v1 s = some q) : zfm s (Sum.elim (fun e : (Int × zS) => e.2) (fun e : (zS) => e) q) := by
  unfold b_186_2 at h
  obtain ⟨hg1, h⟩ := zg_some h
  by_cases hc2 : v1 = 0
  · rw [if_pos hc2] at h
    cases h
    exact (zfm_rf _)
  · rw [if_neg hc2] at h
    obtain ⟨r4, s5, h3, h⟩ := zb_some h
    have f6 := zfm_tr (zfm_rf _) (mm_184 h3)
    obtain ⟨r8, h7, h⟩ := zo_some h
    obtain ⟨hg9, h⟩ := zg_some h
    by_cases hc10 : r8 = 63
    · rw [if_pos hc10] at h
      exact zfm_tr f6 (mmj_186_2_25 h)
    · rw [if_neg hc10] at h
      exact zfm_tr f6 (mmj_186_2_25 h)
theorem mml_186_2 {n : Nat} {e0 : (Int × zS)} {t : (zS)} (h : zlp (fun (q : Int × zS) => b_186_2 q.1 q.2) n e0 = some t) : zfm ((fun e : (Int × zS) => e.2) e0) ((fun e : (zS) => e) t) := zfm_lp (f := (fun e : (Int × zS) => e.2)) (g := (fun e : (zS) => e)) (fun e q h1 => mmb_186_2 h1) n e0 t h
theorem mm_186 {s : zS} {q : (Unit × zS)} (h : f_186 s = some q) : zfm s q.2 := by
  unfold f_186 at h
  obtain ⟨e1, h2, h⟩ := zo_some h
  have f3 : zfm s e1 := zfm_tr (zfm_rf _) (mml_186_2 h2)
  cases h
  exact f3
theorem mmj_183_81 {v1 : Int} {s : zS} {q : (Int × zS)} (h : j_183_81 v1 s = some q) : zfm s q.2 := by
  unfold j_183_81 at h
  by_cases hc1 : (gI s 177 27) = 50
  · rw [if_pos hc1] at h
    obtain ⟨hg2, h⟩ := zg_some h
    by_cases hc3 : v1 = 65
    · rw [if_pos hc3] at h
      obtain ⟨r5, s6, h4, h⟩ := zb_some h
      have f7 := zfm_tr (zfm_rf _) (mm_187 h4)
      obtain ⟨hg8, h⟩ := zg_some h
      cases h
      exact (zfm_tr (zfm_tr f7 (zfm_I ⟨by decide, by decide, by decide, by decide, by first | exact Or.inl (by decide) | exact Or.inr (by decide)⟩)) (zfm_I ⟨by decide, by decide, by decide, by decide, by first | exact Or.inl (by decide) | exact Or.inr (by decide)⟩))
    · rw [if_neg hc3] at h
      by_cases hc9 : v1 = 60
      · rw [if_pos hc9] at h
        by_cases hc10 : (gI s 177 27) = 0
        · rw [if_pos hc10] at h
          cases h
          exact (zfm_rf _)
        · rw [if_neg hc10] at h
          cases h
          exact (zfm_rf _)
      · rw [if_neg hc9] at h
        cases h
        exact (zfm_rf _)
  · rw [if_neg hc1] at h
    obtain ⟨hg11, h⟩ := zg_some h
    by_cases hc12 : v1 = 60
    · rw [if_pos hc12] at h
      by_cases hc13 : (gI s 177 27) = 0
      · rw [if_pos hc13] at h
        cases h
        exact (zfm_rf _)
      · rw [if_neg hc13] at h
        cases h
        exact (zfm_rf _)
    · rw [if_neg hc12] at h
      cases h
      exact (zfm_rf _)
theorem mmj_183_31 {t1 : Int} {s : zS} {q : (Int × zS)} (h : j_183_31 t1 s = some q) : zfm s q.2 := by
  unfold j_183_31 at h
  obtain ⟨r2, s3, h1, h⟩ := zb_some h
  have f4 := zfm_tr (zfm_rf _) (mm_184 h1)
  obtain ⟨r6, s7, h5, h⟩ := zb_some h
  have f8 := zfm_tr f4 (mm_158 h5)
  cases h
  exact f8
theorem mm_183 {s : zS} {q : (Int × zS)} (h : f_183 s = some q) : zfm s q.2 := by
  unfold f_183 at h
  obtain ⟨r2, h1, h⟩ := zo_some h
  obtain ⟨hg3, h⟩ := zg_some h
  by_cases hc4 : r2 = 0
  · rw [if_pos hc4] at h
    obtain ⟨r6, s7, h5, h⟩ := zb_some h
    have f8 := zfm_tr (zfm_rf _) (mm_186 h5)
    obtain ⟨r10, h9, h⟩ := zo_some h
    by_cases hc11 : (gI s7 177 27) = 48
    · rw [if_pos hc11] at h
      obtain ⟨hg12, h⟩ := zg_some h
      by_cases hc13 : r10 = 47
      · rw [if_pos hc13] at h
        cases h
        exact (zfm_tr f8 (zfm_I ⟨by decide, by decide, by decide, by decide, by first | exact Or.inl (by decide) | exact Or.inr (by decide)⟩))
      · rw [if_neg hc13] at h
        exact zfm_tr f8 (mmj_183_81 h)
    · rw [if_neg hc11] at h
      exact zfm_tr f8 (mmj_183_81 h)
  · rw [if_neg hc4] at h
    by_cases hc14 : (gI s 177 27) = 18
    · rw [if_pos hc14] at h
      exact zfm_tr (zfm_rf _) (mmj_183_31 h)
    · rw [if_neg hc14] at h
      obtain ⟨r16, h15, h⟩ := zo_some h
      exact zfm_tr (zfm_rf _) (mmj_183_31 h)
theorem mmj_176_302 {v2 : Int} {s : zS} {q : (Int × zS)} (h : j_176_302 v2 s = some q) : zfm s q.2 := by
  unfold j_176_302 at h
  obtain ⟨hg1, h⟩ := zg_some h
  by_cases hc2 : v2 = 61
  · rw [if_pos hc2] at h
    by_cases hc3 : (gI s 177 27) = 0
    · rw [if_pos hc3] at h
      cases h
      exact (zfm_rf _)
    · rw [if_neg hc3] at h
      cases h
      exact (zfm_rf _)
  · rw [if_neg hc2] at h
    obtain ⟨r5, s6, h4, h⟩ := zb_some h
    have f7 := zfm_tr (zfm_rf _) (mm_182 h4)
    obtain ⟨hg8, h⟩ := zg_some h
    by_cases hc9 : r5 = 0
    · rw [if_pos hc9] at h
      cases h
      exact f7
    · rw [if_neg hc9] at h
      obtain ⟨r11, s12, h10, h⟩ := zb_some h
      have f13 := zfm_tr f7 (mm_183 h10)
      cases h
      exact f13
theorem mmj_176_251 {v2 : Int} {s : zS} {q : (Int × zS)} (h : j_176_251 v2 s = some q) : zfm s q.2 := by
  unfold j_176_251 at h
  obtain ⟨r2, h1, h⟩ := zo_some h
  obtain ⟨hg3, h⟩ := zg_some h
  by_cases hc4 : r2 = 0
  · rw [if_pos hc4] at h
    exact zfm_tr (zfm_rf _) (mmj_176_302 h)
  · rw [if_neg hc4] at h
    obtain ⟨r6, s7, h5, h⟩ := zb_some h
    have f8 := zfm_tr (zfm_rf _) (mm_158 h5)
    obtain ⟨hg9, h⟩ := zg_some h
    obtain ⟨hg10, h⟩ := zg_some h
    cases h
    exact (zfm_tr (zfm_tr f8 (zfm_I ⟨by decide, by decide, by decide, by decide, by first | exact Or.inl (by decide) | exact Or.inr (by decide)⟩)) (zfm_I ⟨by decide, by decide, by decide, by decide, by first | exact Or.inl (by decide) | exact Or.inr (by decide)⟩))
theorem mmj_176_233 {v2 : Int} {s : zS} {q : (Int × zS)} (h : j_176_233 v2 s = some q) : zfm s q.2 := by
  unfold j_176_233 at h
  by_cases hc1 : (gI s 177 27) = 20
  · rw [if_pos hc1] at h
    exact zfm_tr (zfm_rf _) (mmj_176_251 h)
  · rw [if_neg hc1] at h
    by_cases hc2 : (gI s 177 27) = 42
    · rw [if_pos hc2] at h
      exact zfm_tr (zfm_rf _) (mmj_176_251 h)
    · rw [if_neg hc2] at h
      exact zfm_tr (zfm_rf _) (mmj_176_302 h)
theorem mmj_176_167 {v2 : Int} {s : zS} {q : (Int × zS)} (h : j_176_167 v2 s = some q) : zfm s q.2 := by
  unfold j_176_167 at h
  obtain ⟨hg1, h⟩ := zg_some h
  by_cases hc2 : v2 = 66
  · rw [if_pos hc2] at h
    by_cases hc3 : (gI s 177 27) = 42
    · rw [if_pos hc3] at h
      exact zfm_tr (zfm_rf _) (mmj_176_200 h)
    · rw [if_neg hc3] at h
      by_cases hc4 : (gI s 177 27) = 43
      · rw [if_pos hc4] at h
        exact zfm_tr (zfm_rf _) (mmj_176_200 h)
      · rw [if_neg hc4] at h
        by_cases hc5 : (gI s 177 27) = 44
        · rw [if_pos hc5] at h
          exact zfm_tr (zfm_rf _) (mmj_176_200 h)
        · rw [if_neg hc5] at h
          exact zfm_tr (zfm_rf _) (mmj_176_233 h)
  · rw [if_neg hc2] at h
    exact zfm_tr (zfm_rf _) (mmj_176_233 h)
theorem mmj_176_88 {v2 : Int} {s : zS} {q : (Int × zS)} (h : j_176_88 v2 s = some q) : zfm s q.2 := by
  unfold j_176_88 at h
  by_cases hc1 : (gI s 177 27) = 52
  · rw [if_pos hc1] at h
    obtain ⟨hg2, h⟩ := zg_some h
    by_cases hc3 : v2 = 62
    · rw [if_pos hc3] at h
      exact zfm_tr (zfm_rf _) (mmj_176_109 h)
    · rw [if_neg hc3] at h
      by_cases hc4 : v2 = 64
      · rw [if_pos hc4] at h
        exact zfm_tr (zfm_rf _) (mmj_176_109 h)
      · rw [if_neg hc4] at h
        exact zfm_tr (zfm_rf _) (mmj_176_167 h)
  · rw [if_neg hc1] at h
    exact zfm_tr (zfm_rf _) (mmj_176_167 h)
theorem mm_176 {s : zS} {q : (Int × zS)} (h : f_176 s = some q) : zfm s q.2 := by
  unfold f_176 at h
  obtain ⟨r2, h1, h⟩ := zo_some h
  obtain ⟨hg3, h⟩ := zg_some h
  by_cases hc4 : r2 = 0
  · rw [if_pos hc4] at h
    obtain ⟨r6, s7, h5, h⟩ := zb_some h
    have f8 := zfm_tr (zfm_rf _) (mm_181 h5)
    obtain ⟨hg9, h⟩ := zg_some h
    by_cases hc10 : 0 < r6
    · rw [if_pos hc10] at h
      cases h
      exact f8
    · rw [if_neg hc10] at h
      obtain ⟨r12, h11, h⟩ := zo_some h
      by_cases hc13 : (gI s7 177 27) = 46
      · rw [if_pos hc13] at h
        obtain ⟨hg14, h⟩ := zg_some h
        by_cases hc15 : r12 = 45
        · rw [if_pos hc15] at h
          cases h
          exact (zfm_tr f8 (zfm_I ⟨by decide, by decide, by decide, by decide, by first | exact Or.inl (by decide) | exact Or.inr (by decide)⟩))
        · rw [if_neg hc15] at h
          exact zfm_tr f8 (mmj_176_88 h)
      · rw [if_neg hc13] at h
        exact zfm_tr f8 (mmj_176_88 h)
  · rw [if_neg hc4] at h
    obtain ⟨r17, h16, h⟩ := zo_some h
    obtain ⟨r19, s20, h18, h⟩ := zb_some h
    have f21 := zfm_tr (zfm_rf _) (mm_177 h18)
    obtain ⟨hg22, h⟩ := zg_some h
    by_cases hc23 : 0 < r19
    · rw [if_pos hc23] at h
      cases h
      exact f21
    · rw [if_neg hc23] at h
      obtain ⟨r25, s26, h24, h⟩ := zb_some h
      have f27 := zfm_tr f21 (mm_158 h24)
      cases h
      exact f27
theorem mmj_188_46 {v1 : Int} {s : zS} {q : (Int × zS)} (h : j_188_46 v1 s = some q) : zfm s q.2 := by
  unfold j_188_46 at h
  obtain ⟨hg1, h⟩ := zg_some h
  by_cases hc2 : v1 = 6
  · rw [if_pos hc2] at h
    by_cases hc3 : (gI s 177 27) = 2
    · rw [if_pos hc3] at h
      obtain ⟨hg4, h⟩ := zg_some h
      obtain ⟨r6, s7, h5, h⟩ := zb_some h
      have f8 := zfm_tr (zfm_rf _) (mm_172 h5)
      cases h
      exact (zfm_tr f8 (zfm_I ⟨by decide, by decide, by decide, by decide, by first | exact Or.inl (by decide) | exact Or.inr (by decide)⟩))
    · rw [if_neg hc3] at h
      cases h
      exact (zfm_rf _)
  · rw [if_neg hc2] at h
    cases h
    exact (zfm_rf _)
theorem mmj_188_30 {v1 : Int} {s : zS} {q : (Int × zS)} (h : j_188_30 v1 s = some q) : zfm s q.2 := by
  unfold j_188_30 at h
  obtain ⟨hg1, h⟩ := zg_some h
  by_cases hc2 : v1 = 5
  · rw [if_pos hc2] at h
    by_cases hc3 : (gI s 177 27) = 51
    · rw [if_pos hc3] at h
      cases h
      exact (zfm_rf _)
    · rw [if_neg hc3] at h
      exact zfm_tr (zfm_rf _) (mmj_188_46 h)
  · rw [if_neg hc2] at h
    exact zfm_tr (zfm_rf _) (mmj_188_46 h)
theorem mm_188 {v1 : Int} {s : zS} {q : (Int × zS)} (h : f_188 v1 s = some q) : zfm s q.2 := by
  unfold f_188 at h
  obtain ⟨hg1, h⟩ := zg_some h
  by_cases hc2 : v1 = 4
  · rw [if_pos hc2] at h
    by_cases hc3 : (gI s 177 27) = 1
    · rw [if_pos hc3] at h
      obtain ⟨hg4, h⟩ := zg_some h
      cases h
      exact (zfm_tr (zfm_rf _) (zfm_J))
    · rw [if_neg hc3] at h
      exact zfm_tr (zfm_rf _) (mmj_188_30 h)
  · rw [if_neg hc2] at h
    exact zfm_tr (zfm_rf _) (mmj_188_30 h)
theorem mm_170 {v1 : Int} {s : zS} {q : (Int × zS)} (h : f_170 v1 s = some q) : zfm s q.2 := by
  unfold f_170 at h
  obtain ⟨hg1, h⟩ := zg_some h
  by_cases hc2 : t_170_1 v1 = 32
  · rw [if_pos hc2] at h
    obtain ⟨r4, s5, h3, h⟩ := zb_some h
    have f6 := zfm_tr (zfm_rf _) (mm_171 h3)
    cases h
    exact f6
  · rw [if_neg hc2] at h
    by_cases hc7 : t_170_1 v1 = 37
    · rw [if_pos hc7] at h
      obtain ⟨r9, s10, h8, h⟩ := zb_some h
      have f11 := zfm_tr (zfm_rf _) (mm_174 h8)
      cases h
      exact f11
    · rw [if_neg hc7] at h
      by_cases hc12 : t_170_1 v1 = 42
      · rw [if_pos hc12] at h
        obtain ⟨r14, s15, h13, h⟩ := zb_some h
        have f16 := zfm_tr (zfm_rf _) (mm_176 h13)
        cases h
        exact f16
      · rw [if_neg hc12] at h
        by_cases hc17 : t_170_1 v1 = 47
        · rw [if_pos hc17] at h
          obtain ⟨r19, s20, h18, h⟩ := zb_some h
          have f21 := zfm_tr (zfm_rf _) (mm_183 h18)
          cases h
          exact f21
        · rw [if_neg hc17] at h
          by_cases hc22 : t_170_1 v1 = 52
          · rw [if_pos hc22] at h
            obtain ⟨r24, s25, h23, h⟩ := zb_some h
            have f26 := zfm_tr (zfm_rf _) (mm_188 h23)
            cases h
            exact f26
          · rw [if_neg hc22] at h
            cases h
theorem mmj_157_56_122 {v2 : Int} {s : zS} {q : (Int × zS) ⊕ ((Int × zS) ⊕ (Int × zS))} (h : j_157_56_122 v2 s = some q) : zfm s (Sum.elim (fun e : (Int × zS) => e.2) (fun t : ((Int × zS) ⊕ (Int × zS)) => Sum.elim (fun e : (Int × zS) => e.2) (fun q => q.2) t) q) := by
  unfold j_157_56_122 at h
  obtain ⟨r2, s3, h1, h⟩ := zb_some h
  have f4 := zfm_tr (zfm_rf _) (mm_170 h1)
  obtain ⟨hg5, h⟩ := zg_some h
  by_cases hc6 : r2 = 105
  · rw [if_pos hc6] at h
    cases h
    exact (zfm_tr f4 (zfm_I ⟨by decide, by decide, by decide, by decide, by first | exact Or.inl (by decide) | exact Or.inr (by decide)⟩))
  · rw [if_neg hc6] at h
    cases h
    exact (zfm_tr f4 (zfm_I ⟨by decide, by decide, by decide, by decide, by first | exact Or.inl (by decide) | exact Or.inr (by decide)⟩))
theorem mmb_157_56 {v2 : Int} {s : zS} {q : (Int × zS) ⊕ ((Int × zS) ⊕ (Int × zS))} (h : b_157_56 v2 s = some q) : zfm s (Sum.elim (fun e : (Int × zS) => e.2) (fun t : ((Int × zS) ⊕ (Int × zS)) => Sum.elim (fun e : (Int × zS) => e.2) (fun q => q.2) t) q) := by
  unfold b_157_56 at h
  obtain ⟨hg1, h⟩ := zg_some h
  by_cases hc2 : v2 < 100
  · rw [if_pos hc2] at h
    obtain ⟨r4, s5, h3, h⟩ := zb_some h
    have f6 := zfm_tr (zfm_rf _) (zfm_of (fr_159 h3) rfl rfl rfl rfl rfl)
    by_cases hc7 : (gI s5 177 27) = 3
    · rw [if_pos hc7] at h
      cases h
      exact (zfm_tr f6 (zfm_I ⟨by decide, by decide, by decide, by decide, by first | exact Or.inl (by decide) | exact Or.inr (by decide)⟩))
    · rw [if_neg hc7] at h
      by_cases hc8 : (gI s5 177 27) = 0
      · rw [if_pos hc8] at h
        exact zfm_tr (zfm_tr f6 (zfm_I ⟨by decide, by decide, by decide, by decide, by first | exact Or.inl (by decide) | exact Or.inr (by decide)⟩)) (mmj_157_56_122 h)
      · rw [if_neg hc8] at h
        by_cases hc9 : 200 < (gI (sI (sI s5 177 5 (gI s5 177 28)) 177 31 ((gI s5 177 31) + 1)) 177 31)
        · rw [if_pos hc9] at h
          cases h
          exact (zfm_tr (zfm_tr f6 (zfm_I ⟨by decide, by decide, by decide, by decide, by first | exact Or.inl (by decide) | exact Or.inr (by decide)⟩)) (zfm_I ⟨by decide, by decide, by decide, by decide, by first | exact Or.inl (by decide) | exact Or.inr (by decide)⟩))
        · rw [if_neg hc9] at h
          obtain ⟨r11, h10, h⟩ := zo_some h
          obtain ⟨hg12, h⟩ := zg_some h
          by_cases hc13 : r11 = 0
          · rw [if_pos hc13] at h
            exact zfm_tr (zfm_tr (zfm_tr f6 (zfm_I ⟨by decide, by decide, by decide, by decide, by first | exact Or.inl (by decide) | exact Or.inr (by decide)⟩)) (zfm_I ⟨by decide, by decide, by decide, by decide, by first | exact Or.inl (by decide) | exact Or.inr (by decide)⟩)) (mmj_157_56_122 h)
          · rw [if_neg hc13] at h
            cases h
            exact (zfm_tr (zfm_tr f6 (zfm_I ⟨by decide, by decide, by decide, by decide, by first | exact Or.inl (by decide) | exact Or.inr (by decide)⟩)) (zfm_I ⟨by decide, by decide, by decide, by decide, by first | exact Or.inl (by decide) | exact Or.inr (by decide)⟩))
  · rw [if_neg hc2] at h
    cases h
    exact (zfm_rf _)
theorem mml_157_56 {n : Nat} {e0 : (Int × zS)} {t : ((Int × zS) ⊕ (Int × zS))} (h : zlp (fun (q : Int × zS) => b_157_56 q.1 q.2) n e0 = some t) : zfm ((fun e : (Int × zS) => e.2) e0) ((fun t : ((Int × zS) ⊕ (Int × zS)) => Sum.elim (fun e : (Int × zS) => e.2) (fun q => q.2) t) t) := zfm_lp (f := (fun e : (Int × zS) => e.2)) (g := (fun t : ((Int × zS) ⊕ (Int × zS)) => Sum.elim (fun e : (Int × zS) => e.2) (fun q => q.2) t)) (fun e q h1 => mmb_157_56 h1) n e0 t h
theorem mmj_157_55 {t0 : Int} {s : zS} {q : (Int × zS)} (h : j_157_55 t0 s = some q) : zfm s q.2 := by
  unfold j_157_55 at h
  obtain ⟨e1, h2, h⟩ := zo_some h
  rcases e1 with e4 | q5
  · simp only [ze_l] at h
    have f3 : zfm s e4.2 := zfm_tr (zfm_rf _) (mml_157_56 h2)
    obtain ⟨hg6, h⟩ := zg_some h
    by_cases hc7 : (e4.1 - 100) = 3
    · rw [if_pos hc7] at h
      by_cases hc8 : (gI e4.2 177 27) = 0
      · rw [if_pos hc8] at h
        cases h
        exact f3
      · rw [if_neg hc8] at h
        cases h
        exact f3
    · rw [if_neg hc7] at h
      cases h
      exact f3
  · cases h
    exact zfm_tr (zfm_rf _) (mml_157_56 h2)
theorem mmj_157_42 {v1 : Int} {t1 : Int} {s : zS} {q : (Int × zS)} (h : j_157_42 v1 t1 s = some q) : zfm s q.2 := by
  unfold j_157_42 at h
  obtain ⟨r2, s3, h1, h⟩ := zb_some h
  have f4 := zfm_tr (zfm_rf _) (mm_158 h1)
  obtain ⟨hg5, h⟩ := zg_some h
  by_cases hc6 : v1 = 0
  · rw [if_pos hc6] at h
    exact zfm_tr f4 (mmj_157_55 h)
  · rw [if_neg hc6] at h
    exact zfm_tr f4 (mmj_157_55 h)
theorem mm_157 {v1 : Int} {s : zS} {q : (Int × zS)} (h : f_157 v1 s = some q) : zfm s q.2 := by
  unfold f_157 at h
  obtain ⟨hg1, h⟩ := zg_some h
  by_cases hc2 : v1 = 0
  · rw [if_pos hc2] at h
    exact zfm_tr (zfm_tr (zfm_tr (zfm_tr (zfm_tr (zfm_tr (zfm_tr (zfm_rf _) (zfm_I ⟨by decide, by decide, by decide, by decide, by first | exact Or.inl (by decide) | exact Or.inr (by decide)⟩)) (zfm_I ⟨by decide, by decide, by decide, by decide, by first | exact Or.inl (by decide) | exact Or.inr (by decide)⟩)) (zfm_I ⟨by decide, by decide, by decide, by decide, by first | exact Or.inl (by decide) | exact Or.inr (by decide)⟩)) (zfm_I ⟨by decide, by decide, by decide, by decide, by first | exact Or.inl (by decide) | exact Or.inr (by decide)⟩)) (zfm_41 (by decide) (by decide))) (zfm_I ⟨by decide, by decide, by decide, by decide, by first | exact Or.inl (by decide) | exact Or.inr (by decide)⟩)) (mmj_157_42 h)
  · rw [if_neg hc2] at h
    exact zfm_tr (zfm_tr (zfm_tr (zfm_tr (zfm_tr (zfm_tr (zfm_tr (zfm_rf _) (zfm_I ⟨by decide, by decide, by decide, by decide, by first | exact Or.inl (by decide) | exact Or.inr (by decide)⟩)) (zfm_I ⟨by decide, by decide, by decide, by decide, by first | exact Or.inl (by decide) | exact Or.inr (by decide)⟩)) (zfm_I ⟨by decide, by decide, by decide, by decide, by first | exact Or.inl (by decide) | exact Or.inr (by decide)⟩)) (zfm_I ⟨by decide, by decide, by decide, by decide, by first | exact Or.inl (by decide) | exact Or.inr (by decide)⟩)) (zfm_41 (by decide) (by decide))) (zfm_I ⟨by decide, by decide, by decide, by decide, by first | exact Or.inl (by decide) | exact Or.inr (by decide)⟩)) (mmj_157_42 h)
