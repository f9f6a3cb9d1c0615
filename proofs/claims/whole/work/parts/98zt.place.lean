/-! PLACES of faults are never negative. By program (py/gen98zt.py). -/
def NNp (s : zS) : Prop := (∀ i, 0 ≤ gI s 13 i) ∧ 0 ≤ gI s 8 5 ∧ 0 ≤ gI s 10 16 ∧ 0 ≤ gI s 8 1
def zfn (a b : zS) : Prop := NNp a → NNp b
theorem zfn_rf (s : zS) : zfn s s := fun h => h
theorem zfn_tr {a b c : zS} (h1 : zfn a b) (h2 : zfn b c) : zfn a c := fun h => h2 (h1 h)
theorem zfn_lp {S T : Type} {B : S → Option (S ⊕ T)} {f : S → zS} {g : T → zS} (h : ∀ s q, B s = some q → zfn (f s) (Sum.elim f g q)) : ∀ n s t, zlp B n s = some t → zfn (f s) (g t) := by
  intro n
  induction n with
  | zero => intro s t h1; cases h1
  | succ n ih =>
    intro s t h1
    unfold zlp at h1
    split at h1
    · rename_i s' e
      exact zfn_tr (h s _ e) (ih s' t h1)
    · rename_i t' e
      cases h1
      exact h s _ e
    · cases h1
theorem zfn_of {m : Nat} {s t : zS} (h : zfr m s t) (h1 : Nat.testBit m 13 = false) (h2 : Nat.testBit m 345 = false) (h3 : Nat.testBit m 366 = false) (h4 : Nat.testBit m 341 = false) : zfn s t := fun hN => ⟨fun i => by rw [h.ia (c := 13) rfl h1]; exact hN.1 i, by rw [h.i (c := 8) (i := 5) h2]; exact hN.2.1, by rw [h.i (c := 10) (i := 16) h3]; exact hN.2.2.1, by rw [h.i (c := 8) (i := 1) h4]; exact hN.2.2.2⟩
theorem zfn_I {c : Nat} {s : zS} {i v : Int} (h : (c ≠ 13 ∧ c ≠ 8 ∧ c ≠ 10) ∨ (c ≠ 13 ∧ (c ≠ 8 ∨ (i ≠ 5 ∧ i ≠ 1)) ∧ (c ≠ 10 ∨ i ≠ 16)) ∨ (c = 13 ∧ v = gI s 8 5)) : zfn s (sI s c i v) := by
  intro hN
  by_cases hc : c = 13
  · have hv : v = gI s 8 5 := by
      rcases h with h | h | h
      · exact absurd hc h.1
      · exact absurd hc h.1
      · exact h.2
    rw [hc, hv]
    refine ⟨fun j => ?_, by rw [gI_nc (by decide)]; exact hN.2.1, by rw [gI_nc (by decide)]; exact hN.2.2.1, by rw [gI_nc (by decide)]; exact hN.2.2.2⟩
    by_cases e : j = i
    · rw [e, gI_same (zR_gI _ _ _)]
      exact hN.2.1
    · rw [gI_ni e]
      exact hN.1 j
  · have h13 : (13 : Nat) ≠ c := fun e => hc e.symm
    have hh : ∀ (x : Nat) (y : Int), (x = 8 ∧ (y = 5 ∨ y = 1)) ∨ (x = 10 ∧ y = 16) → gI (sI s c i v) x y = gI s x y := by
      intro x y hxy
      by_cases e : x = c
      · rcases h with h | h | h
        · rcases hxy with ⟨h1, -⟩ | ⟨h1, -⟩ <;> omega
        · have hi : y ≠ i := by rcases hxy with ⟨h1, h2 | h2⟩ | ⟨h1, h2⟩ <;> omega
          rw [e]
          exact gI_ni hi
        · exact absurd h.1 hc
      · exact gI_nc e
    exact ⟨fun j => by rw [gI_nc h13]; exact hN.1 j, by rw [hh 8 5 (Or.inl ⟨rfl, Or.inl rfl⟩)]; exact hN.2.1, by rw [hh 10 16 (Or.inr ⟨rfl, rfl⟩)]; exact hN.2.2.1, by rw [hh 8 1 (Or.inl ⟨rfl, Or.inr rfl⟩)]; exact hN.2.2.2⟩
theorem zfn_J {c : Nat} {s : zS} {i : Int} {v : BitVec 64} : zfn s (sJ s c i v) := fun h => h
theorem zfn_C {c j : Nat} {s : zS} {i v : Int} (h : zC c = true) : zfn s (sI s (c + j) i v) := zfn_I (Or.inl (by have := zC_b h; omega))
theorem zfn_C0 {c : Nat} {s : zS} {i v : Int} (h : zC c = true) : zfn s (sI s c i v) := zfn_I (Or.inl (by have := zC_b h; omega))
theorem nn_74 {v1 : Int} {c : Nat} {i : Int} {s : zS} {q : Unit × zS} (h : f_74 v1 (gI s c i) s = some q) (hv : NNp s → 0 ≤ gI s c i) : zfn s q.2 := by
  unfold f_74 at h
  cases h
  intro hN
  refine ⟨fun j => by rw [gI_nc (by decide), gI_nc (by decide)]; exact hN.1 j, by rw [gI_nc (by decide), gI_nc (by decide)]; exact hN.2.1, ?_, by rw [gI_nc (by decide), gI_nc (by decide)]; exact hN.2.2.2⟩
  show 0 ≤ gI (sI (sI s 10 15 v1) 10 16 (gI s c i)) 10 16
  rw [gI_same (zR_gI _ _ _)]
  exact hv hN
theorem nn_62 {s : zS} {q : Unit × zS} (h : f_62 s = some q) : zfn s q.2 := by
  unfold f_62 at h
  obtain ⟨r2, h1, h⟩ := zo_some h
  have key : ∀ (t : zS), 0 ≤ gI (sI s 8 2 r2) 8 2 → zfr 492743843279116926322637301725057741186762009391622897677997602212034211659635407983793048519753565470720 (sI (sI s 8 2 r2) 8 5 (gI (sI s 8 2 r2) 8 2)) t → zfn s t := by
    intro t h0 hz hN
    refine ⟨fun j => ?_, ?_, ?_, ?_⟩
    · rw [hz.ia (c := 13) rfl rfl, gI_nc (by decide), gI_nc (by decide)]; exact hN.1 j
    · rw [hz.i (c := 8) (i := 5) rfl, gI_same (zR_gI _ _ _)]; exact h0
    · rw [hz.i (c := 10) (i := 16) rfl, gI_nc (by decide), gI_nc (by decide)]; exact hN.2.2.1
    · rw [hz.i (c := 8) (i := 1) rfl, gI_ni (by decide), gI_ni (by decide)]; exact hN.2.2.2
  by_cases hc3 : (gI (sI s 8 2 r2) 8 2) < (gI s 8 1)
  · rw [if_pos hc3] at h
    obtain ⟨hg4, h⟩ := zg_some h
    obtain ⟨r6, h5, h⟩ := zo_some h
    obtain ⟨hg7, h⟩ := zg_some h
    by_cases hc8 : r6 = 0
    · rw [if_pos hc8] at h
      obtain ⟨r10, h9, h⟩ := zo_some h
      obtain ⟨hg11, h⟩ := zg_some h
      by_cases hc12 : r10 = 0
      · rw [if_pos hc12] at h
        obtain ⟨r14, s15, h13, h⟩ := zb_some h
        cases h
        exact key _ hg4.1 (zfr_tr (zfr_I rfl) (zfr_sub rfl (fr_68 h13)))
      · rw [if_neg hc12] at h
        obtain ⟨r14, s15, h13, h⟩ := zb_some h
        cases h
        exact key _ hg4.1 (zfr_tr (zfr_I rfl) (zfr_sub rfl (fr_67 h13)))
    · rw [if_neg hc8] at h
      obtain ⟨r14, s15, h13, h⟩ := zb_some h
      cases h
      exact key _ hg4.1 (zfr_tr (zfr_I rfl) (zfr_sub rfl (fr_64 h13)))
  · rw [if_neg hc3] at h
    cases h
    intro hN
    exact key _ (by have := hN.2.2.2; omega) (zfr_I rfl) hN
theorem nn_76 {v1 : Int} {s : zS} {q : (Int × zS)} (h : f_76 v1 s = some q) : zfn s q.2 := by
  unfold f_76 at h
  by_cases hc1 : (gI s 10 8) < 20
  · rw [if_pos hc1] at h
    obtain ⟨hg2, h⟩ := zg_some h
    obtain ⟨r4, h3, h⟩ := zo_some h
    obtain ⟨hg5, h⟩ := zg_some h
    by_cases hc6 : r4 = 0
    · rw [if_pos hc6] at h
      cases h
      exact (zfn_tr (zfn_tr (zfn_tr (zfn_tr (zfn_tr (zfn_tr (zfn_tr (zfn_rf _) (zfn_I (by first | exact Or.inl (by decide) | exact Or.inr (Or.inl (by decide)) | exact Or.inr (Or.inr ⟨rfl, by (repeat rw [gI_nc (by decide)])⟩)))) (zfn_I (by first | exact Or.inl (by decide) | exact Or.inr (Or.inl (by decide)) | exact Or.inr (Or.inr ⟨rfl, by (repeat rw [gI_nc (by decide)])⟩)))) (zfn_I (by first | exact Or.inl (by decide) | exact Or.inr (Or.inl (by decide)) | exact Or.inr (Or.inr ⟨rfl, by (repeat rw [gI_nc (by decide)])⟩)))) (zfn_I (by first | exact Or.inl (by decide) | exact Or.inr (Or.inl (by decide)) | exact Or.inr (Or.inr ⟨rfl, by (repeat rw [gI_nc (by decide)])⟩)))) (zfn_I (by first | exact Or.inl (by decide) | exact Or.inr (Or.inl (by decide)) | exact Or.inr (Or.inr ⟨rfl, by (repeat rw [gI_nc (by decide)])⟩)))) (zfn_I (by first | exact Or.inl (by decide) | exact Or.inr (Or.inl (by decide)) | exact Or.inr (Or.inr ⟨rfl, by (repeat rw [gI_nc (by decide)])⟩)))) (zfn_I (by first | exact Or.inl (by decide) | exact Or.inr (Or.inl (by decide)) | exact Or.inr (Or.inr ⟨rfl, by (repeat rw [gI_nc (by decide)])⟩))))
    · rw [if_neg hc6] at h
      obtain ⟨hg7, h⟩ := zg_some h
      obtain ⟨r9, s10, h8, h⟩ := zb_some h
      have f11 := zfn_tr (zfn_tr (zfn_tr (zfn_tr (zfn_tr (zfn_rf _) (zfn_I (by first | exact Or.inl (by decide) | exact Or.inr (Or.inl (by decide)) | exact Or.inr (Or.inr ⟨rfl, by (repeat rw [gI_nc (by decide)])⟩)))) (zfn_I (by first | exact Or.inl (by decide) | exact Or.inr (Or.inl (by decide)) | exact Or.inr (Or.inr ⟨rfl, by (repeat rw [gI_nc (by decide)])⟩)))) (zfn_I (by first | exact Or.inl (by decide) | exact Or.inr (Or.inl (by decide)) | exact Or.inr (Or.inr ⟨rfl, by (repeat rw [gI_nc (by decide)])⟩)))) (zfn_I (by first | exact Or.inl (by decide) | exact Or.inr (Or.inl (by decide)) | exact Or.inr (Or.inr ⟨rfl, by (repeat rw [gI_nc (by decide)])⟩)))) (zfn_of (fr_139 h8) rfl rfl rfl rfl)
      cases h
      exact (zfn_tr (zfn_tr (zfn_tr f11 (zfn_I (by first | exact Or.inl (by decide) | exact Or.inr (Or.inl (by decide)) | exact Or.inr (Or.inr ⟨rfl, by (repeat rw [gI_nc (by decide)])⟩)))) (zfn_I (by first | exact Or.inl (by decide) | exact Or.inr (Or.inl (by decide)) | exact Or.inr (Or.inr ⟨rfl, by (repeat rw [gI_nc (by decide)])⟩)))) (zfn_I (by first | exact Or.inl (by decide) | exact Or.inr (Or.inl (by decide)) | exact Or.inr (Or.inr ⟨rfl, by (repeat rw [gI_nc (by decide)])⟩))))
  · rw [if_neg hc1] at h
    obtain ⟨r13, s14, h12, h⟩ := zb_some h
    have f15 := zfn_tr (zfn_rf _) (nn_74 h12 (fun hN => by first | exact hN.2.1 | exact hN.1 _))
    cases h
    exact f15
theorem nn_77 {v1 : Int} {s : zS} {q : (Unit × zS)} (h : f_77 v1 s = some q) : zfn s q.2 := by
  unfold f_77 at h
  obtain ⟨r2, s3, h1, h⟩ := zb_some h
  have f4 := zfn_tr (zfn_rf _) (nn_76 h1)
  obtain ⟨hg5, h⟩ := zg_some h
  by_cases hc6 : r2 = 0
  · rw [if_pos hc6] at h
    cases h
    exact f4
  · rw [if_neg hc6] at h
    obtain ⟨hg7, h⟩ := zg_some h
    obtain ⟨hg8, h⟩ := zg_some h
    obtain ⟨r10, s11, h9, h⟩ := zb_some h
    have f12 := zfn_tr (zfn_tr f4 (zfn_I (by first | exact Or.inl (by decide) | exact Or.inr (Or.inl (by decide)) | exact Or.inr (Or.inr ⟨rfl, by (repeat rw [gI_nc (by decide)])⟩)))) (zfn_of (fr_139 h9) rfl rfl rfl rfl)
    cases h
    exact (zfn_tr (zfn_tr f12 (zfn_I (by first | exact Or.inl (by decide) | exact Or.inr (Or.inl (by decide)) | exact Or.inr (Or.inr ⟨rfl, by (repeat rw [gI_nc (by decide)])⟩)))) (zfn_I (by first | exact Or.inl (by decide) | exact Or.inr (Or.inl (by decide)) | exact Or.inr (Or.inr ⟨rfl, by (repeat rw [gI_nc (by decide)])⟩))))
theorem nn_80 {v1 : Int} {s : zS} {q : (Unit × zS)} (h : f_80 v1 s = some q) : zfn s q.2 := by
  unfold f_80 at h
  cases h
  exact (zfn_tr (zfn_tr (zfn_rf _) (zfn_I (by first | exact Or.inl (by decide) | exact Or.inr (Or.inl (by decide)) | exact Or.inr (Or.inr ⟨rfl, by (repeat rw [gI_nc (by decide)])⟩)))) (zfn_I (by first | exact Or.inl (by decide) | exact Or.inr (Or.inl (by decide)) | exact Or.inr (Or.inr ⟨rfl, by (repeat rw [gI_nc (by decide)])⟩))))
theorem nn_79 {v1 : Int} {v2 : Int} {v3 : Int} {s : zS} {q : (Unit × zS)} (h : f_79 v1 v2 v3 s = some q) : zfn s q.2 := by
  unfold f_79 at h
  obtain ⟨hg1, h⟩ := zg_some h
  obtain ⟨r3, s4, h2, h⟩ := zb_some h
  have f5 := zfn_tr (zfn_rf _) (zfn_of (fr_139 h2) rfl rfl rfl rfl)
  obtain ⟨r7, s8, h6, h⟩ := zb_some h
  have f9 := zfn_tr f5 (nn_80 h6)
  cases h
  exact f9
theorem nnb_78_7 {v1 : Int} {s : zS} {q : (Int × zS) ⊕ ((zS) ⊕ (Unit × zS))} (h : b_78_7 v1 s = some q) : zfn s (Sum.elim (fun e : (Int × zS) => e.2) (fun t : ((zS) ⊕ (Unit × zS)) => Sum.elim (fun e : (zS) => e) (fun q => q.2) t) q) := by
  unfold b_78_7 at h
  obtain ⟨hg1, h⟩ := zg_some h
  by_cases hc2 : v1 < 0
  · rw [if_pos hc2] at h
    cases h
    exact (zfn_rf _)
  · rw [if_neg hc2] at h
    obtain ⟨hg3, h⟩ := zg_some h
    by_cases hc4 : (gI s 12 v1) = 2
    · rw [if_pos hc4] at h
      by_cases hc5 : (gJ s 16 v1) = (gJ s 8 6)
      · rw [if_pos hc5] at h
        obtain ⟨r7, s8, h6, h⟩ := zb_some h
        have f9 := zfn_tr (zfn_rf _) (nn_79 h6)
        cases h
        exact f9
      · rw [if_neg hc5] at h
        cases h
        exact (zfn_rf _)
    · rw [if_neg hc4] at h
      cases h
      exact (zfn_rf _)
theorem nnl_78_7 {n : Nat} {e0 : (Int × zS)} {t : ((zS) ⊕ (Unit × zS))} (h : zlp (fun (q : Int × zS) => b_78_7 q.1 q.2) n e0 = some t) : zfn ((fun e : (Int × zS) => e.2) e0) ((fun t : ((zS) ⊕ (Unit × zS)) => Sum.elim (fun e : (zS) => e) (fun q => q.2) t) t) := zfn_lp (f := (fun e : (Int × zS) => e.2)) (g := (fun t : ((zS) ⊕ (Unit × zS)) => Sum.elim (fun e : (zS) => e) (fun q => q.2) t)) (fun e q h1 => nnb_78_7 h1) n e0 t h
theorem nn_78 {s : zS} {q : (Unit × zS)} (h : f_78 s = some q) : zfn s q.2 := by
  unfold f_78 at h
  obtain ⟨e1, h2, h⟩ := zo_some h
  rcases e1 with e4 | q5
  · simp only [ze_l] at h
    have f3 : zfn s e4 := zfn_tr (zfn_rf _) (nnl_78_7 h2)
    obtain ⟨r7, h6, h⟩ := zo_some h
    obtain ⟨hg8, h⟩ := zg_some h
    by_cases hc9 : r7 = (-1)
    · rw [if_pos hc9] at h
      obtain ⟨r11, s12, h10, h⟩ := zb_some h
      have f13 := zfn_tr f3 (nn_74 h10 (fun hN => by first | exact hN.2.1 | exact hN.1 _))
      cases h
      exact f13
    · rw [if_neg hc9] at h
      obtain ⟨hg14, h⟩ := zg_some h
      obtain ⟨r16, s17, h15, h⟩ := zb_some h
      have f18 := zfn_tr f3 (nn_79 h15)
      cases h
      exact f18
  · cases h
    exact zfn_tr (zfn_rf _) (nnl_78_7 h2)
theorem nn_83 {s : zS} {q : (Unit × zS)} (h : f_83 s = some q) : zfn s q.2 := by
  unfold f_83 at h
  by_cases hc1 : (gI s 8 4) = 0
  · rw [if_pos hc1] at h
    obtain ⟨r3, s4, h2, h⟩ := zb_some h
    have f5 := zfn_tr (zfn_rf _) (nn_74 h2 (fun hN => by first | exact hN.2.1 | exact hN.1 _))
    cases h
    exact f5
  · rw [if_neg hc1] at h
    obtain ⟨r7, s8, h6, h⟩ := zb_some h
    have f9 := zfn_tr (zfn_rf _) (nn_74 h6 (fun hN => by first | exact hN.2.1 | exact hN.1 _))
    cases h
    exact f9
theorem nn_82 {v1 : Int} {s : zS} {q : (Unit × zS)} (h : f_82 v1 s = some q) : zfn s q.2 := by
  unfold f_82 at h
  obtain ⟨hg1, h⟩ := zg_some h
  by_cases hc2 : t_82_1 v1 = 152
  · rw [if_pos hc2] at h
    obtain ⟨r4, s5, h3, h⟩ := zb_some h
    have f6 := zfn_tr (zfn_rf _) (nn_76 h3)
    cases h
    exact f6
  · rw [if_neg hc2] at h
    by_cases hc7 : t_82_1 v1 = 161
    · rw [if_pos hc7] at h
      obtain ⟨r9, s10, h8, h⟩ := zb_some h
      have f11 := zfn_tr (zfn_rf _) (nn_79 h8)
      cases h
      exact f11
    · rw [if_neg hc7] at h
      by_cases hc12 : t_82_1 v1 = 171
      · rw [if_pos hc12] at h
        obtain ⟨r14, s15, h13, h⟩ := zb_some h
        have f16 := zfn_tr (zfn_rf _) (nn_77 h13)
        cases h
        exact f16
      · rw [if_neg hc12] at h
        by_cases hc17 : t_82_1 v1 = 179
        · rw [if_pos hc17] at h
          obtain ⟨r19, h18, h⟩ := zo_some h
          obtain ⟨hg20, h⟩ := zg_some h
          by_cases hc21 : r19 = 0
          · rw [if_pos hc21] at h
            obtain ⟨r23, s24, h22, h⟩ := zb_some h
            have f25 := zfn_tr (zfn_rf _) (nn_76 h22)
            cases h
            exact f25
          · rw [if_neg hc21] at h
            obtain ⟨r27, s28, h26, h⟩ := zb_some h
            have f29 := zfn_tr (zfn_rf _) (nn_77 h26)
            cases h
            exact f29
        · rw [if_neg hc17] at h
          by_cases hc30 : t_82_1 v1 = 206
          · rw [if_pos hc30] at h
            obtain ⟨r32, s33, h31, h⟩ := zb_some h
            have f34 := zfn_tr (zfn_rf _) (nn_83 h31)
            cases h
            exact f34
          · rw [if_neg hc30] at h
            cases h
theorem nn_75 {v1 : Int} {s : zS} {q : (Unit × zS)} (h : f_75 v1 s = some q) : zfn s q.2 := by
  unfold f_75 at h
  obtain ⟨hg1, h⟩ := zg_some h
  by_cases hc2 : t_75_1 v1 = 84
  · rw [if_pos hc2] at h
    obtain ⟨r4, s5, h3, h⟩ := zb_some h
    have f6 := zfn_tr (zfn_rf _) (nn_76 h3)
    cases h
    exact f6
  · rw [if_neg hc2] at h
    by_cases hc7 : t_75_1 v1 = 93
    · rw [if_pos hc7] at h
      obtain ⟨r9, s10, h8, h⟩ := zb_some h
      have f11 := zfn_tr (zfn_rf _) (nn_77 h8)
      cases h
      exact f11
    · rw [if_neg hc7] at h
      by_cases hc12 : t_75_1 v1 = 101
      · rw [if_pos hc12] at h
        obtain ⟨r14, s15, h13, h⟩ := zb_some h
        have f16 := zfn_tr (zfn_rf _) (nn_78 h13)
        cases h
        exact f16
      · rw [if_neg hc12] at h
        by_cases hc17 : t_75_1 v1 = 108
        · rw [if_pos hc17] at h
          obtain ⟨r19, s20, h18, h⟩ := zb_some h
          have f21 := zfn_tr (zfn_rf _) (nn_79 h18)
          cases h
          exact f21
        · rw [if_neg hc17] at h
          by_cases hc22 : t_75_1 v1 = 118
          · rw [if_pos hc22] at h
            obtain ⟨r24, s25, h23, h⟩ := zb_some h
            have f26 := zfn_tr (zfn_rf _) (nn_79 h23)
            cases h
            exact f26
          · rw [if_neg hc22] at h
            by_cases hc27 : t_75_1 v1 = 128
            · rw [if_pos hc27] at h
              obtain ⟨r29, h28, h⟩ := zo_some h
              obtain ⟨hg30, h⟩ := zg_some h
              by_cases hc31 : r29 = 0
              · rw [if_pos hc31] at h
                obtain ⟨r33, s34, h32, h⟩ := zb_some h
                have f35 := zfn_tr (zfn_rf _) (nn_83 h32)
                cases h
                exact f35
              · rw [if_neg hc31] at h
                obtain ⟨r37, s38, h36, h⟩ := zb_some h
                have f39 := zfn_tr (zfn_rf _) (nn_82 h36)
                cases h
                exact f39
            · rw [if_neg hc27] at h
              cases h
theorem nn_84 {v1 : Int} {s : zS} {q : (Unit × zS)} (h : f_84 v1 s = some q) : zfn s q.2 := by
  unfold f_84 at h
  obtain ⟨hg1, h⟩ := zg_some h
  by_cases hc2 : v1 = 2
  · rw [if_pos hc2] at h
    by_cases hc3 : (gI s 10 8) = 0
    · rw [if_pos hc3] at h
      obtain ⟨r5, s6, h4, h⟩ := zb_some h
      have f7 := zfn_tr (zfn_rf _) (nn_83 h4)
      cases h
      exact f7
    · rw [if_neg hc3] at h
      obtain ⟨hg8, h⟩ := zg_some h
      cases h
      exact (zfn_tr (zfn_tr (zfn_rf _) (zfn_J)) (zfn_I (by first | exact Or.inl (by decide) | exact Or.inr (Or.inl (by decide)) | exact Or.inr (Or.inr ⟨rfl, by (repeat rw [gI_nc (by decide)])⟩))))
  · rw [if_neg hc2] at h
    obtain ⟨r10, s11, h9, h⟩ := zb_some h
    have f12 := zfn_tr (zfn_rf _) (nn_83 h9)
    cases h
    exact f12
theorem nn_85 {v1 : Int} {s : zS} {q : (Unit × zS)} (h : f_85 v1 s = some q) : zfn s q.2 := by
  unfold f_85 at h
  obtain ⟨hg1, h⟩ := zg_some h
  by_cases hc2 : v1 = 41
  · rw [if_pos hc2] at h
    cases h
    exact (zfn_tr (zfn_rf _) (zfn_I (by first | exact Or.inl (by decide) | exact Or.inr (Or.inl (by decide)) | exact Or.inr (Or.inr ⟨rfl, by (repeat rw [gI_nc (by decide)])⟩))))
  · rw [if_neg hc2] at h
    obtain ⟨r4, s5, h3, h⟩ := zb_some h
    have f6 := zfn_tr (zfn_rf _) (nn_83 h3)
    cases h
    exact f6
theorem nn_86 {v1 : Int} {s : zS} {q : (Unit × zS)} (h : f_86 v1 s = some q) : zfn s q.2 := by
  unfold f_86 at h
  obtain ⟨hg1, h⟩ := zg_some h
  by_cases hc2 : v1 = 3
  · rw [if_pos hc2] at h
    by_cases hc3 : (gI s 10 8) = 0
    · rw [if_pos hc3] at h
      obtain ⟨r5, s6, h4, h⟩ := zb_some h
      have f7 := zfn_tr (zfn_rf _) (nn_83 h4)
      cases h
      exact f7
    · rw [if_neg hc3] at h
      obtain ⟨hg8, h⟩ := zg_some h
      obtain ⟨r10, s11, h9, h⟩ := zb_some h
      have f12 := zfn_tr (zfn_tr (zfn_rf _) (zfn_I (by first | exact Or.inl (by decide) | exact Or.inr (Or.inl (by decide)) | exact Or.inr (Or.inr ⟨rfl, by (repeat rw [gI_nc (by decide)])⟩)))) (zfn_of (fr_139 h9) rfl rfl rfl rfl)
      obtain ⟨r14, s15, h13, h⟩ := zb_some h
      have f16 := zfn_tr f12 (nn_80 h13)
      cases h
      exact f16
  · rw [if_neg hc2] at h
    obtain ⟨r18, s19, h17, h⟩ := zb_some h
    have f20 := zfn_tr (zfn_rf _) (nn_83 h17)
    cases h
    exact f20
theorem nn_93 {s : zS} {q : (Unit × zS)} (h : f_93 s = some q) : zfn s q.2 := by
  unfold f_93 at h
  obtain ⟨hg1, h⟩ := zg_some h
  obtain ⟨hg2, h⟩ := zg_some h
  obtain ⟨r4, h3, h⟩ := zo_some h
  obtain ⟨r6, s7, h5, h⟩ := zb_some h
  have f8 := zfn_tr (zfn_rf _) (zfn_of (fr_140 h5) rfl rfl rfl rfl)
  by_cases hc9 : (gI s7 11 ((gI s 10 8) - 1)) = 39
  · rw [if_pos hc9] at h
    cases h
    exact (zfn_tr (zfn_tr f8 (zfn_I (by first | exact Or.inl (by decide) | exact Or.inr (Or.inl (by decide)) | exact Or.inr (Or.inr ⟨rfl, by (repeat rw [gI_nc (by decide)])⟩)))) (zfn_I (by first | exact Or.inl (by decide) | exact Or.inr (Or.inl (by decide)) | exact Or.inr (Or.inr ⟨rfl, by (repeat rw [gI_nc (by decide)])⟩))))
  · rw [if_neg hc9] at h
    cases h
    exact (zfn_tr (zfn_tr f8 (zfn_I (by first | exact Or.inl (by decide) | exact Or.inr (Or.inl (by decide)) | exact Or.inr (Or.inr ⟨rfl, by (repeat rw [gI_nc (by decide)])⟩)))) (zfn_I (by first | exact Or.inl (by decide) | exact Or.inr (Or.inl (by decide)) | exact Or.inr (Or.inr ⟨rfl, by (repeat rw [gI_nc (by decide)])⟩))))
theorem nn_95 {v1 : Int} {s : zS} {q : (Unit × zS)} (h : f_95 v1 s = some q) : zfn s q.2 := by
  unfold f_95 at h
  obtain ⟨hg1, h⟩ := zg_some h
  obtain ⟨r3, h2, h⟩ := zo_some h
  obtain ⟨hg4, h⟩ := zg_some h
  by_cases hc5 : r3 = (-1)
  · rw [if_pos hc5] at h
    obtain ⟨r7, s8, h6, h⟩ := zb_some h
    have f9 := zfn_tr (zfn_rf _) (nn_74 h6 (fun hN => by first | exact hN.2.1 | exact hN.1 _))
    cases h
    exact f9
  · rw [if_neg hc5] at h
    obtain ⟨hg10, h⟩ := zg_some h
    obtain ⟨r12, s13, h11, h⟩ := zb_some h
    have f14 := zfn_tr (zfn_rf _) (zfn_of (fr_139 h11) rfl rfl rfl rfl)
    cases h
    exact (zfn_tr f14 (zfn_I (by first | exact Or.inl (by decide) | exact Or.inr (Or.inl (by decide)) | exact Or.inr (Or.inr ⟨rfl, by (repeat rw [gI_nc (by decide)])⟩))))
theorem nn_92 {s : zS} {q : (Unit × zS)} (h : f_92 s = some q) : zfn s q.2 := by
  unfold f_92 at h
  obtain ⟨hg1, h⟩ := zg_some h
  by_cases hc2 : ((gI s 10 8) - 1) < 0
  · rw [if_pos hc2] at h
    cases h
    exact (zfn_rf _)
  · rw [if_neg hc2] at h
    obtain ⟨hg3, h⟩ := zg_some h
    by_cases hc4 : (gI s 12 ((gI s 10 8) - 1)) = 2
    · rw [if_pos hc4] at h
      obtain ⟨r6, s7, h5, h⟩ := zb_some h
      have f8 := zfn_tr (zfn_rf _) (nn_93 h5)
      cases h
      exact f8
    · rw [if_neg hc4] at h
      obtain ⟨r10, h9, h⟩ := zo_some h
      obtain ⟨hg11, h⟩ := zg_some h
      by_cases hc12 : r10 = 0
      · rw [if_pos hc12] at h
        obtain ⟨r14, s15, h13, h⟩ := zb_some h
        have f16 := zfn_tr (zfn_rf _) (nn_95 h13)
        cases h
        exact (zfn_tr f16 (zfn_I (by first | exact Or.inl (by decide) | exact Or.inr (Or.inl (by decide)) | exact Or.inr (Or.inr ⟨rfl, by (repeat rw [gI_nc (by decide)])⟩))))
      · rw [if_neg hc12] at h
        obtain ⟨hg17, h⟩ := zg_some h
        obtain ⟨hg18, h⟩ := zg_some h
        cases h
        exact (zfn_tr (zfn_tr (zfn_rf _) (zfn_C (j := 5) hg17)) (zfn_I (by first | exact Or.inl (by decide) | exact Or.inr (Or.inl (by decide)) | exact Or.inr (Or.inr ⟨rfl, by (repeat rw [gI_nc (by decide)])⟩))))
theorem nnb_87_2 {v1 : Int} {v2 : Int} {s : zS} {q : (Int × zS) ⊕ (zS)} (h : b_87_2 v1 v2 s = some q) : zfn s (Sum.elim (fun e : (Int × zS) => e.2) (fun e : (zS) => e) q) := by
  unfold b_87_2 at h
  obtain ⟨hg1, h⟩ := zg_some h
  by_cases hc2 : v2 < 20
  · rw [if_pos hc2] at h
    by_cases hc3 : (gI s 10 15) = 0
    · rw [if_pos hc3] at h
      obtain ⟨r5, h4, h⟩ := zo_some h
      obtain ⟨hg6, h⟩ := zg_some h
      by_cases hc7 : r5 = 0
      · rw [if_pos hc7] at h
        cases h
        exact (zfn_rf _)
      · rw [if_neg hc7] at h
        obtain ⟨r9, s10, h8, h⟩ := zb_some h
        have f11 := zfn_tr (zfn_rf _) (nn_92 h8)
        cases h
        exact f11
    · rw [if_neg hc3] at h
      cases h
      exact (zfn_rf _)
  · rw [if_neg hc2] at h
    cases h
    exact (zfn_rf _)
theorem nnl_87_2 {v1 : Int} {n : Nat} {e0 : (Int × zS)} {t : (zS)} (h : zlp (fun (q : Int × zS) => b_87_2 v1 q.1 q.2) n e0 = some t) : zfn ((fun e : (Int × zS) => e.2) e0) ((fun e : (zS) => e) t) := zfn_lp (f := (fun e : (Int × zS) => e.2)) (g := (fun e : (zS) => e)) (fun e q h1 => nnb_87_2 h1) n e0 t h
theorem nn_98 {v1 : Int} {s : zS} {q : (Unit × zS)} (h : f_98 v1 s = some q) : zfn s q.2 := by
  unfold f_98 at h
  obtain ⟨r2, h1, h⟩ := zo_some h
  obtain ⟨hg3, h⟩ := zg_some h
  by_cases hc4 : r2 = 0
  · rw [if_pos hc4] at h
    obtain ⟨hg5, h⟩ := zg_some h
    by_cases hc6 : v1 = 0
    · rw [if_pos hc6] at h
      cases h
      exact (zfn_tr (zfn_rf _) (zfn_I (by first | exact Or.inl (by decide) | exact Or.inr (Or.inl (by decide)) | exact Or.inr (Or.inr ⟨rfl, by (repeat rw [gI_nc (by decide)])⟩))))
    · rw [if_neg hc6] at h
      obtain ⟨r8, s9, h7, h⟩ := zb_some h
      have f10 := zfn_tr (zfn_rf _) (nn_74 h7 (fun hN => by first | exact hN.2.1 | exact hN.1 _))
      cases h
      exact f10
  · rw [if_neg hc4] at h
    obtain ⟨r12, s13, h11, h⟩ := zb_some h
    have f14 := zfn_tr (zfn_rf _) (nn_83 h11)
    cases h
    exact f14
theorem nn_99 {v1 : Int} {s : zS} {q : (Unit × zS)} (h : f_99 v1 s = some q) : zfn s q.2 := by
  unfold f_99 at h
  by_cases hc1 : (gI s 10 6) = 1
  · rw [if_pos hc1] at h
    obtain ⟨hg2, h⟩ := zg_some h
    by_cases hc3 : v1 = 42
    · rw [if_pos hc3] at h
      obtain ⟨hg4, h⟩ := zg_some h
      obtain ⟨hg5, h⟩ := zg_some h
      obtain ⟨hg6, h⟩ := zg_some h
      cases h
      exact (zfn_tr (zfn_tr (zfn_tr (zfn_rf _) (zfn_I (by first | exact Or.inl (by decide) | exact Or.inr (Or.inl (by decide)) | exact Or.inr (Or.inr ⟨rfl, by (repeat rw [gI_nc (by decide)])⟩)))) (zfn_C (j := 4) hg5)) (zfn_I (by first | exact Or.inl (by decide) | exact Or.inr (Or.inl (by decide)) | exact Or.inr (Or.inr ⟨rfl, by (repeat rw [gI_nc (by decide)])⟩))))
    · rw [if_neg hc3] at h
      obtain ⟨r8, s9, h7, h⟩ := zb_some h
      have f10 := zfn_tr (zfn_rf _) (nn_83 h7)
      cases h
      exact f10
  · rw [if_neg hc1] at h
    obtain ⟨hg11, h⟩ := zg_some h
    obtain ⟨r13, s14, h12, h⟩ := zb_some h
    have f15 := zfn_tr (zfn_rf _) (nn_74 h12 (fun hN => by first | exact hN.2.1 | exact hN.1 _))
    cases h
    exact f15
theorem nnj_100_86 {v1 : Int} {v2 : Int} {s : zS} {q : (Unit × zS)} (h : j_100_86 v1 v2 s = some q) : zfn s q.2 := by
  unfold j_100_86 at h
  obtain ⟨hg1, h⟩ := zg_some h
  by_cases hc2 : v2 = 39
  · rw [if_pos hc2] at h
    obtain ⟨hg3, h⟩ := zg_some h
    by_cases hc4 : v1 = 40
    · rw [if_pos hc4] at h
      obtain ⟨r6, s7, h5, h⟩ := zb_some h
      have f8 := zfn_tr (zfn_rf _) (nn_93 h5)
      cases h
      exact f8
    · rw [if_neg hc4] at h
      obtain ⟨r10, s11, h9, h⟩ := zb_some h
      have f12 := zfn_tr (zfn_rf _) (nn_83 h9)
      cases h
      exact f12
  · rw [if_neg hc2] at h
    obtain ⟨r14, s15, h13, h⟩ := zb_some h
    have f16 := zfn_tr (zfn_rf _) (nn_83 h13)
    cases h
    exact f16
theorem nnj_100_61 {v1 : Int} {v2 : Int} {s : zS} {q : (Unit × zS)} (h : j_100_61 v1 v2 s = some q) : zfn s q.2 := by
  unfold j_100_61 at h
  obtain ⟨hg1, h⟩ := zg_some h
  by_cases hc2 : v2 = 37
  · rw [if_pos hc2] at h
    obtain ⟨hg3, h⟩ := zg_some h
    by_cases hc4 : v1 = 38
    · rw [if_pos hc4] at h
      cases h
      exact (zfn_tr (zfn_rf _) (zfn_I (by first | exact Or.inl (by decide) | exact Or.inr (Or.inl (by decide)) | exact Or.inr (Or.inr ⟨rfl, by (repeat rw [gI_nc (by decide)])⟩))))
    · rw [if_neg hc4] at h
      exact zfn_tr (zfn_rf _) (nnj_100_86 h)
  · rw [if_neg hc2] at h
    exact zfn_tr (zfn_rf _) (nnj_100_86 h)
theorem nnj_100_49 {v1 : Int} {v2 : Int} {s : zS} {q : (Unit × zS)} (h : j_100_49 v1 v2 s = some q) : zfn s q.2 := by
  unfold j_100_49 at h
  obtain ⟨hg1, h⟩ := zg_some h
  by_cases hc2 : v2 = 35
  · rw [if_pos hc2] at h
    obtain ⟨hg3, h⟩ := zg_some h
    by_cases hc4 : v1 = 36
    · rw [if_pos hc4] at h
      cases h
      exact (zfn_tr (zfn_rf _) (zfn_I (by first | exact Or.inl (by decide) | exact Or.inr (Or.inl (by decide)) | exact Or.inr (Or.inr ⟨rfl, by (repeat rw [gI_nc (by decide)])⟩))))
    · rw [if_neg hc4] at h
      exact zfn_tr (zfn_rf _) (nnj_100_61 h)
  · rw [if_neg hc2] at h
    exact zfn_tr (zfn_rf _) (nnj_100_61 h)
theorem nn_100 {v1 : Int} {s : zS} {q : (Unit × zS)} (h : f_100 v1 s = some q) : zfn s q.2 := by
  unfold f_100 at h
  obtain ⟨hg1, h⟩ := zg_some h
  by_cases hc2 : (gI s 11 ((gI s 10 8) - 1)) = 31
  · rw [if_pos hc2] at h
    obtain ⟨hg3, h⟩ := zg_some h
    by_cases hc4 : v1 = 32
    · rw [if_pos hc4] at h
      cases h
      exact (zfn_tr (zfn_tr (zfn_rf _) (zfn_I (by first | exact Or.inl (by decide) | exact Or.inr (Or.inl (by decide)) | exact Or.inr (Or.inr ⟨rfl, by (repeat rw [gI_nc (by decide)])⟩)))) (zfn_I (by first | exact Or.inl (by decide) | exact Or.inr (Or.inl (by decide)) | exact Or.inr (Or.inr ⟨rfl, by (repeat rw [gI_nc (by decide)])⟩))))
    · rw [if_neg hc4] at h
      by_cases hc5 : v1 = 33
      · rw [if_pos hc5] at h
        cases h
        exact (zfn_tr (zfn_tr (zfn_rf _) (zfn_I (by first | exact Or.inl (by decide) | exact Or.inr (Or.inl (by decide)) | exact Or.inr (Or.inr ⟨rfl, by (repeat rw [gI_nc (by decide)])⟩)))) (zfn_I (by first | exact Or.inl (by decide) | exact Or.inr (Or.inl (by decide)) | exact Or.inr (Or.inr ⟨rfl, by (repeat rw [gI_nc (by decide)])⟩))))
      · rw [if_neg hc5] at h
        by_cases hc6 : v1 = 34
        · rw [if_pos hc6] at h
          cases h
          exact (zfn_tr (zfn_tr (zfn_rf _) (zfn_I (by first | exact Or.inl (by decide) | exact Or.inr (Or.inl (by decide)) | exact Or.inr (Or.inr ⟨rfl, by (repeat rw [gI_nc (by decide)])⟩)))) (zfn_I (by first | exact Or.inl (by decide) | exact Or.inr (Or.inl (by decide)) | exact Or.inr (Or.inr ⟨rfl, by (repeat rw [gI_nc (by decide)])⟩))))
        · rw [if_neg hc6] at h
          exact zfn_tr (zfn_rf _) (nnj_100_49 h)
  · rw [if_neg hc2] at h
    exact zfn_tr (zfn_rf _) (nnj_100_49 h)
theorem nnj_87_33 {v1 : Int} {s : zS} {q : (Unit × zS)} (h : j_87_33 v1 s = some q) : zfn s q.2 := by
  unfold j_87_33 at h
  by_cases hc1 : (gI s 10 15) = 0
  · rw [if_pos hc1] at h
    obtain ⟨r3, h2, h⟩ := zo_some h
    obtain ⟨hg4, h⟩ := zg_some h
    by_cases hc5 : r3 = 0
    · rw [if_pos hc5] at h
      by_cases hc6 : (gI s 10 8) = 0
      · rw [if_pos hc6] at h
        obtain ⟨r8, s9, h7, h⟩ := zb_some h
        have f10 := zfn_tr (zfn_rf _) (nn_98 h7)
        cases h
        exact f10
      · rw [if_neg hc6] at h
        obtain ⟨r12, h11, h⟩ := zo_some h
        obtain ⟨hg13, h⟩ := zg_some h
        by_cases hc14 : r12 = 0
        · rw [if_pos hc14] at h
          obtain ⟨hg15, h⟩ := zg_some h
          by_cases hc16 : (gI s 12 ((gI s 10 8) - 1)) = 1
          · rw [if_pos hc16] at h
            obtain ⟨r18, s19, h17, h⟩ := zb_some h
            have f20 := zfn_tr (zfn_rf _) (nn_99 h17)
            cases h
            exact f20
          · rw [if_neg hc16] at h
            obtain ⟨r22, s23, h21, h⟩ := zb_some h
            have f24 := zfn_tr (zfn_rf _) (nn_100 h21)
            cases h
            exact f24
        · rw [if_neg hc14] at h
          obtain ⟨r26, s27, h25, h⟩ := zb_some h
          have f28 := zfn_tr (zfn_rf _) (nn_98 h25)
          cases h
          exact f28
    · rw [if_neg hc5] at h
      obtain ⟨r30, s31, h29, h⟩ := zb_some h
      have f32 := zfn_tr (zfn_rf _) (nn_76 h29)
      cases h
      exact f32
  · rw [if_neg hc1] at h
    cases h
    exact (zfn_rf _)
theorem nn_87 {v1 : Int} {s : zS} {q : (Unit × zS)} (h : f_87 v1 s = some q) : zfn s q.2 := by
  unfold f_87 at h
  obtain ⟨e1, h2, h⟩ := zo_some h
  have f3 : zfn s e1 := zfn_tr (zfn_rf _) (nnl_87_2 h2)
  exact zfn_tr f3 (nnj_87_33 h)
theorem nnb_73_46 {v3 : Int} {s : zS} {q : (Int × zS) ⊕ ((zS) ⊕ (Unit × zS))} (h : b_73_46 v3 s = some q) : zfn s (Sum.elim (fun e : (Int × zS) => e.2) (fun t : ((zS) ⊕ (Unit × zS)) => Sum.elim (fun e : (zS) => e) (fun q => q.2) t) q) := by
  unfold b_73_46 at h
  obtain ⟨hg1, h⟩ := zg_some h
  by_cases hc2 : 200 < v3
  · rw [if_pos hc2] at h
    cases h
    exact (zfn_rf _)
  · rw [if_neg hc2] at h
    by_cases hc3 : (gI s 10 15) = 0
    · rw [if_pos hc3] at h
      by_cases hc4 : (gI s 10 5) = 0
      · rw [if_pos hc4] at h
        obtain ⟨r6, s7, h5, h⟩ := zb_some h
        have f8 := zfn_tr (zfn_rf _) (nn_62 h5)
        by_cases hc9 : (gI s7 8 4) = 1
        · rw [if_pos hc9] at h
          obtain ⟨r11, s12, h10, h⟩ := zb_some h
          have f13 := zfn_tr f8 (nn_74 h10 (fun hN => by first | exact hN.2.1 | exact hN.1 _))
          cases h
          exact f13
        · rw [if_neg hc9] at h
          by_cases hc14 : 200 < (gI s7 8 3)
          · rw [if_pos hc14] at h
            obtain ⟨r16, s17, h15, h⟩ := zb_some h
            have f18 := zfn_tr f8 (nn_74 h15 (fun hN => by first | exact hN.2.1 | exact hN.1 _))
            cases h
            exact f18
          · rw [if_neg hc14] at h
            by_cases hc19 : t_73_129 (gI s7 10 4) = 160
            · rw [if_pos hc19] at h
              obtain ⟨r21, s22, h20, h⟩ := zb_some h
              have f23 := zfn_tr f8 (nn_75 h20)
              cases h
              exact f23
            · rw [if_neg hc19] at h
              by_cases hc24 : t_73_129 (gI s7 10 4) = 174
              · rw [if_pos hc24] at h
                obtain ⟨r26, s27, h25, h⟩ := zb_some h
                have f28 := zfn_tr f8 (nn_84 h25)
                cases h
                exact f28
              · rw [if_neg hc24] at h
                by_cases hc29 : t_73_129 (gI s7 10 4) = 188
                · rw [if_pos hc29] at h
                  obtain ⟨r31, s32, h30, h⟩ := zb_some h
                  have f33 := zfn_tr f8 (nn_85 h30)
                  cases h
                  exact f33
                · rw [if_neg hc29] at h
                  by_cases hc34 : t_73_129 (gI s7 10 4) = 202
                  · rw [if_pos hc34] at h
                    obtain ⟨r36, s37, h35, h⟩ := zb_some h
                    have f38 := zfn_tr f8 (nn_86 h35)
                    cases h
                    exact f38
                  · rw [if_neg hc34] at h
                    by_cases hc39 : t_73_129 (gI s7 10 4) = 216
                    · rw [if_pos hc39] at h
                      obtain ⟨r41, s42, h40, h⟩ := zb_some h
                      have f43 := zfn_tr f8 (nn_87 h40)
                      cases h
                      exact f43
                    · rw [if_neg hc39] at h
                      cases h
      · rw [if_neg hc4] at h
        cases h
        exact (zfn_rf _)
    · rw [if_neg hc3] at h
      cases h
      exact (zfn_rf _)
theorem nnl_73_46 {n : Nat} {e0 : (Int × zS)} {t : ((zS) ⊕ (Unit × zS))} (h : zlp (fun (q : Int × zS) => b_73_46 q.1 q.2) n e0 = some t) : zfn ((fun e : (Int × zS) => e.2) e0) ((fun t : ((zS) ⊕ (Unit × zS)) => Sum.elim (fun e : (zS) => e) (fun q => q.2) t) t) := zfn_lp (f := (fun e : (Int × zS) => e.2)) (g := (fun t : ((zS) ⊕ (Unit × zS)) => Sum.elim (fun e : (zS) => e) (fun q => q.2) t)) (fun e q h1 => nnb_73_46 h1) n e0 t h
theorem nn_73 {c : Nat} {fm : Int} {s : zS} {q : Unit × zS} (h : f_73 c fm s = some q) : zfn s q.2 := by
  unfold f_73 at h
  obtain ⟨hc, h⟩ := zg_some h
  obtain ⟨-, h⟩ := zg_some h
  obtain ⟨r4, s5, h1, h⟩ := zb_some h
  obtain ⟨r7, s8, h2, h⟩ := zb_some h
  obtain ⟨-, h⟩ := zg_some h
  obtain ⟨e10, h3, h⟩ := zo_some h
  have u0 : zfn s (sP s 10 2 c) := fun h => h
  have u1 : zfn (sP s 10 2 c) s5 := zfn_of (fr_138 h1) rfl rfl rfl rfl
  have u2 : zfn s5 s8 := zfn_of (fr_61 h2) rfl rfl rfl rfl
  have u3 : zfn s8 (sI (sI (sI (sI (sI s8 10 3 fm) 10 4 0) 10 5 0) 10 8 0) 10 15 0) := zfn_tr (zfn_tr (zfn_tr (zfn_tr (zfn_I (Or.inr (Or.inl (by decide)))) (zfn_I (Or.inr (Or.inl (by decide))))) (zfn_I (Or.inr (Or.inl (by decide))))) (zfn_I (Or.inr (Or.inl (by decide))))) (zfn_I (Or.inr (Or.inl (by decide))))
  have hh := zfn_tr (zfn_tr (zfn_tr (zfn_tr u0 u1) u2) u3) (nnl_73_46 h3)
  rcases e10 with e | e
  · simp only [ze_l] at h
    cases h
    exact hh
  · simp only [ze_r] at h
    cases h
    exact hh
