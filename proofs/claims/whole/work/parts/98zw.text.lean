/-! A TEXT is read by both. -/
/-- what a text without a fault leaves -/
def NEW (s s1 τ2 : zS) (c : Nat) (fm : Int) : Prop := ∃ (v : Wd) (len len' r : Int) (D : Dn), Sg v (cdo s1 c) (rco τ2) 0 0 0 len 0 len' r D ∧ (gI s1 c 0 = len ∧ gI s1 c 8 = v.K ∧ len ≤ 200) ∧ (0 ≤ v.K ∧ v.K ≤ 40) ∧ (gI τ2 177 41 = len' ∧ len' ≤ 200) ∧ (v.n = gI s 1 0 ∧ v.R = gI s 1 4 ∧ ∀ q, v.ra q = gI s 4 q) ∧ ((fm = 1 ∧ r = 0) ∨ (fm = 0 ∧ 1 ≤ r ∧ gI τ2 195 0 = r))
/-- what the reference's reading leaves -/
def MRD (s s1 t τ2 : zS) (c : Nat) (fm F pl : Int) : Prop := f_156 fm t = some (if F = 0 then 1 else 0, τ2) ∧ (gI τ2 177 4 = F ∧ gI τ2 177 5 = (if F = 0 then -1 else pl) ∧ gI τ2 177 6 = 1 ∧ gI τ2 177 3 = 0) ∧ NNm τ2 ∧ (∀ x, (x = 184 ∨ x = 185 ∨ x = 186) → ∀ i, i < 5440 → gI τ2 x i = gI t x i) ∧ ((∀ j, j ≠ 17 → gI τ2 187 j = gI t 187 j) ∧ gI τ2 187 17 = gI τ2 177 41) ∧ (F = 0 → NEW s s1 τ2 c fm)
theorem txt {s : zS} {fm : Int} (hW : IW s) (hT : IT s) (hN : NNp s) (hc : zC (gP s 0 6) = true) (hfm : fm = 0 ∨ fm = 1) : ∃ F pl s1, (0 ≤ F ∧ F ≤ 7 ∧ 0 ≤ pl ∧ zR pl) ∧ f_17 fm s = some (if F = 0 then 0 else -1 - pl, s1) ∧ (gI s1 8 1 = 0 ∧ gI s1 0 14 = F ∧ gI s1 0 15 = (if F = 0 then -1 else pl)) ∧ NNp s1 ∧ (∀ x i, zot (gP s 0 6) x → gI s1 x i = gI s x i) ∧ ∀ t, zeq 2664881874185689664524908585507108254308256378199758665241240455949951027788576628163296131692399755082923406269339234467840 s t → NNm t → ∃ τ2, MRD s s1 t τ2 (gP s 0 6) fm F pl := by
  obtain ⟨c, hcc⟩ : ∃ c, c = gP s 0 6 := ⟨_, rfl⟩
  rw [← hcc] at hc ⊢
  have hb := zC_b hc
  obtain ⟨t1, t2, t3, t4⟩ := id hT
  obtain ⟨⟨n1, n5, n0⟩, hsz, ⟨r0, r8, r10⟩, har, -⟩ := id hW
  obtain ⟨v, hv⟩ : ∃ v : Wd, v = ((gI s 1 0, gI s 1 4, fun q => gI s 4 q, fun _ => 0, 0, fun _ => 0, fun _ _ _ _ => false) : Wd) := ⟨_, rfl⟩
  have vn : v.n = gI s 1 0 := by rw [hv]
  have vR : v.R = gI s 1 4 := by rw [hv]
  have vra : ∀ q, v.ra q = gI s 4 q := fun q => by rw [hv]
  have vK : v.K = 0 := by rw [hv]
  have hB : TB (fun i => gI s 9 i) (gI s 8 1) := ⟨t2, t3, fun i i0 i1 => (t4 i i0 i1).2⟩
  have hCT : CT s (fun i => gI s 9 i) (gI s 8 1) := ⟨rfl, fun _ _ _ => rfl⟩
  have key : ∀ t, zeq 2664881874185689664524908585507108254308256378199758665241240455949951027788576628163296131692399755082923406269339234467840 s t → ∃ σ' τ' F, f_73 c fm s = some ((), σ') ∧ f_157 fm t = some (F, τ') ∧ PRS σ' τ' c fm F v := by
    intro t ht
    refine prs (nm := fun i => gJ s 3 i) hc hfm hB hCT ⟨?_, fun i i0 i1 => ?_⟩ ⟨by rw [vR]; exact ⟨r0, r8⟩, ⟨vR.symm, ?_⟩, fun i i0 i1 => ?_⟩ (by rw [vn]; exact ⟨n1, n5⟩) vK
    · rw [ht.i (c := 177) (i := 3) rfl]; exact t1.symm
    · rw [ht.ia (c := 178) rfl rfl]; exact (t4 i i0 i1).1.symm
    · rw [ht.i (c := 177) (i := 10) rfl, vR]; exact r10
    · rw [vR] at i1
      obtain ⟨x1, x2, x3, x4⟩ := har i i0 i1
      rw [ht.ja (c := 179) rfl rfl, ht.ia (c := 180) rfl rfl, vra i]
      exact ⟨⟨rfl, x1.symm⟩, ⟨rfl, x2.symm⟩, x3, x4⟩
  obtain ⟨σ, τ, F, e73, e157, p1, p2, p3, p4, p5⟩ := key s (zeq.rf _ _)
  have hnn : NNp σ := nn_73 e73 hN
  obtain ⟨pl, hpl⟩ : ∃ pl, pl = gI σ 10 16 := ⟨_, rfl⟩
  have pl0 : 0 ≤ pl := by rw [hpl]; exact hnn.2.2.1
  have plR : zR pl := by rw [hpl]; exact zR_gI _ _ _
  have FR : zR F := ⟨by omega, by omega⟩
  obtain ⟨y, hy⟩ : ∃ y : Int, y = if F = 0 then -1 else pl := ⟨_, rfl⟩
  have yR : zR y := by
    rw [hy]
    split
    · decide
    · exact plR
  obtain ⟨s1, hs1⟩ : ∃ s1, s1 = sI (sI (sI σ 8 1 0) 0 14 F) 0 15 y := ⟨_, rfl⟩
  have hσ : ∀ x i, x ≠ 0 → x ≠ 8 → gI s1 x i = gI σ x i := fun x i h0 h8 => by rw [hs1, gI_nc h0, gI_nc h0, gI_nc h8]
  refine ⟨F, pl, s1, ⟨p2, p3, pl0, plR⟩, ?_, ⟨?_, ?_, ?_⟩, ⟨fun i => ?_, ?_, ?_, ?_⟩, fun x i hx => ?_, fun t ht hM => ?_⟩
  · have e70 : f_70 σ = some ((), sI σ 8 1 0) := rfl
    have g15 : gI (sI σ 8 1 0) 10 15 = F := by rw [gI_nc (by decide)]; exact p1
    have g16 : gI (sI σ 8 1 0) 10 16 = pl := by rw [gI_nc (by decide)]; exact hpl.symm
    unfold f_17
    rw [← hcc, zb_of e73, zb_of e70, g15, g16]
    by_cases hF : F = 0
    · rw [if_pos hF, if_pos hF, if_pos hF, hs1, hy, if_pos hF]
    · rw [if_neg hF, if_neg hF, if_neg hF, hs1, hy, if_neg hF]
  · rw [hs1, gI_nc (by decide), gI_nc (by decide), gI_same (by decide)]
  · rw [hs1, gI_ni (by decide), gI_same FR]
  · rw [hs1, gI_same yR, hy]
  · rw [hσ 13 i (by decide) (by decide)]; exact hnn.1 i
  · rw [hs1, gI_nc (by decide), gI_nc (by decide), gI_ni (by decide)]; exact hnn.2.1
  · rw [hσ 10 16 (by decide) (by decide)]; exact hnn.2.2.1
  · rw [hs1, gI_nc (by decide), gI_nc (by decide), gI_same (by decide)]; decide
  · have := hx.1
    rw [hσ x i (by omega) (by omega)]
    exact ou_73 e73 x i hx
  · obtain ⟨σ2, τ', F', e73', e157', q1, q2, q3, q4, q5⟩ := key t ht
    rw [e73] at e73'
    injection e73' with h1
    injection h1 with _ h1
    rw [← h1] at q1 q4 q5
    have hFF : F' = F := by omega
    rw [hFF] at e157' q4 q5
    obtain ⟨hm1, hm2⟩ := mm_157 e157' hM
    dsimp only at hm1 hm2
    have z157 := fr_157 e157'
    dsimp only at z157
    obtain ⟨w, hw⟩ : ∃ w, w = gI (sI τ' 177 4 F) 177 41 := ⟨_, rfl⟩
    have hw2 : w = gI τ' 177 41 := by rw [hw, gI_ni (by decide)]
    have wR : zR w := by rw [hw]; exact zR_gI _ _ _
    obtain ⟨τ2, hτ2⟩ : ∃ τ2, τ2 = sI (sI (sI (sI (sI τ' 177 4 F) 177 5 y) 177 6 1) 177 3 0) 187 17 w := ⟨_, rfl⟩
    have hτ : ∀ x i, x ≠ 177 → x ≠ 187 → gI τ2 x i = gI τ' x i := fun x i h0 h8 => by rw [hτ2, gI_nc h8, gI_nc h0, gI_nc h0, gI_nc h0, gI_nc h0]
    have h41 : gI τ2 177 41 = gI τ' 177 41 := by rw [hτ2, gI_nc (by decide), gI_ni (by decide), gI_ni (by decide), gI_ni (by decide), gI_ni (by decide)]
    refine ⟨τ2, ?_, ⟨?_, ?_, ?_, ?_⟩, ⟨fun i => ?_, ?_⟩, fun x hx i hi => ?_, ⟨fun j hj => ?_, ?_⟩, fun hF => ?_⟩
    · unfold f_156 j_156_25
      rw [zb_of e157', gI_same FR]
      by_cases hF : F = 0
      · rw [if_pos hF, if_pos hF, if_pos hF, hτ2, hy, if_pos hF, hw]
      · have := q4 hF
        rw [if_neg hF, if_neg hF, if_neg hF, hτ2, hy, if_neg hF, hw, hpl, this]
    · rw [hτ2, gI_nc (by decide), gI_ni (by decide), gI_ni (by decide), gI_ni (by decide), gI_same FR]
    · rw [hτ2, gI_nc (by decide), gI_ni (by decide), gI_ni (by decide), gI_same yR, hy]
    · rw [hτ2, gI_nc (by decide), gI_ni (by decide), gI_same (by decide)]
    · rw [hτ2, gI_nc (by decide), gI_same (by decide)]
    · rw [hτ 192 i (by decide) (by decide)]; exact hm1.1 i
    · rw [h41]; exact hm1.2
    · rw [hτ x i (by rcases hx with e | e | e <;> rw [e] <;> decide) (by rcases hx with e | e | e <;> rw [e] <;> decide)]
      exact hm2 x hx i hi
    · rw [hτ2, gI_ni hj, gI_nc (by decide), gI_nc (by decide), gI_nc (by decide), gI_nc (by decide), z157.ia (c := 187) rfl rfl]
    · rw [h41, hτ2, gI_same wR, hw2]
    · obtain ⟨v', ⟨l1, l2, l3, l4, l5, l6⟩, len, len', r, D, hSg, ⟨g1, g2, g3⟩, g4, ⟨g5, g6⟩, g7, g8⟩ := q5 hF
      have hrb := hSg.r_b
      refine ⟨vv v' [], len, len', r, D, hSg.mono rfl rfl rfl (fun _ _ _ => rfl) g4.1 (Int.le_refl _) (fun _ _ _ => ⟨rfl, rfl⟩) (fun k _ _ => ⟨hσ (c + 1) k (by omega) (by omega), hσ (c + 2) k (by omega) (by omega), hσ (c + 3) k (by omega) (by omega), hσ (c + 4) k (by omega) (by omega), hσ (c + 5) k (by omega) (by omega), hσ (c + 6) k (by omega) (by omega), hσ (c + 7) k (by omega) (by omega)⟩) (fun k _ _ => ⟨hτ 184 _ (by decide) (by decide), hτ 185 _ (by decide) (by decide), hτ 186 _ (by decide) (by decide)⟩), ⟨?_, ?_, g3⟩, g4, ⟨by rw [h41]; exact g5, g6⟩, ⟨l1.trans vn, l2.trans vR, fun q => ?_⟩, ?_⟩
      · rw [hσ c 0 (by omega) (by omega)]; exact g1
      · rw [hσ c 8 (by omega) (by omega)]; exact g2
      · show v'.ra q = _
        rw [l3]
        exact vra q
      · rcases hfm with e | e
        · have hr : 1 ≤ r := by
            by_cases h0 : r = 0
            · have := g7 h0; omega
            · omega
          exact Or.inr ⟨e, hr, by rw [hτ 195 0 (by decide) (by decide)]; exact (g8 hr).2⟩
        · refine Or.inl ⟨e, ?_⟩
          by_cases h1 : 1 ≤ r
          · exact absurd e (g8 h1).1
          · omega
theorem NEW.for {s s1 τ2 s2 : zS} {c : Nat} {fm row : Int} (h : NEW s s1 τ2 c fm) (hc : zC c = true) (hr0 : 0 ≤ row) (hr1 : row < 18) (h0 : gI s2 1 0 = gI s 1 0) (h4 : gI s2 1 4 = gI s 1 4) (hra : ∀ q, gI s2 4 q = gI s 4 q) (hcode : ∀ j, j ≤ 7 → ∀ i, gI s2 (c + j) i = gI s1 (c + j) i) (hr : ∀ k, 0 ≤ k → k < gI τ2 177 41 → gI s2 184 (320 * row + k) = gI τ2 184 (5440 + k) ∧ gI s2 185 (320 * row + k) = gI τ2 185 (5440 + k) ∧ gI s2 186 (320 * row + k) = gI τ2 186 (5440 + k)) (hl : gI s2 187 row = gI τ2 177 41) : ∃ r D, FOR s2 c row r D ∧ ((fm = 1 ∧ r = 0) ∨ (fm = 0 ∧ 1 ≤ r ∧ gI τ2 195 0 = r)) := by
  obtain ⟨v, len, len', r, D, h1, ⟨h2, h3, h5⟩, h6, ⟨h7, h8⟩, ⟨h9, h10, h11⟩, h12⟩ := h
  refine ⟨r, D, ⟨v, len, len', h1.mono rfl rfl rfl (fun _ _ _ => rfl) h6.1 (Int.le_refl _) (fun _ _ _ => ⟨rfl, rfl⟩) (fun k k0 k1 => ⟨hcode 1 (by decide) k, hcode 2 (by decide) k, hcode 3 (by decide) k, hcode 4 (by decide) k, hcode 5 (by decide) k, hcode 6 (by decide) k, hcode 7 (by decide) k⟩) (fun k k0 k1 => hr k k0 (by omega)), ⟨hc, ?_, ?_, h5⟩, h6, ⟨by rw [hl]; exact h7, h8, hr0, hr1⟩, ⟨by rw [h0]; exact h9, by rw [h4, h10]; omega⟩, fun q _ _ => by rw [hra q]; exact h11 q⟩, h12⟩
  · rw [← h2]; exact hcode 0 (by decide) 0
  · rw [← h3]; exact hcode 0 (by decide) 8
theorem zC_far {c d : Nat} (hc : zC c = true) (hd : zC d = true) (h : d ≠ c) {j : Nat} (hj : j ≤ 7) : zot c (d + j) := by
  have h1 := of_decide_eq_true hc
  have h2 := of_decide_eq_true hd
  refine ⟨by omega, by omega, by omega⟩
theorem NEW.len {s s1 τ2 : zS} {c : Nat} {fm : Int} (h : NEW s s1 τ2 c fm) : 0 ≤ gI τ2 177 41 ∧ gI τ2 177 41 ≤ 200 := by
  obtain ⟨v, len, len', r, D, h1, -, -, ⟨h7, h8⟩, -, -⟩ := h
  have := h1.r_b
  omega
/-- a formula stays, while a text is read into the code c and row 17 -/
theorem FOR.read {s s2 : zS} {c d : Nat} {i : Int} {D : Dn} (h : FOR s d i 0 D) (hc : zC c = true) (hd : zC d = true) (hne : d ≠ c) (i0 : 0 ≤ i) (i17 : i < 17) (hz : zeq 36311779610655471400715369004882385948245976880063097089099707332977735338270889350390355477921808 s s2) (hot : ∀ x i, zot c x → gI s2 x i = gI s x i) (hr : ∀ x, (x = 184 ∨ x = 185 ∨ x = 186) → ∀ k, 0 ≤ k → k < 200 → gI s2 x (320 * i + k) = gI s x (320 * i + k)) (hl : gI s2 187 i = gI s 187 i) : FOR s2 d i 0 D :=
  h.of (hz.i rfl) (by rw [hz.i (c := 1) (i := 4) rfl]; omega) (fun q _ _ => hz.ia (c := 4) rfl rfl q) (fun j hj k => hot _ k (zC_far hc hd hne hj)) (fun k k0 k1 => ⟨hr 184 (Or.inl rfl) k k0 k1, hr 185 (Or.inr (Or.inl rfl)) k k0 k1, hr 186 (Or.inr (Or.inr rfl)) k k0 k1⟩) hl
/-- the reference keeps a text -/
theorem m_keep {s : zS} {row : Int} (r0 : 0 ≤ row) (r1 : row < 17) (l0 : 0 ≤ gI s 177 41) (l1 : gI s 177 41 ≤ 200) : ∃ s', f_189 row s = some ((), s') ∧ (∀ k, 0 ≤ k → k < gI s 177 41 → gI s' 184 (320 * row + k) = gI s 184 (5440 + k) ∧ gI s' 185 (320 * row + k) = gI s 185 (5440 + k) ∧ gI s' 186 (320 * row + k) = gI s 186 (5440 + k)) ∧ (∀ x, (x = 184 ∨ x = 185 ∨ x = 186) → ∀ i, (i < 320 * row ∨ 320 * row + 200 ≤ i) → gI s' x i = gI s x i) ∧ gI s' 187 row = gI s 177 41 ∧ ∀ j, j ≠ row → gI s' 187 j = gI s 187 j := by
  have hl := zlp_F (B := fun (q : Int × zS) => b_189_2 row q.1 q.2) (I := fun q => 0 ≤ q.1 ∧ q.1 ≤ gI s 177 41 ∧ zfr 171639500576979552136134867040834628565298781684563443712 s q.2 ∧ (∀ k, 0 ≤ k → k < q.1 → gI q.2 184 (320 * row + k) = gI s 184 (5440 + k) ∧ gI q.2 185 (320 * row + k) = gI s 185 (5440 + k) ∧ gI q.2 186 (320 * row + k) = gI s 186 (5440 + k)) ∧ (∀ x, (x = 184 ∨ x = 185 ∨ x = 186) → ∀ i, (i < 320 * row ∨ 320 * row + 200 ≤ i) → gI q.2 x i = gI s x i)) (μ := fun q => (gI s 177 41 - q.1).toNat) (Q := fun t => zfr 171639500576979552136134867040834628565298781684563443712 s t ∧ (∀ k, 0 ≤ k → k < gI s 177 41 → gI t 184 (320 * row + k) = gI s 184 (5440 + k) ∧ gI t 185 (320 * row + k) = gI s 185 (5440 + k) ∧ gI t 186 (320 * row + k) = gI s 186 (5440 + k)) ∧ (∀ x, (x = 184 ∨ x = 185 ∨ x = 186) → ∀ i, (i < 320 * row ∨ 320 * row + 200 ≤ i) → gI t x i = gI s x i)) (by
    rintro ⟨i, σ⟩ ⟨a1, a2, a3, a4, a5⟩
    dsimp only at a1 a2 a3 a4 a5 ⊢
    unfold b_189_2
    rw [zg_pos ⟨by omega, by omega⟩, a3.i (c := 177) (i := 41) rfl]
    by_cases hc : i < gI s 177 41
    · left
      rw [if_pos hc, zg_pos ⟨by omega, by omega⟩, zg_pos ⟨by omega, by omega⟩]
      have g4 := a5 184 (Or.inl rfl) (5440 + i) (by omega)
      have g5 := a5 185 (Or.inr (Or.inl rfl)) (5440 + i) (by omega)
      have g6 := a5 186 (Or.inr (Or.inr rfl)) (5440 + i) (by omega)
      refine ⟨_, rfl, ⟨by dsimp only; omega, by dsimp only; omega, zfr_tr a3 (zfr_tr (zfr_tr (zfr_IA rfl rfl) (zfr_IA rfl rfl)) (zfr_IA rfl rfl)), fun k k0 k1 => ?_, fun x hx j hj => ?_⟩, by dsimp only; omega⟩
      · dsimp only at k1 ⊢
        by_cases e : k = i
        · rw [e]
          refine ⟨?_, ?_, ?_⟩
          · rw [gI_nc (by decide), gI_nc (by decide), gI_same (zR_gI _ _ _), g4]
          · rw [gI_nc (by decide), gI_same (zR_gI _ _ _), g5]
          · rw [gI_same (zR_gI _ _ _), g6]
        · obtain ⟨b1, b2, b3⟩ := a4 k k0 (by omega)
          rw [gI_ni (by omega), gI_ni (by omega), gI_ni (by omega), gI_ni (by omega), gI_ni (by omega), gI_ni (by omega), gI_ni (by omega), gI_ni (by omega), gI_ni (by omega)]
          exact ⟨b1, b2, b3⟩
      · dsimp only
        rw [gI_ni (by omega), gI_ni (by omega), gI_ni (by omega)]
        exact a5 x hx j hj
    · right
      rw [if_neg hc]
      exact ⟨_, rfl, a3, fun k k0 k1 => a4 k k0 (by omega), a5⟩) (s := (0, s)) ⟨by dsimp only; omega, by dsimp only; omega, zfr_rf _ _, fun k k0 k1 => by dsimp only at k1; omega, fun _ _ _ _ => rfl⟩ (by dsimp only; omega)
  obtain ⟨t, et, q1, q2, q3⟩ := hl
  have h41 : gI t 177 41 = gI s 177 41 := q1.i rfl
  refine ⟨sI t 187 row (gI t 177 41), ?_, fun k k0 k1 => ?_, fun x hx j hj => ?_, ?_, fun j hj => ?_⟩
  · unfold f_189
    rw [zo_of et, zg_pos ⟨r0, by omega⟩]
  · rw [gI_nc (by decide), gI_nc (by decide), gI_nc (by decide)]
    exact q2 k k0 k1
  · rw [gI_nc (by rcases hx with e | e | e <;> rw [e] <;> decide)]
    exact q3 x hx j hj
  · rw [gI_same (zR_gI _ _ _), h41]
  · rw [gI_ni hj, q1.ia (c := 187) rfl rfl]
