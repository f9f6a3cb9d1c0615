/-! THE CLASS FINDS the fair renamings, and where they bring FREE tuples. -/
def IRk (s : zS) : Prop := gI s 25 2 = (fps s).length ∧ ∀ (r : Nat) (c : Int), (fps s)[r]? = some c → ∀ i, 0 ≤ i → i < gI s 1 8 → 0 ≤ gI s 27 (r * 12 + i) ∧ gI s 27 (r * 12 + i) < gI s 1 8 ∧ gI s 7 (gI s 27 (r * 12 + i)) = kim s c (gI s 7 i)
/-- where a fair one brings a FREE tuple is FREE -/
theorem kim_free {s : zS} {c i : Int} (hW : IW s) (hc : c ∈ cps (gI s 1 0)) (hf : fairb s c = true) (i0 : 0 ≤ i) (i1 : i < gI s 1 8) : tok s (gI s 7 i / 125) (gI s 7 i % 125) ∧ kim s c (gI s 7 i) = gI s 7 i / 125 * 125 + pt (gI s 1 0) (dgI (gI s 1 0) c) (gI s 4 (gI s 7 i / 125)).toNat (gI s 7 i % 125) ∧ 0 ≤ kim s c (gI s 7 i) ∧ kim s c (gI s 7 i) < 1000 ∧ gI s 5 (kim s c (gI s 7 i)) = 1 := by
  obtain ⟨⟨n1, n5, -⟩, -, ⟨r0, r8, -⟩, har, hst, -, hfr, -, -⟩ := id hW
  obtain ⟨f1, f2, f3⟩ := hfr i i0 i1
  obtain ⟨b1, b2⟩ := (hst (gI s 7 i) f1 f2).2.2.2 (by omega)
  have htk : tok s (gI s 7 i / 125) (gI s 7 i % 125) := ⟨by omega, b1, by omega, b2⟩
  have e : gI s 7 i / 125 * 125 + gI s 7 i % 125 = gI s 7 i := by omega
  have hk := kim_qt (s := s) (c := c) (q := gI s 7 i / 125) (t := gI s 7 i % 125) (by omega) (by omega)
  rw [e] at hk
  have hpt := tok_b hW (pt_tok hW hc htk)
  have h5 := (fairb_iff hW).mp hf (gI s 7 i / 125) (gI s 7 i % 125) (by omega) b1 (by omega) b2
  unfold kpt at h5
  rw [e, ← hk] at h5
  refine ⟨htk, hk, by rw [hk]; omega, by rw [hk]; omega, ?_⟩
  rcases h5 with h | h
  · omega
  · omega
theorem c_keepIm {s : zS} {c : Int} (hW : IW s) (hc : c ∈ cps (gI s 1 0)) (hf : fairb s c = true) (hE : ∀ x, 0 ≤ x → x < gI s 1 0 → gI s 26 x = dgI (gI s 1 0) c x) (f0 : 0 ≤ gI s 25 2) (f1 : gI s 25 2 < 120) : ∃ s', f_133 s = some ((), s') ∧ gI s' 25 2 = gI s 25 2 + 1 ∧ (∀ i, 0 ≤ i → i < gI s 1 8 → 0 ≤ gI s' 27 (gI s 25 2 * 12 + i) ∧ gI s' 27 (gI s 25 2 * 12 + i) < gI s 1 8 ∧ gI s 7 (gI s' 27 (gI s 25 2 * 12 + i)) = kim s c (gI s 7 i)) ∧ ∀ j, j < gI s 25 2 * 12 → gI s' 27 j = gI s 27 j := by
  obtain ⟨⟨n1, n5, -⟩, -, ⟨r0, r8, -⟩, har, hst, ⟨F0, F12⟩, hfr, hinc, hall⟩ := id hW
  have hl := zlp_F (B := fun (q : Int × zS) => b_133_2 q.1 q.2) (I := fun q => 0 ≤ q.1 ∧ q.1 ≤ gI s 1 8 ∧ zfr 134217728 s q.2 ∧ (∀ i, 0 ≤ i → i < q.1 → 0 ≤ gI q.2 27 (gI s 25 2 * 12 + i) ∧ gI q.2 27 (gI s 25 2 * 12 + i) < gI s 1 8 ∧ gI s 7 (gI q.2 27 (gI s 25 2 * 12 + i)) = kim s c (gI s 7 i)) ∧ ∀ j, j < gI s 25 2 * 12 → gI q.2 27 j = gI s 27 j) (μ := fun q => (gI s 1 8 - q.1).toNat) (Q := fun t => zfr 134217728 s t ∧ (∀ i, 0 ≤ i → i < gI s 1 8 → 0 ≤ gI t 27 (gI s 25 2 * 12 + i) ∧ gI t 27 (gI s 25 2 * 12 + i) < gI s 1 8 ∧ gI s 7 (gI t 27 (gI s 25 2 * 12 + i)) = kim s c (gI s 7 i)) ∧ ∀ j, j < gI s 25 2 * 12 → gI t 27 j = gI s 27 j) (by
    rintro ⟨i, σ⟩ ⟨a1, a2, a3, a4, a5⟩
    dsimp only at a1 a2 a3 a4 a5 ⊢
    have hWσ : IW σ := IW.cong (a3.eq rfl) hW
    unfold b_133_2
    rw [zg_pos ⟨by omega, by omega⟩, a3.i (c := 1) (i := 8) rfl]
    by_cases hi : i < gI s 1 8
    · left
      obtain ⟨htk, hk, k0, k1, k5⟩ := kim_free hW hc hf a1 hi
      obtain ⟨g1, g2, g3⟩ := hfr i a1 hi
      have ha := har (gI s 7 i / 125) (by omega) htk.2.1
      have gn : gI σ 1 0 = gI s 1 0 := a3.i rfl
      have e132 : f_132 (gI s 7 i % 125) (gI s 4 (gI s 7 i / 125)) σ = some (pt (gI s 1 0) (dgI (gI s 1 0) c) (gI s 4 (gI s 7 i / 125)).toNat (gI s 7 i % 125)) := c_imageOf gn n1 n5 (fun x x0 x1 => by rw [a3.ia (c := 26) rfl rfl]; exact hE x x0 x1) (by omega) ⟨by omega, by omega⟩ (by omega) (by omega)
      obtain ⟨r, er, hr⟩ := c_rankOf hWσ (k := kim s c (gI s 7 i)) ⟨by omega, by omega⟩
      rw [a3.i (c := 1) (i := 8) rfl] at hr
      simp only [a3.ia (c := 7) rfl rfl] at hr
      have hr2 : 0 ≤ r ∧ r < gI s 1 8 ∧ gI s 7 r = kim s c (gI s 7 i) := by
        rcases hr with h | ⟨-, h⟩
        · exact h
        · obtain ⟨j, j0, j1, j2⟩ := hall _ k0 k1 k5
          exact absurd j2 (h j j0 j1)
      rw [if_pos hi, zg_pos ⟨by omega, by omega⟩, a3.ia (c := 7) rfl rfl, a3.ia (c := 4) rfl rfl, a3.i (c := 25) (i := 2) rfl, zg_pos ⟨g1, zR_gI _ _ _, by decide, by decide⟩, zg_pos ⟨by omega, by omega⟩, zo_of e132, ← hk, zo_of er, zg_pos ⟨by omega, by omega⟩]
      refine ⟨_, rfl, ⟨by dsimp only; omega, by dsimp only; omega, zfr_tr a3 (zfr_IA rfl rfl), fun j j0 j1 => ?_, fun j hj => ?_⟩, by dsimp only; omega⟩
      · dsimp only at j1 ⊢
        by_cases e : j = i
        · rw [e, gI_same ⟨by omega, by omega⟩]
          exact hr2
        · rw [gI_ni (by omega)]
          exact a4 j j0 (by omega)
      · dsimp only
        rw [gI_ni (by omega)]
        exact a5 j hj
    · right
      rw [if_neg hi]
      exact ⟨_, rfl, a3, fun j j0 j1 => a4 j j0 (by omega), a5⟩) (s := (0, s)) ⟨by dsimp only; omega, by dsimp only; omega, zfr_rf _ _, fun i i0 i1 => by dsimp only at i1; omega, fun _ _ => rfl⟩ (by dsimp only; omega)
  obtain ⟨t, et, q1, q2, q3⟩ := hl
  have g2 : gI t 25 2 = gI s 25 2 := q1.i rfl
  refine ⟨sI t 25 2 (gI t 25 2 + 1), ?_, ?_, fun i i0 i1 => ?_, fun j hj => ?_⟩
  · unfold f_133
    rw [zo_of et]
  · rw [gI_same ⟨by omega, by omega⟩, g2]
  · rw [gI_nc (by decide)]
    exact q2 i i0 i1
  · rw [gI_nc (by decide)]
    exact q3 j hj
/-- what is found among the first ones -/
def FND (s σ : zS) (l : List Int) : Prop := gI σ 25 2 = (l.filter (fairb s)).length ∧ ∀ (r : Nat) (c : Int), (l.filter (fairb s))[r]? = some c → ∀ i, 0 ≤ i → i < gI s 1 8 → 0 ≤ gI σ 27 (r * 12 + i) ∧ gI σ 27 (r * 12 + i) < gI s 1 8 ∧ gI s 7 (gI σ 27 (r * 12 + i)) = kim s c (gI s 7 i)
theorem FND.no {s σ σ' : zS} {l : List Int} {c : Int} (h : FND s σ l) (hf : fairb s c = false) (hz : zfr 67108864 σ σ') : FND s σ' (l ++ [c]) := by
  have e : (l ++ [c]).filter (fairb s) = l.filter (fairb s) := by
    rw [List.filter_append, List.filter_cons_of_neg (by rw [hf]; decide), List.filter_nil, List.append_nil]
  unfold FND
  rw [e, hz.i (c := 25) (i := 2) rfl]
  simp only [hz.ia (c := 27) rfl rfl]
  exact h
theorem FND.yes {s σ σ' : zS} {l : List Int} {c : Int} (h : FND s σ l) (hf : fairb s c = true) (h2 : gI σ' 25 2 = gI σ 25 2 + 1) (him : ∀ i, 0 ≤ i → i < gI s 1 8 → 0 ≤ gI σ' 27 (gI σ 25 2 * 12 + i) ∧ gI σ' 27 (gI σ 25 2 * 12 + i) < gI s 1 8 ∧ gI s 7 (gI σ' 27 (gI σ 25 2 * 12 + i)) = kim s c (gI s 7 i)) (hold : ∀ j, j < gI σ 25 2 * 12 → gI σ' 27 j = gI σ 27 j) (F12 : gI s 1 8 ≤ 12) : FND s σ' (l ++ [c]) := by
  have e : (l ++ [c]).filter (fairb s) = l.filter (fairb s) ++ [c] := by
    rw [List.filter_append, List.filter_cons_of_pos hf, List.filter_nil]
  obtain ⟨g1, g2⟩ := h
  unfold FND
  rw [e]
  refine ⟨by rw [h2, g1, List.length_append, List.length_singleton]; omega, fun r d hr i i0 i1 => ?_⟩
  rw [List.getElem?_append] at hr
  by_cases hlt : r < (l.filter (fairb s)).length
  · rw [if_pos hlt] at hr
    rw [hold (r * 12 + i) (by omega)]
    exact g2 r d hr i i0 i1
  · rw [if_neg hlt] at hr
    have hr0 : r = (l.filter (fairb s)).length := by
      by_cases h0 : r - (l.filter (fairb s)).length = 0
      · omega
      · rw [List.getElem?_eq_none (by rw [List.length_singleton]; omega)] at hr
        cases hr
    rw [hr0, Nat.sub_self] at hr
    have hd : c = d := by simpa using hr
    have := him i i0 i1
    rw [g1] at this
    rw [hr0, ← hd]
    exact this
theorem c_find {s : zS} (hW : IW s) (hR : IRn s) : ∃ s', f_130 s = some ((), s') ∧ IRk s' := by
  by_cases h0 : gI s 25 1 = 0
  · obtain ⟨⟨n1, n5, -⟩, -, ⟨r0, r8, -⟩, har, hst, ⟨F0, F12⟩, hfr, hinc, hall⟩ := id hW
    obtain ⟨n, hn⟩ : ∃ n, n = gI s 1 0 := ⟨_, rfl⟩
    rw [← hn] at n1 n5
    have hlen := cps_len n1 n5
    -- the first order
    have l1 := zlp_F (B := fun (q : Int × zS) => b_130_15 q.1 q.2) (I := fun q => 0 ≤ q.1 ∧ q.1 ≤ 5 ∧ zfr 9850501549098619803069760025035903451269934817616361666987073351061430442874302652853566563721228910201657064685568 s q.2 ∧ gI q.2 25 2 = 0 ∧ ∀ x, 0 ≤ x → x < q.1 → gI q.2 26 x = x) (μ := fun q => (5 - q.1).toNat) (Q := fun t => zfr 9850501549098619803069760025035903451269934817616361666987073351061430442874302652853566563721228910201657064685568 s t ∧ gI t 25 2 = 0 ∧ ∀ x, 0 ≤ x → x < 5 → gI t 26 x = x) (by
      rintro ⟨i, σ⟩ ⟨a1, a2, a3, a4, a5⟩
      dsimp only at a1 a2 a3 a4 a5 ⊢
      unfold b_130_15
      rw [zg_pos ⟨by omega, by omega⟩]
      by_cases hi : i < 5
      · left
        rw [if_pos hi, zg_pos ⟨a1, hi⟩]
        refine ⟨_, rfl, ⟨by dsimp only; omega, by dsimp only; omega, zfr_tr a3 (zfr_IA rfl rfl), by dsimp only; rw [gI_nc (by decide)]; exact a4, fun x x0 x1 => ?_⟩, by dsimp only; omega⟩
        dsimp only at x1 ⊢
        by_cases e : x = i
        · rw [e, gI_same ⟨by omega, by omega⟩]
        · rw [gI_ni e]; exact a5 x x0 (by omega)
      · right
        rw [if_neg hi]
        exact ⟨_, rfl, a3, a4, fun x x0 x1 => a5 x x0 (by omega)⟩) (s := (0, sI s 25 2 0)) ⟨by dsimp only; omega, by dsimp only; omega, zfr_I rfl, by dsimp only; rw [gI_same (by decide)], fun x x0 x1 => by dsimp only at x1; omega⟩ (by dsimp only; decide)
    obtain ⟨e2, el1, z1, k1, k2⟩ := l1
    obtain ⟨c0, l0, hcps, hid⟩ := cps_first n1 n5
    have l2 := zlp_F (B := fun (q : Int × Int × zS) => b_130_37 q.1 q.2.1 q.2.2) (I := fun q => 0 ≤ q.2.1 ∧ q.2.1 ≤ 120 ∧ zfr 9850501549098619803069760025035903451269934817616361666987073351061430442874302652853566563721228910201657198903296 s q.2.2 ∧ ((q.1 = 1 ∧ ∃ done c rest, cps n = done ++ c :: rest ∧ q.2.1 = (done.length : Int) ∧ (∀ x, 0 ≤ x → x < n → gI q.2.2 26 x = dgI n c x) ∧ FND s q.2.2 done) ∨ (q.1 = 0 ∧ FND s q.2.2 (cps n)))) (μ := fun q => (if q.1 = 0 then 0 else 1) + (120 - q.2.1).toNat) (Q := fun t => zfr 9850501549098619803069760025035903451269934817616361666987073351061430442874302652853566563721228910201657198903296 s t ∧ FND s t (cps n)) (by
      rintro ⟨m, i, σ⟩ ⟨a1, a2, a3, a4⟩
      dsimp only at a1 a2 a3 a4 ⊢
      rcases a4 with ⟨m1, done, c, rest, b1, b2, b3, b4⟩ | ⟨m0, b4⟩
      · left
        have hl2 : done.length + (rest.length + 1) = (cps n).length := by rw [b1, List.length_append, List.length_cons]
        have hgn : gI σ 1 0 = n := by rw [a3.i rfl]; exact hn.symm
        have hcm : c ∈ cps n := by rw [b1]; exact List.mem_append_right _ List.mem_cons_self
        have hWσ : IW σ := IW.cong (a3.eq rfl) hW
        have hfp := (fps_of (s2 := σ) hW (a3.i rfl) (fun q _ _ => a3.ia (c := 4) rfl rfl q) (fun k => a3.ia (c := 5) rfl rfl k)).1
        have e131 : f_131 σ = some (if fairb s c = true then 1 else 0) := by
          rw [c_isFair (c := c) hWσ (by rw [hgn]; exact hcm) (by rw [hgn]; exact b3), hfp]
        have hsuf : stepOk n (c :: rest) = true := stepOk_suf (a := done) (by rw [← b1]; exact stepOk_cps n1 n5)
        have hfl : (done.filter (fairb s)).length ≤ done.length := List.length_filter_le _ _
        -- going on
        have hgo : ∀ τ : zS, zfr 9850501549098619803069760025035903451269934817616361666987073351061430442874302652853566563721228910201657198903296 s τ → (∀ x, 0 ≤ x → x < n → gI τ 26 x = dgI n c x) → FND s τ (done ++ [c]) → ∃ r τ', f_134 τ = some (r, τ') ∧ ((r = 1 ∧ ∃ d rest2, rest = d :: rest2 ∧ (∀ x, 0 ≤ x → x < n → gI τ' 26 x = dgI n d x)) ∨ (r = 0 ∧ rest = [])) ∧ zfr 9850501549098619803069760025035903451269934817616361666987073351061430442874302652853566563721228910201657198903296 s τ' ∧ FND s τ' (done ++ [c]) := by
          intro τ zτ hτ hFτ
          have hst2 := c_step (s := τ) (e := dgI n c) (by rw [zτ.i rfl]; exact hn.symm) n1 n5 hτ
          cases rest with
          | nil =>
            have := hst2.1 (stepOk_last hsuf)
            exact ⟨0, τ, this, Or.inr ⟨rfl, rfl⟩, zτ, hFτ⟩
          | cons d rest2 =>
            obtain ⟨e', he', hd⟩ := stepOk_next hsuf
            obtain ⟨τ', eτ', hτ'⟩ := hst2.2 e' he'
            have z134 : zfr 67108864 τ τ' := zfr_sub rfl (fr_134 eτ')
            refine ⟨1, τ', eτ', Or.inl ⟨rfl, d, rest2, rfl, fun x x0 x1 => by rw [hτ' x x0 x1, hd x x0 x1]⟩, zfr_tr zτ (zfr_sub rfl z134), ?_⟩
            unfold FND
            rw [z134.i (c := 25) (i := 2) rfl]
            simp only [z134.ia (c := 27) rfl rfl]
            exact hFτ
        have hfin : ∀ (r : Int) (τ' : zS), ((r = 1 ∧ ∃ d rest2, rest = d :: rest2 ∧ (∀ x, 0 ≤ x → x < n → gI τ' 26 x = dgI n d x)) ∨ (r = 0 ∧ rest = [])) → zfr 9850501549098619803069760025035903451269934817616361666987073351061430442874302652853566563721228910201657198903296 s τ' → FND s τ' (done ++ [c]) → ∃ s', (some (Sum.inl (r, i + 1, τ')) : Option ((Int × Int × zS) ⊕ zS)) = some (Sum.inl s') ∧ (0 ≤ s'.2.1 ∧ s'.2.1 ≤ 120 ∧ zfr 9850501549098619803069760025035903451269934817616361666987073351061430442874302652853566563721228910201657198903296 s s'.2.2 ∧ ((s'.1 = 1 ∧ ∃ done c rest, cps n = done ++ c :: rest ∧ s'.2.1 = (done.length : Int) ∧ (∀ x, 0 ≤ x → x < n → gI s'.2.2 26 x = dgI n c x) ∧ FND s s'.2.2 done) ∨ (s'.1 = 0 ∧ FND s s'.2.2 (cps n)))) ∧ (if s'.1 = 0 then 0 else 1) + (120 - s'.2.1).toNat < (if m = 0 then 0 else 1) + (120 - i).toNat := by
          intro r τ' hr hz hFτ
          refine ⟨_, rfl, ⟨by dsimp only; omega, by dsimp only; omega, hz, ?_⟩, ?_⟩
          · dsimp only
            rcases hr with ⟨r1, d, rest2, hrest, hd⟩ | ⟨r1, hrest⟩
            · refine Or.inl ⟨r1, done ++ [c], d, rest2, ?_, ?_, hd, hFτ⟩
              · rw [b1, hrest, List.append_assoc]
                rfl
              · rw [List.length_append, List.length_singleton, b2]
                omega
            · refine Or.inr ⟨r1, ?_⟩
              rw [b1, hrest]
              exact hFτ
          · dsimp only
            rw [if_neg (show ¬ m = 0 by omega)]
            split <;> omega
        unfold b_130_37
        rw [zg_pos ⟨by omega, by omega⟩, if_pos (by omega), zg_pos ⟨by omega, by omega⟩, if_neg (by omega), zo_of e131]
        cases hf : fairb s c
        · rw [if_neg (by decide), zg_pos (by decide), if_pos rfl]
          obtain ⟨r, τ', eτ', hr, hz, hFτ⟩ := hgo σ a3 b3 (b4.no hf (zfr_rf _ _))
          rw [zb_of eτ']
          exact hfin r τ' hr hz hFτ
        · rw [if_pos rfl, zg_pos (by decide), if_neg (by decide)]
          obtain ⟨σ2, e133, w1, w2, w3⟩ := c_keepIm (c := c) hWσ (by rw [hgn]; exact hcm) (by rw [hfp]; exact hf) (by rw [hgn]; exact b3) (by rw [b4.1]; omega) (by rw [b4.1]; omega)
          have z133 : zfr 9850501549098619803069760025035903451269934817616361666987073351061430442874302652853566563721228910201657131794432 σ σ2 := zfr_sub rfl (fr_133 e133)
          have zσ2 : zfr 9850501549098619803069760025035903451269934817616361666987073351061430442874302652853566563721228910201657198903296 s σ2 := zfr_tr a3 (zfr_sub rfl z133)
          have hFσ2 : FND s σ2 (done ++ [c]) := by
            refine b4.yes hf w1 (fun j j0 j1 => ?_) w3 F12
            have := w2 j j0 (by rw [a3.i rfl]; exact j1)
            rw [a3.i (c := 1) (i := 8) rfl, a3.ia (c := 7) rfl rfl, a3.ia (c := 7) rfl rfl] at this
            have hk : kim σ c (gI s 7 j) = kim s c (gI s 7 j) := by
              unfold kim
              rw [a3.i (c := 1) (i := 0) rfl, a3.ia (c := 4) rfl rfl]
            rw [hk] at this
            exact this
          obtain ⟨r, τ', eτ', hr, hz, hFτ⟩ := hgo σ2 zσ2 (fun x x0 x1 => by rw [z133.ia (c := 26) rfl rfl]; exact b3 x x0 x1) hFσ2
          rw [zb_of e133, zb_of eτ']
          exact hfin r τ' hr hz hFτ
      · right
        unfold b_130_37
        rw [zg_pos ⟨by omega, by omega⟩]
        by_cases hi : i < 120
        · rw [if_pos hi, zg_pos (by rw [m0]; decide), if_pos m0]
          exact ⟨_, rfl, a3, b4⟩
        · rw [if_neg hi]
          exact ⟨_, rfl, a3, b4⟩) (s := (1, 0, e2)) ⟨by dsimp only; omega, by dsimp only; omega, zfr_sub rfl z1, Or.inl ⟨rfl, [], c0, l0, hcps, rfl, fun x x0 x1 => by dsimp only; rw [k2 x x0 (by omega), hid x x0 x1], by dsimp only; exact k1, fun r c hr => by
        rw [List.filter_nil] at hr
        cases hr⟩⟩ (by dsimp only; rw [if_neg (by decide)]; omega)
    obtain ⟨e4, el2, z2, hF2⟩ := l2
    obtain ⟨s', hs'⟩ : ∃ s', s' = sI e4 25 1 1 := ⟨_, rfl⟩
    have z3 : zfr 4925250774549309901534880012517951725634967408808180833493536675530715221437151326426783281860614455100828498788352 e4 s' := by rw [hs']; exact zfr_I rfl
    have zz : zfr 14775752323647929704604640037553855176904902226424542500480610026592145664311453979280349845581843365302485697691648 s s' := zfr_tr (zfr_sub rfl z2) (zfr_sub rfl z3)
    refine ⟨s', ?_, ?_⟩
    · unfold f_130
      rw [if_pos h0, zo_of el1, zo_of el2, hs']
    · have hfp := (fps_of (s2 := s') hW (zz.i rfl) (fun q _ _ => zz.ia (c := 4) rfl rfl q) (fun k => zz.ia (c := 5) rfl rfl k)).2
      have hk : ∀ c k, kim s' c k = kim s c k := fun c k => by
        unfold kim
        rw [zz.i (c := 1) (i := 0) rfl, zz.ia (c := 4) rfl rfl]
      unfold IRk
      rw [hfp, zz.i (c := 1) (i := 8) rfl, z3.i (c := 25) (i := 2) rfl]
      simp only [hk, zz.ia (c := 7) rfl rfl, z3.ia (c := 27) rfl rfl]
      unfold FND at hF2
      rw [hn] at hF2
      exact hF2
  · rcases hR with h | h
    · exact absurd h h0
    · exact ⟨s, by unfold f_130; rw [if_neg h0], h⟩
