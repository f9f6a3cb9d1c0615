/-! BOTH PARSERS: read, from its beginning. -/
section READ
variable {s t : zS} {c : Nat} {fm : Int} {v : Wd} {nm : Int → BitVec 64} {B : Int → Int} {l : Int}
theorem c_read0 (hc : zC c = true) (hfm : fm = 0 ∨ fm = 1) : ∃ σ0, (∀ e σ', zlp (fun (q : Int × zS) => b_73_46 q.1 q.2) zF (0, σ0) = some e → Sum.elim (fun e12 => some ((), e12)) (fun q13 => some q13) e = some ((), σ') → f_73 c fm s = some ((), σ')) ∧ PC σ0 c fm 0 [] 0 ∧ gI σ0 10 4 = 0 ∧ (gI σ0 8 2 = 0 ∧ gI σ0 8 3 = 0) ∧ (∀ x i, x ≠ 8 → x ≠ 10 → x ≠ c → gI σ0 x i = gI s x i) ∧ gI σ0 8 1 = gI s 8 1 ∧ ∀ x i, gJ σ0 x i = gJ s x i := by
  have hb := zC_b hc
  have gp : gP (sP s 10 2 c) 10 2 = c := by
    show (if (10 : Nat) = 10 then (if (2 : Int) = 2 then c else s.2.2 10 2) else s.2.2 10 2) = c
    rw [if_pos rfl, if_pos rfl]
  obtain ⟨s5, hs5⟩ : ∃ s5, s5 = sI (sI (sP s 10 2 c) c 0 0) c 8 0 := ⟨_, rfl⟩
  obtain ⟨σ0, hσ0⟩ : ∃ σ0, σ0 = sI (sI (sI (sI (sI (sI (sI s5 8 2 0) 8 3 0) 10 3 fm) 10 4 0) 10 5 0) 10 8 0) 10 15 0 := ⟨_, rfl⟩
  have e138 : f_138 c (sP s 10 2 c) = some ((), s5) := by
    unfold f_138
    rw [zg_pos hc, hs5]
  have e61 : f_61 s5 = some ((), sI (sI s5 8 2 0) 8 3 0) := rfl
  have n5 : ∀ (x : Nat) (i : Int), x ≠ c → gI s5 x i = gI s x i := fun x i hx => by rw [hs5, gI_nc hx, gI_nc hx, gI_sP]
  have n0 : ∀ (x : Nat) (i : Int), x ≠ 8 → x ≠ 10 → gI σ0 x i = gI s5 x i := fun x i h8 h10 => by rw [hσ0, gI_nc h10, gI_nc h10, gI_nc h10, gI_nc h10, gI_nc h10, gI_nc h8, gI_nc h8]
  have m8 : ∀ i : Int, gI σ0 8 i = gI (sI (sI s5 8 2 0) 8 3 0) 8 i := fun i => by rw [hσ0, gI_nc (by decide), gI_nc (by decide), gI_nc (by decide), gI_nc (by decide), gI_nc (by decide)]
  have c0 : gI σ0 c 0 = 0 := by rw [n0 c 0 (by omega) (by omega), hs5, gI_ni (by decide), gI_same (by decide)]
  have c8 : gI σ0 c 8 = 0 := by rw [n0 c 8 (by omega) (by omega), hs5, gI_same (by decide)]
  have gJ0 : ∀ x i, gJ σ0 x i = gJ s x i := fun x i => by rw [hσ0, gJ_sI, gJ_sI, gJ_sI, gJ_sI, gJ_sI, gJ_sI, gJ_sI, hs5, gJ_sI, gJ_sI, gJ_sP]
  have gp0 : gP σ0 10 2 = c := by
    have : gP σ0 10 2 = gP (sP s 10 2 c) 10 2 := by rw [hσ0, hs5]; rfl
    rw [this, gp]
  have fmz : zR fm := by rcases hfm with e | e <;> rw [e] <;> decide
  refine ⟨σ0, fun e σ' h1 h2 => ?_, ⟨⟨hc, gp0⟩, ⟨?_, hfm⟩, ⟨?_, ?_⟩, ⟨?_, by decide⟩, trivial, ⟨c0, by decide⟩, c8⟩, ?_, ⟨?_, ?_⟩, fun x i x8 x10 xc => ?_, ?_, gJ0⟩
  · unfold f_73
    rw [gp, zg_pos hc, zg_pos hc, zb_of e138, zb_of e61, zg_pos hfm, ← hσ0, zo_of h1]
    exact h2
  · rw [hσ0, gI_ni (by decide), gI_ni (by decide), gI_ni (by decide), gI_ni (by decide), gI_same fmz]
  · rw [hσ0, gI_same (by decide)]
  · rw [hσ0, gI_ni (by decide), gI_ni (by decide), gI_same (by decide)]
  · rw [hσ0, gI_ni (by decide), gI_same (by decide)]
    rfl
  · rw [hσ0, gI_ni (by decide), gI_ni (by decide), gI_ni (by decide), gI_same (by decide)]
  · rw [m8, gI_ni (by decide), gI_same (by decide)]
  · rw [m8, gI_same (by decide)]
  · rw [n0 x i x8 x10, n5 x i xc]
  · rw [m8, gI_ni (by decide), gI_ni (by decide), n5 8 1 (by omega)]
theorem m_read0 (hfm : fm = 0 ∨ fm = 1) : ∃ τ0, (∀ g F τ', zlp (fun (q : Int × zS) => b_157_56 q.1 q.2) zF (if fm = 1 then 0 else 1, τ0) = some g → Sum.elim (fun e3 : Int × zS => zg (zR (e3.1 - 100)) (if (e3.1 - 100) = 3 then (if (gI e3.2 177 27) = 0 then (some (2, e3.2)) else (some ((e3.1 - 100), e3.2))) else (some ((e3.1 - 100), e3.2)))) (fun q4 => some q4) g = some (F, τ') → f_157 fm t = some (F, τ')) ∧ PMd τ0 fm [] 0 ∧ gI τ0 177 40 = 0 ∧ (gI τ0 177 26 = 0 ∧ gI τ0 177 31 = 0) ∧ zfr 9233856540701726237039737487629013446100659347587524137997437778315631024200854758896484875343899180390228540281705381931834771767296 t τ0 := by
  obtain ⟨t1, ht1⟩ : ∃ t1, t1 = sI (sI (sI (sI (sI (sI t 177 26 0) 177 31 0) 177 38 0) 177 40 0) 177 41 0) 177 28 0 := ⟨_, rfl⟩
  obtain ⟨X, hX⟩ : ∃ X : Int, X = if fm = 1 then 60 else 61 := ⟨_, rfl⟩
  have hXz : zR X := by rw [hX]; split <;> decide
  have e38 : gI t1 177 38 = 0 := by rw [ht1, gI_ni (by decide), gI_ni (by decide), gI_ni (by decide), gI_same (by decide)]
  have e41 : gI t1 177 41 = 0 := by rw [ht1, gI_ni (by decide), gI_same (by decide)]
  have e28 : gI t1 177 28 = 0 := by rw [ht1, gI_same (by decide)]
  have e26 : gI t1 177 26 = 0 := by rw [ht1, gI_ni (by decide), gI_ni (by decide), gI_ni (by decide), gI_ni (by decide), gI_ni (by decide), gI_same (by decide)]
  have e31 : gI t1 177 31 = 0 := by rw [ht1, gI_ni (by decide), gI_ni (by decide), gI_ni (by decide), gI_ni (by decide), gI_same (by decide)]
  have e40 : gI t1 177 40 = 0 := by rw [ht1, gI_ni (by decide), gI_ni (by decide), gI_same (by decide)]
  have z1 : zfr 9233856540701726237039737487629013446100659347587524137997437778315631024200854758896484875343899180390228540281705381931834771767296 t t1 := by
    rw [ht1]
    exact zfr_sI (zfr_sI (zfr_sI (zfr_sI (zfr_sI (zfr_sI (zfr_rf _ _) rfl) rfl) rfl) rfl) rfl) rfl
  obtain ⟨τ0, hτ0⟩ : ∃ τ0, f_158 X 0 t1 = some ((), τ0) := by
    unfold f_158
    rw [e38, zg_pos (by decide)]
    exact ⟨_, rfl⟩
  have z2 : zfr 709803441694928604052074031140629428079727891296209043243642772637343054847672335664403558977866573700692523032925363513371656192000 t1 τ0 := fr_158 hτ0
  have d38 : gI τ0 177 38 = 1 := by
    have h := hτ0
    unfold f_158 at h
    rw [e38, zg_pos (by decide)] at h
    injection h with h
    injection h with _ h
    rw [← h, gI_same (by decide)]
    rfl
  have d0 : gI τ0 189 0 = X := by
    have h := hτ0
    unfold f_158 at h
    rw [e38, zg_pos (by decide)] at h
    injection h with h
    injection h with _ h
    rw [← h, gI_nc (by decide), gI_sJ, gI_nc (by decide), gI_nc (by decide), gI_nc (by decide), gI_nc (by decide), gI_same hXz]
  refine ⟨τ0, fun g F τ' h1 h2 => ?_, ⟨⟨by rw [d38]; rfl, by decide⟩, by rw [d0, hX], trivial, by rw [z2.i rfl]; exact e41, by decide⟩, by rw [z2.i rfl]; exact e40, ⟨by rw [z2.i rfl]; exact e26, by rw [z2.i rfl]; exact e31⟩, zfr_tr z1 (zfr_sub rfl z2)⟩
  have e55 : j_157_55 (if fm = 1 then 0 else 1) τ0 = some (F, τ') := by
    unfold j_157_55
    rw [zo_of h1]
    exact h2
  have e42 : j_157_42 fm X t1 = some (F, τ') := by
    unfold j_157_42
    rw [zb_of hτ0]
    rcases hfm with e | e
    · rw [e] at e55 ⊢
      rw [zg_pos (by decide), if_pos rfl]
      exact e55
    · rw [e] at e55 ⊢
      rw [zg_pos (by decide), if_neg (by decide)]
      exact e55
  unfold f_157
  rcases hfm with e | e
  · rw [e] at e42 hX ⊢
    rw [zg_pos (by decide), if_pos rfl, ← ht1]
    rw [if_neg (by decide)] at hX
    rw [← hX]
    exact e42
  · rw [e] at e42 hX ⊢
    rw [zg_pos (by decide), if_neg (by decide), ← ht1]
    rw [if_pos rfl] at hX
    rw [← hX]
    exact e42
/-- both read a whole text -/
theorem prs (hc : zC c = true) (hfm : fm = 0 ∨ fm = 1) (hB : TB B l) (hCT : CT s B l) (hMT : MT t B l) (hV : WV s t v nm) (hn : 1 ≤ v.n ∧ v.n ≤ 5) (hK : v.K = 0) : ∃ σ' τ' F, f_73 c fm s = some ((), σ') ∧ f_157 fm t = some (F, τ') ∧ PRS σ' τ' c fm F v := by
  have hb := zC_b hc
  obtain ⟨σ0, a1, a2, a3, a4, a5, a6, a7⟩ := c_read0 (s := s) hc hfm
  obtain ⟨τ0, b1, b2, b3, b4, b5⟩ := m_read0 (t := t) hfm
  have hJ : JX (if fm = 1 then 0 else 1) σ0 τ0 c fm v 0 := by
    refine Or.inl ⟨by split <;> omega, [], 0, 0, ⟨by rw [hK]; exact a2, b2, trivial, ⟨rfl, rfl⟩, b3, ⟨by decide, by decide, by decide⟩, by omega, hn⟩, a3, ?_⟩
    show (if fm = 1 then (0 : Int) else 1) = 0 ↔ fm = 1
    by_cases h1 : fm = 1
    · rw [if_pos h1]; exact ⟨fun _ => h1, fun _ => rfl⟩
    · rw [if_neg h1]; exact ⟨fun h => by omega, fun h => absurd h h1⟩
  have hCT0 : CT σ0 B l := hCT.of a6 (fun i => a5 9 i (by decide) (by decide) (by omega))
  have hMT0 : MT τ0 B l := hMT.of (b5.i rfl) (fun i => b5.ia (c := 178) rfl rfl i)
  have hV0 : WV σ0 τ0 v nm := by
    obtain ⟨g1, ⟨g2, g3⟩, g4⟩ := hV
    refine ⟨g1, ⟨by rw [a5 1 4 (by decide) (by decide) (by omega)]; exact g2, by rw [b5.i rfl]; exact g3⟩, fun i i0 i1 => ?_⟩
    obtain ⟨⟨x1, x2⟩, ⟨x3, x4⟩, x5⟩ := g4 i i0 i1
    exact ⟨⟨by rw [a7]; exact x1, by rw [b5.ja (c := 179) rfl rfl]; exact x2⟩, ⟨by rw [a5 4 i (by decide) (by decide) (by omega)]; exact x3, by rw [b5.ia (c := 180) rfl rfl]; exact x4⟩, x5⟩
  obtain ⟨σ', τ', F, e, g, d1, d2, d3, d4, d5⟩ := prs_loop (c := c) (fm := fm) (nm := nm) hB 200 σ0 τ0 v 0 (if fm = 1 then 0 else 1) 0 0 (by decide) (by decide) (by decide) (by decide) hJ a2.2.2.1.1 a2.2.2.1.2 hV0 hCT0 hMT0 a4.1 b4.1 (by decide) hB.1 a4.2 b4.2 (by decide)
  exact ⟨σ', τ', F, a1 e σ' (d1.F (by decide)) d2, b1 g F τ' (d3.F (by decide)) d4, d5⟩
end READ
