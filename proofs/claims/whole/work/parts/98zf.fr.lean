/-! BOTH PARSERS: what reading a token leaves as it was. -/
theorem tb8 {x : Nat} (h : x < 300) : Nat.testBit 564415675028806661060475454703247958086654665303131682794797253442875551537400558235981128304444993175552 x = false := by
  rw [show 564415675028806661060475454703247958086654665303131682794797253442875551537400558235981128304444993175552 = 63 * 2 ^ 342 by decide, Nat.testBit_mul_two_pow]
  rw [decide_eq_false (by omega), Bool.false_and]
section FRAME
variable {σ σ' τ τ' : zS} {c : Nat} {fm K len len' tk r k pl sg q : Int} {v : Wd} {S : List Fr} {D : Dn}
theorem cFr (h : zfr 564415675028806661060475454703247958086654665303131682794797253442875551537400558235981128304444993175552 σ σ') (hc : zC c = true) (j : Nat) (hj : j ≤ 7) (i : Int) : gI σ' (c + j) i = gI σ (c + j) i := by
  have hb := zC_b hc
  exact h.ia (zC_out (x := c + j) (by omega) (by omega)).1 (tb8 (by omega)) i
theorem cdoFr (h : zfr 564415675028806661060475454703247958086654665303131682794797253442875551537400558235981128304444993175552 σ σ') (hc : zC c = true) : cdo σ' c = cdo σ c := cdo_eq (fun j _ j7 k => cFr h hc j j7 k)
theorem PC.fr (hP : PC σ c fm K S len) (h : zfr 564415675028806661060475454703247958086654665303131682794797253442875551537400558235981128304444993175552 σ σ') : PC σ' c fm K S len := by
  have hc := hP.1.1
  have e0 := cFr h hc 0 (by decide)
  rw [Nat.add_zero] at e0
  refine hP.keep (h.p rfl) (h.i rfl) (h.i rfl) (h.i rfl) (h.i rfl) (fun i _ _ => ⟨h.ia (c := 11) rfl rfl i, h.ia (c := 12) rfl rfl i, h.ia (c := 13) rfl rfl i, h.ia (c := 14) rfl rfl i, h.ia (c := 15) rfl rfl i, h.ja (c := 16) rfl rfl i⟩) (e0 0) (e0 8)
theorem PMd.fr (hP : PMd τ fm S len) (h : zfr 10917387003232704608371080719052805586377350962842863135268915759251170808785374795258817452183700893722888499109428067204505534464 τ τ') : PMd τ' fm S len :=
  hP.keep (h.i rfl) (h.ia (c := 189) rfl rfl 0) (fun i _ _ => ⟨h.ia (c := 189) rfl rfl i, h.ia (c := 190) rfl rfl i, h.ia (c := 191) rfl rfl i, h.ia (c := 192) rfl rfl i, h.ia (c := 193) rfl rfl i, h.ja (c := 194) rfl rfl i⟩) (fun i _ _ => h.ia (c := 195) rfl rfl i) (by rw [h.i rfl]; exact hP.2.2.2.1) hP.2.2.2.2
theorem rcoFr (h : zfr 10917387003232704608371080719052805586377350962842863135268915759251170808785374795258817452183700893722888499109428067204505534464 τ τ') : rco τ' = rco τ := rco_eq (fun i => h.ia (c := 184) rfl rfl i) (fun i => h.ia (c := 185) rfl rfl i) (fun i => h.ia (c := 186) rfl rfl i)
theorem JA.fr (hJ : JA σ τ c fm v S len len' tk) (h : zfr 564415675028806661060475454703247958086654665303131682794797253442875551537400558235981128304444993175552 σ σ') (h' : zfr 10917387003232704608371080719052805586377350962842863135268915759251170808785374795258817452183700893722888499109428067204505534464 τ τ') : JA σ' τ' c fm v S len len' tk := by
  obtain ⟨g1, g2, g3, g4, g5, g6⟩ := hJ
  exact ⟨g1.fr h, g2.fr h', by rw [cdoFr h g1.1.1, rcoFr h']; exact g3, g4, by rw [h'.i rfl]; exact g5, g6⟩
theorem JB.fr (hJ : JB σ τ c fm v S len len' r D tk) (h : zfr 564415675028806661060475454703247958086654665303131682794797253442875551537400558235981128304444993175552 σ σ') (h' : zfr 10917387003232704608371080719052805586377350962842863135268915759251170808785374795258817452183700893722888499109428067204505534464 τ τ') : JB σ' τ' c fm v S len len' r D tk := by
  obtain ⟨g1, g2, g3, g4, g5, g6, g7, g8⟩ := hJ
  refine ⟨g1.fr h, g2.fr h', by rw [cdoFr h g1.1.1, rcoFr h']; exact g3, by rw [cdoFr h g1.1.1, rcoFr h']; exact g4, by rw [h.i rfl]; exact g5, fun h0 => ⟨(g6 h0).1, by rw [h'.i rfl]; exact (g6 h0).2⟩, fun h1 => ⟨by rw [h'.i rfl]; exact (g7 h1).1, by rw [h'.ia (c := 195) rfl rfl]; exact (g7 h1).2⟩, g8⟩
theorem JN.fr (hJ : JN σ τ c fm v k pl S len len' tk) (h : zfr 564415675028806661060475454703247958086654665303131682794797253442875551537400558235981128304444993175552 σ σ') (h' : zfr 10917387003232704608371080719052805586377350962842863135268915759251170808785374795258817452183700893722888499109428067204505534464 τ τ') : JN σ' τ' c fm v k pl S len len' tk := by
  obtain ⟨w1, w2, r, D, g1, g2, g3, g4, g5⟩ := hJ
  exact ⟨w1, w2, r, D, g1.fr h, g2.fr h', by rw [cdoFr h g1.1.1, rcoFr h']; exact g3, by rw [h'.i rfl]; exact g4, g5⟩
theorem JS.fr (hJ : JS σ τ c fm v S len len' sg tk) (h : zfr 564415675028806661060475454703247958086654665303131682794797253442875551537400558235981128304444993175552 σ σ') (h' : zfr 10917387003232704608371080719052805586377350962842863135268915759251170808785374795258817452183700893722888499109428067204505534464 τ τ') : JS σ' τ' c fm v S len len' sg tk := by
  obtain ⟨f, r, D, g1, ⟨g2, g2'⟩, ⟨g3, g3', g3''⟩, g4, g5, g6, g7⟩ := hJ
  have hn : ∀ (x : Nat) (i : Int), x ≠ 177 → gI τ' x i = gI τ x i → gI (sI τ' 177 38 (S.length + 1)) x i = gI (sI τ 177 38 (S.length + 1)) x i := fun x i hx e => by rw [gI_nc hx, gI_nc hx, e]
  refine ⟨f, r, D, g1.fr h, ⟨by rw [h.i rfl]; exact g2, g2'⟩, ⟨by rw [h'.i rfl]; exact g3, g3'.keep ?_ (hn 189 0 (by decide) (h'.ia (c := 189) rfl rfl 0)) (fun i _ _ => ⟨hn 189 i (by decide) (h'.ia (c := 189) rfl rfl i), hn 190 i (by decide) (h'.ia (c := 190) rfl rfl i), hn 191 i (by decide) (h'.ia (c := 191) rfl rfl i), hn 192 i (by decide) (h'.ia (c := 192) rfl rfl i), hn 193 i (by decide) (h'.ia (c := 193) rfl rfl i), by rw [gJ_sI, gJ_sI]; exact h'.ja (c := 194) rfl rfl i⟩) (fun i _ _ => hn 195 i (by decide) (h'.ia (c := 195) rfl rfl i)) ?_ g3'.2.2.2.2, by rw [h'.ia (c := 193) rfl rfl]; exact g3''⟩, by rw [h'.i rfl]; exact g4, by rw [cdoFr h g1.1.1, rcoFr h']; exact g5, by rw [cdoFr h g1.1.1, rcoFr h']; exact g6, g7⟩
  · have h20 := g3'.1.2
    rw [gI_same ⟨by omega, by omega⟩, gI_same ⟨by omega, by omega⟩]
  · have := g3'.2.2.2.1
    rw [gI_ni (by decide)] at this ⊢
    rw [h'.i rfl]
    exact this
theorem JX.fr (hJ : JX q σ τ c fm v tk) (h : zfr 564415675028806661060475454703247958086654665303131682794797253442875551537400558235981128304444993175552 σ σ') (h' : zfr 10917387003232704608371080719052805586377350962842863135268915759251170808785374795258817452183700893722888499109428067204505534464 τ τ') : JX q σ' τ' c fm v tk := by
  have e4 : gI σ' 10 4 = gI σ 10 4 := h.i rfl
  unfold JX
  rw [e4]
  rcases hJ with ⟨h1, S, l, l', h2, h3⟩ | ⟨h1, S, l, l', r, D, h2, h3⟩ | ⟨h1, S, l, l', D, h2, h3⟩ | ⟨h1, k, pl, S, l, l', h2, h3⟩ | ⟨h1, f, S, l, l', h2, h3⟩ | ⟨h1, S, l, l', sg, h2, h3⟩
  · exact Or.inl ⟨h1, S, l, l', h2.fr h h', h3⟩
  · exact Or.inr (Or.inl ⟨h1, S, l, l', r, D, h2.fr h h', h3⟩)
  · exact Or.inr (Or.inr (Or.inl ⟨h1, S, l, l', D, h2.fr h h', h3⟩))
  · exact Or.inr (Or.inr (Or.inr (Or.inl ⟨h1, k, pl, S, l, l', h2.fr h h', h3⟩)))
  · exact Or.inr (Or.inr (Or.inr (Or.inr (Or.inl ⟨h1, f, S, l, l', h2.fr h h', h3⟩))))
  · exact Or.inr (Or.inr (Or.inr (Or.inr (Or.inr ⟨h1, S, l, l', sg, h2.fr h h', h3⟩))))
theorem WV.fr {nm : Int → BitVec 64} {M1 M2 : Nat} (hV : WV σ τ v nm) (h : zfr M1 σ σ') (h' : zfr M2 τ τ') (e1 : Nat.testBit M1 324 = false) (e2 : Nat.testBit M1 3 = false) (e3 : Nat.testBit M1 4 = false) (e4 : Nat.testBit M2 410 = false) (e5 : Nat.testBit M2 179 = false) (e6 : Nat.testBit M2 180 = false) : WV σ' τ' v nm := by
  obtain ⟨g1, ⟨g2, g3⟩, g4⟩ := hV
  refine ⟨g1, ⟨by rw [h.i (c := 1) (i := 4) e1]; exact g2, by rw [h'.i (c := 177) (i := 10) e4]; exact g3⟩, fun i i0 i1 => ?_⟩
  obtain ⟨⟨a1, a2⟩, ⟨a3, a4⟩, a5⟩ := g4 i i0 i1
  exact ⟨⟨by rw [h.ja (c := 3) rfl e2]; exact a1, by rw [h'.ja (c := 179) rfl e5]; exact a2⟩, ⟨by rw [h.ia (c := 4) rfl e3]; exact a3, by rw [h'.ia (c := 180) rfl e6]; exact a4⟩, a5⟩
end FRAME
