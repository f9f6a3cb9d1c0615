/-! THE CLASS'S PARSER: single steps. -/
/-- the class while it reads: its code c has len instructions and K memos -/
def PC (σ : zS) (c : Nat) (fm K : Int) (S : List Fr) (len : Int) : Prop :=
  (zC c = true ∧ gP σ 10 2 = c) ∧ (gI σ 10 3 = fm ∧ (fm = 0 ∨ fm = 1)) ∧ (gI σ 10 15 = 0 ∧ gI σ 10 5 = 0) ∧ (gI σ 10 8 = S.length ∧ S.length ≤ 20) ∧ CFr σ S ∧ (gI σ c 0 = len ∧ 0 ≤ len) ∧ gI σ c 8 = K
/-- one instruction more -/
def cAdd (σ σ' : zS) (c : Nat) (len op arg sg : Int) : Prop := (∀ k, k < len → cdE (cdo σ c) (cdo σ' c) k) ∧ (cdo σ' c).op len = op ∧ (cdo σ' c).arg len = arg ∧ (cdo σ' c).sg len = sg ∧ (cdo σ' c).us len = 0 ∧ (cdo σ' c).mm len = -1
theorem cdo_eq {σ σ' : zS} {c : Nat} (h : ∀ j : Nat, 1 ≤ j → j ≤ 7 → ∀ k, gI σ' (c + j) k = gI σ (c + j) k) : cdo σ' c = cdo σ c := by
  unfold cdo
  simp only [h 1 (by decide) (by decide), h 2 (by decide) (by decide), h 3 (by decide) (by decide), h 4 (by decide) (by decide), h 5 (by decide) (by decide), h 6 (by decide) (by decide), h 7 (by decide) (by decide)]
  rfl
theorem cdE.rf (cd : Cd) (k : Int) : cdE cd cd k := ⟨rfl, rfl, rfl, rfl, rfl, rfl, rfl⟩
theorem cdE.of {σ σ' : zS} {c : Nat} {k : Int} (h : ∀ j : Nat, 1 ≤ j → j ≤ 7 → gI σ' (c + j) k = gI σ (c + j) k) : cdE (cdo σ c) (cdo σ' c) k := ⟨h 1 (by decide) (by decide), h 2 (by decide) (by decide), h 3 (by decide) (by decide), h 4 (by decide) (by decide), h 5 (by decide) (by decide), h 6 (by decide) (by decide), h 7 (by decide) (by decide)⟩
section CSTEP
variable {σ : zS} {c : Nat} {fm K len : Int} {S : List Fr} {f : Fr}
theorem PC.c29 (h : PC σ c fm K S len) : 29 ≤ c ∧ c ≤ 165 := zC_b h.1.1
theorem PC.top (h : PC σ c fm K (f :: S) len) : gI σ 10 8 = S.length + 1 ∧ S.length < 20 ∧ FC σ S.length f ∧ (f.p ≠ 0 → gJ σ 16 S.length = f.nm) := by
  obtain ⟨-, -, -, ⟨h1, h2⟩, ⟨-, h3, h4⟩, -⟩ := h
  rw [List.length_cons] at h1 h2
  exact ⟨by omega, by omega, h3, h4⟩
/-- code.add through the parser's own reference -/
theorem c_padd {op arg sg : Int} (h : PC σ c fm K S len) (l1 : len < 200) (h1 : zR op) (h2 : zR arg) (h3 : zR sg) : ∃ σ', f_139 c op arg sg σ = some (len, σ') ∧ oC c σ σ' ∧ PC σ' c fm K S (len + 1) ∧ cAdd σ σ' c len op arg sg := by
  obtain ⟨g1, g2, g3, g4, g5, g6, g7⟩ := h
  have hb := zC_b g1.1
  obtain ⟨σ', a1, a2, a3, a4, a5, a6, a7, a8, -, -, a11, a12⟩ := c_add g1.1 g6.1 g6.2 l1 h1 h2 h3
  have e10 : ∀ i, gI σ' 10 i = gI σ 10 i := fun i => a2.i (Or.inl (by omega)) i
  refine ⟨σ', a1, a2, ⟨⟨g1.1, by rw [a2.p]; exact g1.2⟩, ⟨by rw [e10]; exact g2.1, g2.2⟩, ⟨by rw [e10]; exact g3.1, by rw [e10]; exact g3.2⟩, ⟨by rw [e10]; exact g4.1, g4.2⟩, g5.up (fun i _ _ => ⟨a2.i (Or.inl (by omega)) i, a2.i (Or.inl (by omega)) i, a2.i (Or.inl (by omega)) i, a2.i (Or.inl (by omega)) i, a2.i (Or.inl (by omega)) i, a2.j 16 i⟩), ⟨a3, by omega⟩, by rw [a4]; exact g7⟩, ⟨fun k hk => cdE.of (fun j j1 j7 => a5 j j1 j7 k (by omega)), a6, a7, a8, a11, a12⟩⟩
/-- what stays when ints of the parser itself are set -/
theorem PC.keep {σ' : zS} (h : PC σ c fm K S len) (hp : gP σ' 10 2 = gP σ 10 2) (e3 : gI σ' 10 3 = gI σ 10 3) (e15 : gI σ' 10 15 = gI σ 10 15) (e5 : gI σ' 10 5 = gI σ 10 5) (e8 : gI σ' 10 8 = gI σ 10 8) (hs : ∀ i : Int, 0 ≤ i → i < S.length → gI σ' 11 i = gI σ 11 i ∧ gI σ' 12 i = gI σ 12 i ∧ gI σ' 13 i = gI σ 13 i ∧ gI σ' 14 i = gI σ 14 i ∧ gI σ' 15 i = gI σ 15 i ∧ gJ σ' 16 i = gJ σ 16 i) (hc0 : gI σ' c 0 = gI σ c 0) (hc8 : gI σ' c 8 = gI σ c 8) : PC σ' c fm K S len := by
  obtain ⟨g1, g2, g3, g4, g5, g6, g7⟩ := h
  exact ⟨⟨g1.1, by rw [hp]; exact g1.2⟩, ⟨by rw [e3]; exact g2.1, g2.2⟩, ⟨by rw [e15]; exact g3.1, by rw [e5]; exact g3.2⟩, ⟨by rw [e8]; exact g4.1, g4.2⟩, g5.up hs, ⟨by rw [hc0]; exact g6.1, g6.2⟩, by rw [hc8]; exact g7⟩
theorem c_refuse {why pl : Int} (h1 : zR why) (h2 : zR pl) : ∃ σ', f_74 why pl σ = some ((), σ') ∧ gI σ' 10 15 = why ∧ gI σ' 10 16 = pl := by
  unfold f_74
  exact ⟨_, rfl, by rw [gI_ni (by decide)]; exact gI_same h1, gI_same h2⟩
theorem c_refuseToken {k pl : Int} (hk : gI σ 8 4 = k) (hp : gI σ 8 5 = pl) : ∃ σ', f_83 σ = some ((), σ') ∧ gI σ' 10 15 = (if k = 0 then 2 else 3) ∧ gI σ' 10 16 = pl := by
  have hz : zR pl := by rw [← hp]; exact zR_gI _ _ _
  unfold f_83
  rw [hk, hp]
  by_cases h0 : k = 0
  · obtain ⟨σ', a1, a2, a3⟩ := c_refuse (σ := σ) (why := 2) (by decide) hz
    rw [if_pos h0, zb_of a1, if_pos h0]
    exact ⟨σ', rfl, a2, a3⟩
  · obtain ⟨σ', a1, a2, a3⟩ := c_refuse (σ := σ) (why := 3) (by decide) hz
    rw [if_neg h0, zb_of a1, if_neg h0]
    exact ⟨σ', rfl, a2, a3⟩
/-- an operand of one instruction -/
theorem c_operand {op arg ar : Int} (h : PC σ c fm K S len) (l1 : len < 200) (h1 : zR op) (h2 : zR arg) (h3 : zR ar) : ∃ σ', f_79 op arg ar σ = some ((), σ') ∧ PC σ' c fm K S (len + 1) ∧ cAdd σ σ' c len op arg 0 ∧ gI σ' 10 6 = ar ∧ gI σ' 10 4 = 4 := by
  have hb := h.c29
  obtain ⟨σ1, a1, a2, a3, a4⟩ := c_padd h l1 h1 h2 (show zR 0 by decide)
  have e80 : f_80 ar σ1 = some ((), sI (sI σ1 10 6 ar) 10 4 4) := rfl
  have hcd : cdo (sI (sI σ1 10 6 ar) 10 4 4) c = cdo σ1 c := cdo_eq (fun j j1 j7 k => by rw [gI_nc (by omega), gI_nc (by omega)])
  refine ⟨sI (sI σ1 10 6 ar) 10 4 4, ?_, a3.keep rfl (by rw [gI_ni (by decide), gI_ni (by decide)]) (by rw [gI_ni (by decide), gI_ni (by decide)]) (by rw [gI_ni (by decide), gI_ni (by decide)]) (by rw [gI_ni (by decide), gI_ni (by decide)]) (fun i _ _ => ⟨by rw [gI_nc (by decide), gI_nc (by decide)], by rw [gI_nc (by decide), gI_nc (by decide)], by rw [gI_nc (by decide), gI_nc (by decide)], by rw [gI_nc (by decide), gI_nc (by decide)], by rw [gI_nc (by decide), gI_nc (by decide)], rfl⟩) (by rw [gI_nc (by omega), gI_nc (by omega)]) (by rw [gI_nc (by omega), gI_nc (by omega)]), ?_, ?_, gI_same (by decide)⟩
  · unfold f_79
    rw [h.1.2, zg_pos h.1.1, zb_of a1, zb_of e80]
  · unfold cAdd
    rw [hcd]
    exact a4
  · rw [gI_ni (by decide)]
    exact gI_same h3
/-- something is opened that is no connective -/
theorem c_open {k pl r : Int} {nm : BitVec 64} {D : Dn} {ra : Int} (h : PC σ c fm K S len) (hS : S.length < 20) (hk : zR k) (hk2 : k ≠ 10 ∧ k ≠ 11 ∧ k ≠ 12) (hp : gI σ 8 5 = pl) (hr : gI σ 10 6 = r) {ca ce re : Int} : ∃ σ', f_76 k σ = some (1, σ') ∧ PC σ' c fm K (mkF k 0 pl nm r D ca ce ra re :: S) len ∧ cdo σ' c = cdo σ c ∧ gI σ' 10 6 = r ∧ gI σ' 10 4 = 0 := by
  have hb := h.c29
  obtain ⟨g1, g2, g3, g4, g5, g6, g7⟩ := h
  have hz : zR pl := by rw [← hp]; exact zR_gI _ _ _
  have hrz : zR r := by rw [← hr]; exact zR_gI _ _ _
  have h21 : f_21 k = some 0 := by
    unfold f_21
    rw [zg_pos hk, if_neg hk2.1, if_neg hk2.2.1, if_neg hk2.2.2]
  have n : ∀ (x y : Nat) (t : zS) (i j v : Int), x ≠ y → gI (sI t y j v) x i = gI t x i := fun x y t i j v hxy => gI_nc hxy
  refine ⟨sI (sI (sI (sI (sI (sI (sI σ 11 S.length k) 12 S.length 0) 13 S.length pl) 14 S.length r) 15 S.length (-1)) 10 8 (S.length + 1)) 10 4 0, ?_, ⟨⟨g1.1, g1.2⟩, ⟨?_, g2.2⟩, ⟨?_, ?_⟩, ⟨?_, ?_⟩, ⟨?_, ⟨?_, ?_, ?_, ?_, ?_, ?_⟩, ?_⟩, ⟨?_, g6.2⟩, ?_⟩, ?_, ?_, gI_same (by decide)⟩
  · unfold f_76
    rw [g4.1, if_pos (by omega), zg_pos ⟨by omega, by omega⟩, zo_of h21, zg_pos (by decide), if_pos rfl, hp, hr]
  · rw [gI_ni (by decide), gI_ni (by decide), n 10 15 _ _ _ _ (by decide), n 10 14 _ _ _ _ (by decide), n 10 13 _ _ _ _ (by decide), n 10 12 _ _ _ _ (by decide), n 10 11 _ _ _ _ (by decide)]
    exact g2.1
  · rw [gI_ni (by decide), gI_ni (by decide), n 10 15 _ _ _ _ (by decide), n 10 14 _ _ _ _ (by decide), n 10 13 _ _ _ _ (by decide), n 10 12 _ _ _ _ (by decide), n 10 11 _ _ _ _ (by decide)]
    exact g3.1
  · rw [gI_ni (by decide), gI_ni (by decide), n 10 15 _ _ _ _ (by decide), n 10 14 _ _ _ _ (by decide), n 10 13 _ _ _ _ (by decide), n 10 12 _ _ _ _ (by decide), n 10 11 _ _ _ _ (by decide)]
    exact g3.2
  · rw [gI_ni (by decide), gI_same ⟨by omega, by omega⟩, List.length_cons]
    omega
  · rw [List.length_cons]; omega
  · refine g5.up (fun i i0 i1 => ⟨?_, ?_, ?_, ?_, ?_, rfl⟩)
    · rw [n 11 10 _ _ _ _ (by decide), n 11 10 _ _ _ _ (by decide), n 11 15 _ _ _ _ (by decide), n 11 14 _ _ _ _ (by decide), n 11 13 _ _ _ _ (by decide), n 11 12 _ _ _ _ (by decide), gI_ni (by omega)]
    · rw [n 12 10 _ _ _ _ (by decide), n 12 10 _ _ _ _ (by decide), n 12 15 _ _ _ _ (by decide), n 12 14 _ _ _ _ (by decide), n 12 13 _ _ _ _ (by decide), gI_ni (by omega), n 12 11 _ _ _ _ (by decide)]
    · rw [n 13 10 _ _ _ _ (by decide), n 13 10 _ _ _ _ (by decide), n 13 15 _ _ _ _ (by decide), n 13 14 _ _ _ _ (by decide), gI_ni (by omega), n 13 12 _ _ _ _ (by decide), n 13 11 _ _ _ _ (by decide)]
    · rw [n 14 10 _ _ _ _ (by decide), n 14 10 _ _ _ _ (by decide), n 14 15 _ _ _ _ (by decide), gI_ni (by omega), n 14 13 _ _ _ _ (by decide), n 14 12 _ _ _ _ (by decide), n 14 11 _ _ _ _ (by decide)]
    · rw [n 15 10 _ _ _ _ (by decide), n 15 10 _ _ _ _ (by decide), gI_ni (by omega), n 15 14 _ _ _ _ (by decide), n 15 13 _ _ _ _ (by decide), n 15 12 _ _ _ _ (by decide), n 15 11 _ _ _ _ (by decide)]
  · show gI _ 11 S.length = k
    rw [n 11 10 _ _ _ _ (by decide), n 11 10 _ _ _ _ (by decide), n 11 15 _ _ _ _ (by decide), n 11 14 _ _ _ _ (by decide), n 11 13 _ _ _ _ (by decide), n 11 12 _ _ _ _ (by decide), gI_same hk]
  · show gI _ 12 S.length = 0
    rw [n 12 10 _ _ _ _ (by decide), n 12 10 _ _ _ _ (by decide), n 12 15 _ _ _ _ (by decide), n 12 14 _ _ _ _ (by decide), n 12 13 _ _ _ _ (by decide), gI_same (by decide)]
  · show gI _ 13 S.length = pl
    rw [n 13 10 _ _ _ _ (by decide), n 13 10 _ _ _ _ (by decide), n 13 15 _ _ _ _ (by decide), n 13 14 _ _ _ _ (by decide), gI_same hz]
  · intro _ _
    show gI _ 14 S.length = r
    rw [n 14 10 _ _ _ _ (by decide), n 14 10 _ _ _ _ (by decide), n 14 15 _ _ _ _ (by decide), gI_same hrz]
  · intro _ x1 x2
    have y1 : 10 ≤ k := x1
    have y2 : k ≤ 12 := x2
    omega
  · intro hp0
    exact absurd rfl hp0
  · intro hp0
    exact absurd rfl hp0
  · rw [gI_nc (by omega), gI_nc (by omega), gI_nc (by omega), gI_nc (by omega), gI_nc (by omega), gI_nc (by omega), gI_nc (by omega)]
    exact g6.1
  · rw [gI_nc (by omega), gI_nc (by omega), gI_nc (by omega), gI_nc (by omega), gI_nc (by omega), gI_nc (by omega), gI_nc (by omega)]
    exact g7
  · exact cdo_eq (fun j j1 j7 k => by rw [gI_nc (by omega), gI_nc (by omega), gI_nc (by omega), gI_nc (by omega), gI_nc (by omega), gI_nc (by omega), gI_nc (by omega)])
  · rw [gI_ni (by decide), gI_ni (by decide), n 10 15 _ _ _ _ (by decide), n 10 14 _ _ _ _ (by decide), n 10 13 _ _ _ _ (by decide), n 10 12 _ _ _ _ (by decide), n 10 11 _ _ _ _ (by decide)]
    exact hr
theorem c_openFull {k pl : Int} (h : PC σ c fm K S len) (hS : S.length = 20) (hp : gI σ 8 5 = pl) : ∃ σ', f_76 k σ = some (0, σ') ∧ gI σ' 10 15 = 6 ∧ gI σ' 10 16 = pl := by
  have hz : zR pl := by rw [← hp]; exact zR_gI _ _ _
  obtain ⟨σ', a1, a2, a3⟩ := c_refuse (σ := σ) (why := 6) (by decide) hz
  refine ⟨σ', ?_, a2, a3⟩
  unfold f_76
  rw [h.2.2.2.1.1, if_neg (by omega), hp, zb_of a1]
end CSTEP
