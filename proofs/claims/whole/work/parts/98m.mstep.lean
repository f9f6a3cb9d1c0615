/-! THE REFERENCE'S PARSER: single steps. -/
/-- the code that is being laid -/
def rco (τ : zS) : Rc := (fun k => gI τ 184 (5440 + k), fun k => gI τ 185 (5440 + k), fun k => gI τ 186 (5440 + k))
def PMd (τ : zS) (fm : Int) (S : List Fr) (len : Int) : Prop := (gI τ 177 38 = S.length + 1 ∧ S.length ≤ 20) ∧ gI τ 189 0 = (if fm = 1 then 60 else 61) ∧ MFr τ S ∧ (gI τ 177 41 = len ∧ 0 ≤ len)
def mAdd (τ τ' : zS) (len op a b : Int) : Prop := (∀ k, k ≠ len → rcE (rco τ) (rco τ') k) ∧ (rco τ').1 len = op ∧ (rco τ').2.1 len = a ∧ (rco τ').2.2 len = b
/-- what is not written -/
def mSame (τ τ' : zS) : Prop := (∀ x i, x ≠ 184 → x ≠ 185 → x ≠ 186 → (x = 177 → i ≠ 41) → gI τ' x i = gI τ x i) ∧ ∀ x i, gJ τ' x i = gJ τ x i
theorem rcE.rf (rc : Rc) (k : Int) : rcE rc rc k := ⟨rfl, rfl, rfl⟩
theorem rco_eq {τ τ' : zS} (h4 : ∀ i, gI τ' 184 i = gI τ 184 i) (h5 : ∀ i, gI τ' 185 i = gI τ 185 i) (h6 : ∀ i, gI τ' 186 i = gI τ 186 i) : rco τ' = rco τ := by
  unfold rco
  simp only [h4, h5, h6]
section MSTEP
variable {τ : zS} {fm len : Int} {S : List Fr} {f : Fr}
theorem m_lay {op a b : Int} (hl : gI τ 177 41 = len) (l0 : 0 ≤ len) (l1 : len < 320) (h1 : zR op) (h2 : zR a) (h3 : zR b) : ∃ τ', f_172 op a b τ = some ((), τ') ∧ gI τ' 177 41 = len + 1 ∧ mAdd τ τ' len op a b ∧ mSame τ τ' := by
  refine ⟨sI (sI (sI (sI τ 184 (5440 + len) op) 185 (5440 + len) a) 186 (5440 + len) b) 177 41 (len + 1), ?_, gI_same ⟨by omega, by omega⟩, ⟨fun k hk => ⟨?_, ?_, ?_⟩, ?_, ?_, ?_⟩, fun x i x4 x5 x6 x7 => ?_, fun x i => rfl⟩
  · unfold f_172
    rw [hl, zg_pos ⟨by omega, by omega⟩]
  · show gI _ 184 (5440 + k) = gI τ 184 (5440 + k)
    rw [gI_nc (by decide), gI_nc (by decide), gI_nc (by decide), gI_ni (by omega)]
  · show gI _ 185 (5440 + k) = gI τ 185 (5440 + k)
    rw [gI_nc (by decide), gI_nc (by decide), gI_ni (by omega), gI_nc (by decide)]
  · show gI _ 186 (5440 + k) = gI τ 186 (5440 + k)
    rw [gI_nc (by decide), gI_ni (by omega), gI_nc (by decide), gI_nc (by decide)]
  · show gI _ 184 (5440 + len) = op
    rw [gI_nc (by decide), gI_nc (by decide), gI_nc (by decide), gI_same h1]
  · show gI _ 185 (5440 + len) = a
    rw [gI_nc (by decide), gI_nc (by decide), gI_same h2]
  · show gI _ 186 (5440 + len) = b
    rw [gI_nc (by decide), gI_same h3]
  · by_cases h7 : x = 177
    · rw [h7, gI_ni (x7 h7), gI_nc (by decide), gI_nc (by decide), gI_nc (by decide)]
    · rw [gI_nc h7, gI_nc x6, gI_nc x5, gI_nc x4]
theorem PMd.keep {τ' : zS} {len' : Int} (h : PMd τ fm S len) (e38 : gI τ' 177 38 = gI τ 177 38) (e0 : gI τ' 189 0 = gI τ 189 0) (hs : ∀ i : Int, 1 ≤ i → i ≤ S.length → gI τ' 189 i = gI τ 189 i ∧ gI τ' 190 i = gI τ 190 i ∧ gI τ' 191 i = gI τ 191 i ∧ gI τ' 192 i = gI τ 192 i ∧ gI τ' 193 i = gI τ 193 i ∧ gJ τ' 194 i = gJ τ 194 i) (hj : ∀ i : Int, 0 ≤ i → i < jn S → gI τ' 195 i = gI τ 195 i) (e41 : gI τ' 177 41 = len') (l0 : 0 ≤ len') : PMd τ' fm S len' := by
  obtain ⟨g1, g2, g3, g4⟩ := h
  exact ⟨⟨by rw [e38]; exact g1.1, g1.2⟩, by rw [e0]; exact g2, g3.up hs hj, e41, l0⟩
theorem PMd.same {τ' : zS} {len' : Int} (h : PMd τ fm S len) (hm : mSame τ τ') (e41 : gI τ' 177 41 = len') (l0 : 0 ≤ len') : PMd τ' fm S len' :=
  h.keep (hm.1 177 38 (by decide) (by decide) (by decide) (fun _ => by decide)) (hm.1 189 0 (by decide) (by decide) (by decide) (fun h => absurd h (by decide))) (fun i _ _ => ⟨hm.1 189 i (by decide) (by decide) (by decide) (fun h => absurd h (by decide)), hm.1 190 i (by decide) (by decide) (by decide) (fun h => absurd h (by decide)), hm.1 191 i (by decide) (by decide) (by decide) (fun h => absurd h (by decide)), hm.1 192 i (by decide) (by decide) (by decide) (fun h => absurd h (by decide)), hm.1 193 i (by decide) (by decide) (by decide) (fun h => absurd h (by decide)), hm.2 194 i⟩) (fun i _ _ => hm.1 195 i (by decide) (by decide) (by decide) (fun h => absurd h (by decide))) e41 l0
theorem PMd.top (h : PMd τ fm (f :: S) len) : gI τ 177 38 = S.length + 2 ∧ S.length < 20 ∧ MFr τ S ∧ FM τ S f ∧ (f.p ≠ 0 → gJ τ 194 (S.length + 1) = f.nm) := by
  obtain ⟨⟨g1, g1'⟩, g2, ⟨g3, g4, g5⟩, -⟩ := h
  rw [List.length_cons] at g1 g1'
  exact ⟨by omega, by omega, g3, g4, g5⟩
theorem jn_cons_J (h : isJ f) : jn (f :: S) = jn S + 1 := by rw [jn, if_pos h]
theorem jn_cons_N (h : ¬ isJ f) : jn (f :: S) = jn S := by rw [jn, if_neg h]; omega
theorem jn_cons_le : jn S ≤ jn (f :: S) := by rw [jn]; split <;> omega
theorem PMd.push {τ' : zS} {len' : Int} (h : PMd τ fm S len) (hS : S.length < 20) (e38 : gI τ' 177 38 = S.length + 2) (e0 : gI τ' 189 0 = gI τ 189 0) (hs : ∀ i : Int, 1 ≤ i → i ≤ S.length → gI τ' 189 i = gI τ 189 i ∧ gI τ' 190 i = gI τ 190 i ∧ gI τ' 191 i = gI τ 191 i ∧ gI τ' 192 i = gI τ 192 i ∧ gI τ' 193 i = gI τ 193 i ∧ gJ τ' 194 i = gJ τ 194 i) (hj : ∀ i : Int, 0 ≤ i → i < jn S → gI τ' 195 i = gI τ 195 i) (hf : FM τ' S f) (hn : f.p ≠ 0 → gJ τ' 194 (S.length + 1) = f.nm) (e41 : gI τ' 177 41 = len') (l0 : 0 ≤ len') : PMd τ' fm (f :: S) len' := by
  obtain ⟨g1, g2, g3, g4⟩ := h
  exact ⟨⟨by rw [e38, List.length_cons]; omega, by rw [List.length_cons]; omega⟩, by rw [e0]; exact g2, ⟨g3.up hs hj, hf, hn⟩, e41, l0⟩
theorem PMd.pop {τ' : zS} {len' : Int} (h : PMd τ fm (f :: S) len) (e38 : gI τ' 177 38 = S.length + 1) (e0 : gI τ' 189 0 = gI τ 189 0) (hs : ∀ i : Int, 1 ≤ i → i ≤ S.length → gI τ' 189 i = gI τ 189 i ∧ gI τ' 190 i = gI τ 190 i ∧ gI τ' 191 i = gI τ 191 i ∧ gI τ' 192 i = gI τ 192 i ∧ gI τ' 193 i = gI τ 193 i ∧ gJ τ' 194 i = gJ τ 194 i) (hj : ∀ i : Int, 0 ≤ i → i < jn S → gI τ' 195 i = gI τ 195 i) (e41 : gI τ' 177 41 = len') (l0 : 0 ≤ len') : PMd τ' fm S len' := by
  have ht := h.top
  obtain ⟨g1, g2, g3, g4⟩ := h
  exact ⟨⟨e38, by omega⟩, by rw [e0]; exact g2, g3.1.up hs hj, e41, l0⟩
/-- the last of what is open -/
theorem m_last (h : PMd τ fm (f :: S) len) : f_178 τ = some (mkd f) := by
  obtain ⟨t38, t20, -, ⟨t1, -⟩, -⟩ := h.top
  unfold f_178
  rw [t38, show (S.length : Int) + 2 - 1 = S.length + 1 by omega, zg_pos ⟨by omega, by omega⟩, t1]
theorem m_last0 (h : PMd τ fm [] len) : f_178 τ = some (if fm = 1 then 60 else 61) := by
  obtain ⟨⟨g1, -⟩, g2, -⟩ := h
  unfold f_178
  rw [g1, show ((List.length ([] : List Fr) : Nat) : Int) + 1 - 1 = 0 from rfl, zg_pos (by decide), g2]
/-- something is opened -/
theorem m_push {what word pl : Int} {w : BitVec 64} (h : PMd τ fm S len) (hS : S.length < 20) (hp : gI τ 177 28 = pl) (hw : gJ τ 177 29 = w) (h1 : zR what) (h2 : zR word) (l1 : len < 1000) : ∃ τ', f_158 what word τ = some ((), τ') ∧ gI τ' 177 38 = S.length + 2 ∧ gI τ' 189 (S.length + 1) = what ∧ gI τ' 190 (S.length + 1) = pl ∧ gI τ' 191 (S.length + 1) = 0 ∧ gI τ' 192 (S.length + 1) = len ∧ gI τ' 193 (S.length + 1) = word ∧ gJ τ' 194 (S.length + 1) = w ∧ (∀ x i, (x = 189 ∨ x = 190 ∨ x = 191 ∨ x = 192 ∨ x = 193 → i ≠ (S.length : Int) + 1) → (x = 177 → i ≠ 38) → gI τ' x i = gI τ x i) ∧ ∀ x i, (x = 194 → i ≠ (S.length : Int) + 1) → gJ τ' x i = gJ τ x i := by
  have hz : zR pl := by rw [← hp]; exact zR_gI _ _ _
  obtain ⟨⟨g1, g1'⟩, g2, g3, g4⟩ := h
  have n : ∀ (x y : Nat) (t : zS) (i j v : Int), x ≠ y → gI (sI t y j v) x i = gI t x i := fun x y t i j v hxy => gI_nc hxy
  refine ⟨sI (sJ (sI (sI (sI (sI (sI τ 189 (S.length + 1) what) 190 (S.length + 1) pl) 191 (S.length + 1) 0) 192 (S.length + 1) len) 193 (S.length + 1) word) 194 (S.length + 1) w) 177 38 (S.length + 2), ?_, gI_same ⟨by omega, by omega⟩, ?_, ?_, ?_, ?_, ?_, ?_, fun x i hx h7 => ?_, fun x i hx => ?_⟩
  · unfold f_158
    rw [g1, zg_pos ⟨by omega, by omega⟩, hp, hw, g4.1, show (S.length : Int) + 1 + 1 = S.length + 2 by omega]
  · rw [n 189 177 _ _ _ _ (by decide), gI_sJ, n 189 193 _ _ _ _ (by decide), n 189 192 _ _ _ _ (by decide), n 189 191 _ _ _ _ (by decide), n 189 190 _ _ _ _ (by decide), gI_same h1]
  · rw [n 190 177 _ _ _ _ (by decide), gI_sJ, n 190 193 _ _ _ _ (by decide), n 190 192 _ _ _ _ (by decide), n 190 191 _ _ _ _ (by decide), gI_same hz]
  · rw [n 191 177 _ _ _ _ (by decide), gI_sJ, n 191 193 _ _ _ _ (by decide), n 191 192 _ _ _ _ (by decide), gI_same (by decide)]
  · rw [n 192 177 _ _ _ _ (by decide), gI_sJ, n 192 193 _ _ _ _ (by decide), gI_same ⟨by omega, by omega⟩]
  · rw [n 193 177 _ _ _ _ (by decide), gI_sJ, gI_same h2]
  · rw [gJ_sI, gJ_same]
  · by_cases h177 : x = 177
    · rw [h177, gI_ni (h7 h177), gI_sJ, n 177 193 _ _ _ _ (by decide), n 177 192 _ _ _ _ (by decide), n 177 191 _ _ _ _ (by decide), n 177 190 _ _ _ _ (by decide), n 177 189 _ _ _ _ (by decide)]
    · rw [gI_nc h177, gI_sJ]
      by_cases hxx : x = 189 ∨ x = 190 ∨ x = 191 ∨ x = 192 ∨ x = 193
      · have hi := hx hxx
        rw [gI_ni hi, gI_ni hi, gI_ni hi, gI_ni hi, gI_ni hi]
      · rw [gI_nc (by omega), gI_nc (by omega), gI_nc (by omega), gI_nc (by omega), gI_nc (by omega)]
  · rw [gJ_sI]
    by_cases h194 : x = 194
    · rw [h194, gJ_ni (hx h194)]
      rfl
    · rw [gJ_nc h194]
      rfl
/-- ... that is a frame -/
theorem m_open {what word pl : Int} {w : BitVec 64} (h : PMd τ fm S len) (hS : S.length < 20) (hp : gI τ 177 28 = pl) (hw : gJ τ 177 29 = w) (h1 : zR what) (h2 : zR word) (l1 : len < 1000) (e1 : mkd f = what) (e2 : f.pl = pl) (e3 : f.p = 0 → f.k ≠ 14 ∧ f.k ≠ 32) (e4 : f.p = 0 → 5 ≤ f.k → f.k ≤ 8 → word = f.k - 4) (e5 : f.p ≠ 0 → word = if f.k = 39 then 5 else f.k - 4) (e6 : f.p ≠ 2) (e7 : isJ f → gI τ 195 (jn S) = f.r) (e8 : f.p ≠ 0 → f.nm = w) : ∃ τ', f_158 what word τ = some ((), τ') ∧ PMd τ' fm (f :: S) len ∧ rco τ' = rco τ ∧ gI τ' 177 40 = gI τ 177 40 ∧ (∀ i, gI τ' 195 i = gI τ 195 i) := by
  obtain ⟨τ', a1, a2, a3, a4, a5, a6, a7, a8, a9, a10⟩ := m_push h hS hp hw h1 h2 l1
  refine ⟨τ', a1, h.push hS a2 (a9 189 0 (fun _ => by omega) (fun h => absurd h (by decide))) (fun i i1 i2 => ⟨a9 189 i (fun _ => by omega) (fun h => absurd h (by decide)), a9 190 i (fun _ => by omega) (fun h => absurd h (by decide)), a9 191 i (fun _ => by omega) (fun h => absurd h (by decide)), a9 192 i (fun _ => by omega) (fun h => absurd h (by decide)), a9 193 i (fun _ => by omega) (fun h => absurd h (by decide)), a10 194 i (fun _ => by omega)⟩) (fun i _ _ => a9 195 i (fun hx => absurd hx (by decide)) (fun h => absurd h (by decide))) ⟨by rw [a3, e1], by rw [a4, e2], fun hp0 hk => ?_, fun hp0 k5 k8 => ?_, fun hp0 => ?_, fun hp2 => absurd hp2 e6, fun hJ => ?_⟩ (fun hp0 => by rw [a8, e8 hp0]) ?_ h.2.2.2.2, rco_eq (fun i => a9 184 i (fun hx => absurd hx (by decide)) (fun h => absurd h (by decide))) (fun i => a9 185 i (fun hx => absurd hx (by decide)) (fun h => absurd h (by decide))) (fun i => a9 186 i (fun hx => absurd hx (by decide)) (fun h => absurd h (by decide))), a9 177 40 (fun hx => absurd hx (by decide)) (fun _ => by decide), fun i => a9 195 i (fun hx => absurd hx (by decide)) (fun h => absurd h (by decide))⟩
  · have := e3 hp0
    omega
  · rw [a7]; exact e4 hp0 k5 k8
  · rw [a7]; exact e5 hp0
  · rw [a9 195 _ (fun hx => absurd hx (by decide)) (fun h => absurd h (by decide))]; exact e7 hJ
  · rw [a9 177 41 (fun hx => absurd hx (by decide)) (fun _ => by decide)]; exact h.2.2.2.1
end MSTEP
