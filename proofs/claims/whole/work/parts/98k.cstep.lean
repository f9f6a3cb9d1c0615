/-! THE CLASS'S PARSER: single steps, further. -/
section CSTEP
variable {σ : zS} {c : Nat} {fm K len : Int} {S : List Fr} {f : Fr}
theorem PC.push {σ' : zS} (h : PC σ c fm K S len) (hS : S.length < 20) (hp : gP σ' 10 2 = gP σ 10 2) (e3 : gI σ' 10 3 = gI σ 10 3) (e15 : gI σ' 10 15 = gI σ 10 15) (e5 : gI σ' 10 5 = gI σ 10 5) (e8 : gI σ' 10 8 = S.length + 1) (hs : ∀ i : Int, 0 ≤ i → i < S.length → gI σ' 11 i = gI σ 11 i ∧ gI σ' 12 i = gI σ 12 i ∧ gI σ' 13 i = gI σ 13 i ∧ gI σ' 14 i = gI σ 14 i ∧ gI σ' 15 i = gI σ 15 i ∧ gJ σ' 16 i = gJ σ 16 i) (hf : FC σ' S.length f) (hn : f.p ≠ 0 → gJ σ' 16 S.length = f.nm) (hc0 : gI σ' c 0 = gI σ c 0) (hc8 : gI σ' c 8 = gI σ c 8) : PC σ' c fm K (f :: S) len := by
  obtain ⟨g1, g2, g3, g4, g5, g6, g7⟩ := h
  exact ⟨⟨g1.1, by rw [hp]; exact g1.2⟩, ⟨by rw [e3]; exact g2.1, g2.2⟩, ⟨by rw [e15]; exact g3.1, by rw [e5]; exact g3.2⟩, ⟨by rw [e8, List.length_cons]; omega, by rw [List.length_cons]; omega⟩, ⟨g5.up hs, hf, hn⟩, ⟨by rw [hc0]; exact g6.1, g6.2⟩, by rw [hc8]; exact g7⟩
theorem PC.pop {σ' : zS} (h : PC σ c fm K (f :: S) len) (hp : gP σ' 10 2 = gP σ 10 2) (e3 : gI σ' 10 3 = gI σ 10 3) (e15 : gI σ' 10 15 = gI σ 10 15) (e5 : gI σ' 10 5 = gI σ 10 5) (e8 : gI σ' 10 8 = S.length) (hs : ∀ i : Int, 0 ≤ i → i < S.length → gI σ' 11 i = gI σ 11 i ∧ gI σ' 12 i = gI σ 12 i ∧ gI σ' 13 i = gI σ 13 i ∧ gI σ' 14 i = gI σ 14 i ∧ gI σ' 15 i = gI σ 15 i ∧ gJ σ' 16 i = gJ σ 16 i) (hc0 : gI σ' c 0 = gI σ c 0) (hc8 : gI σ' c 8 = gI σ c 8) : PC σ' c fm K S len := by
  have ht := h.top
  obtain ⟨g1, g2, g3, g4, g5, g6, g7⟩ := h
  exact ⟨⟨g1.1, by rw [hp]; exact g1.2⟩, ⟨by rw [e3]; exact g2.1, g2.2⟩, ⟨by rw [e15]; exact g3.1, by rw [e5]; exact g3.2⟩, ⟨e8, by omega⟩, g5.1.up hs, ⟨by rw [hc0]; exact g6.1, g6.2⟩, by rw [hc8]; exact g7⟩
/-- and, or, implies are opened: one instruction more -/
theorem c_openL {k pl : Int} {D : Dn} {ca ra re : Int} (h : PC σ c fm K S len) (hS : S.length < 20) (l1 : len < 200) (hk : k = 10 ∨ k = 11 ∨ k = 12) (hp : gI σ 8 5 = pl) (hr : gI σ 10 6 = 0) : ∃ σ', f_76 k σ = some (1, σ') ∧ PC σ' c fm K (mkF k 0 pl 0#64 0 D ca (len + 1) ra re :: S) (len + 1) ∧ cAdd σ σ' c len k 0 0 ∧ gI σ' 10 6 = 0 ∧ gI σ' 10 4 = 0 := by
  have hb := h.c29
  have hz : zR pl := by rw [← hp]; exact zR_gI _ _ _
  have hkz : zR k := ⟨by omega, by omega⟩
  have h21 : f_21 k = some 1 := by
    rcases hk with rfl | rfl | rfl <;> decide
  have n : ∀ (x y : Nat) (t : zS) (i j v : Int), x ≠ y → gI (sI t y j v) x i = gI t x i := fun x y t i j v hxy => gI_nc hxy
  have h0 : PC (sI (sI (sI (sI σ 11 S.length k) 12 S.length 0) 13 S.length pl) 14 S.length 0) c fm K S len := by
    refine h.keep rfl ?_ ?_ ?_ ?_ (fun i i0 i1 => ⟨?_, ?_, ?_, ?_, ?_, rfl⟩) ?_ ?_
    · rw [n 10 14 _ _ _ _ (by decide), n 10 13 _ _ _ _ (by decide), n 10 12 _ _ _ _ (by decide), n 10 11 _ _ _ _ (by decide)]
    · rw [n 10 14 _ _ _ _ (by decide), n 10 13 _ _ _ _ (by decide), n 10 12 _ _ _ _ (by decide), n 10 11 _ _ _ _ (by decide)]
    · rw [n 10 14 _ _ _ _ (by decide), n 10 13 _ _ _ _ (by decide), n 10 12 _ _ _ _ (by decide), n 10 11 _ _ _ _ (by decide)]
    · rw [n 10 14 _ _ _ _ (by decide), n 10 13 _ _ _ _ (by decide), n 10 12 _ _ _ _ (by decide), n 10 11 _ _ _ _ (by decide)]
    · rw [gI_ni (by omega), gI_ni (by omega), gI_ni (by omega), gI_ni (by omega)]
    · rw [gI_ni (by omega), gI_ni (by omega), gI_ni (by omega), gI_ni (by omega)]
    · rw [gI_ni (by omega), gI_ni (by omega), gI_ni (by omega), gI_ni (by omega)]
    · rw [gI_ni (by omega), gI_ni (by omega), gI_ni (by omega), gI_ni (by omega)]
    · rw [gI_ni (by omega), gI_ni (by omega), gI_ni (by omega), gI_ni (by omega)]
    · rw [gI_nc (by omega), gI_nc (by omega), gI_nc (by omega), gI_nc (by omega)]
    · rw [gI_nc (by omega), gI_nc (by omega), gI_nc (by omega), gI_nc (by omega)]
  have hcd0 : cdo (sI (sI (sI (sI σ 11 S.length k) 12 S.length 0) 13 S.length pl) 14 S.length 0) c = cdo σ c := cdo_eq (fun j j1 j7 k => by rw [gI_nc (by omega), gI_nc (by omega), gI_nc (by omega), gI_nc (by omega)])
  obtain ⟨σ1, a1, a2, a3, a4⟩ := c_padd h0 l1 hkz (show zR 0 by decide) (show zR 0 by decide)
  have b8 := a3.2.2.2.1.1
  have hcd1 : cdo (sI (sI (sI σ1 15 S.length len) 10 8 (S.length + 1)) 10 4 0) c = cdo σ1 c := cdo_eq (fun j j1 j7 k => by rw [gI_nc (by omega), gI_nc (by omega), gI_nc (by omega)])
  refine ⟨sI (sI (sI σ1 15 S.length len) 10 8 (S.length + 1)) 10 4 0, ?_, a3.push hS rfl ?_ ?_ ?_ ?_ (fun i i0 i1 => ⟨?_, ?_, ?_, ?_, ?_, rfl⟩) ⟨?_, ?_, ?_, ?_, ?_, ?_⟩ (fun hp0 => absurd rfl hp0) ?_ ?_, ?_, ?_, gI_same (by decide)⟩
  · unfold f_76
    rw [h.2.2.2.1.1, if_pos (by omega), zg_pos ⟨by omega, by omega⟩, zo_of h21, zg_pos (by decide), if_neg (by decide), h.1.2, zg_pos h.1.1, hp, hr, zb_of a1, b8]
  · rw [gI_ni (by decide), gI_ni (by decide), n 10 15 _ _ _ _ (by decide)]
  · rw [gI_ni (by decide), gI_ni (by decide), n 10 15 _ _ _ _ (by decide)]
  · rw [gI_ni (by decide), gI_ni (by decide), n 10 15 _ _ _ _ (by decide)]
  · rw [gI_ni (by decide), gI_same ⟨by omega, by omega⟩]
  · rw [n 11 10 _ _ _ _ (by decide), n 11 10 _ _ _ _ (by decide), n 11 15 _ _ _ _ (by decide)]
  · rw [n 12 10 _ _ _ _ (by decide), n 12 10 _ _ _ _ (by decide), n 12 15 _ _ _ _ (by decide)]
  · rw [n 13 10 _ _ _ _ (by decide), n 13 10 _ _ _ _ (by decide), n 13 15 _ _ _ _ (by decide)]
  · rw [n 14 10 _ _ _ _ (by decide), n 14 10 _ _ _ _ (by decide), n 14 15 _ _ _ _ (by decide)]
  · rw [n 15 10 _ _ _ _ (by decide), n 15 10 _ _ _ _ (by decide), gI_ni (by omega)]
  · show gI _ 11 S.length = k
    rw [n 11 10 _ _ _ _ (by decide), n 11 10 _ _ _ _ (by decide), n 11 15 _ _ _ _ (by decide), a2.i (Or.inl (by omega)), n 11 14 _ _ _ _ (by decide), n 11 13 _ _ _ _ (by decide), n 11 12 _ _ _ _ (by decide), gI_same hkz]
  · show gI _ 12 S.length = 0
    rw [n 12 10 _ _ _ _ (by decide), n 12 10 _ _ _ _ (by decide), n 12 15 _ _ _ _ (by decide), a2.i (Or.inl (by omega)), n 12 14 _ _ _ _ (by decide), n 12 13 _ _ _ _ (by decide), gI_same (by decide)]
  · show gI _ 13 S.length = pl
    rw [n 13 10 _ _ _ _ (by decide), n 13 10 _ _ _ _ (by decide), n 13 15 _ _ _ _ (by decide), a2.i (Or.inl (by omega)), n 13 14 _ _ _ _ (by decide), gI_same hz]
  · intro _ hh
    have : (20 ≤ k ∧ k ≤ 27) ∨ k = 14 ∨ k = 32 := hh
    omega
  · intro _ _ _
    show gI _ 15 S.length = len + 1 - 1
    rw [n 15 10 _ _ _ _ (by decide), n 15 10 _ _ _ _ (by decide), gI_same ⟨by have := h.2.2.2.2.2.1.2; omega, by omega⟩]
    omega
  · intro hp0
    exact absurd rfl hp0
  · rw [gI_nc (by omega), gI_nc (by omega), gI_nc (by omega)]
  · rw [gI_nc (by omega), gI_nc (by omega), gI_nc (by omega)]
  · unfold cAdd at a4 ⊢
    rw [hcd1]
    rw [hcd0] at a4
    exact a4
  · rw [gI_ni (by decide), gI_ni (by decide), n 10 15 _ _ _ _ (by decide), a2.i (Or.inl (by omega)), n 10 14 _ _ _ _ (by decide), n 10 13 _ _ _ _ (by decide), n 10 12 _ _ _ _ (by decide), n 10 11 _ _ _ _ (by decide)]
    exact hr
/-- a binder is opened -/
theorem c_openB {k pl r : Int} {D : Dn} {ra re : Int} (h : PC σ c fm K S len) (hS : S.length < 20) (l1 : len < 200) (hk : bk k) (hp : gI σ 8 5 = pl) (hr : gI σ 10 6 = r) : ∃ σ' nm, f_77 k σ = some ((), σ') ∧ PC σ' c fm K (mkF k 1 pl nm r D len (len + 1) ra re :: S) (len + 1) ∧ cAdd σ σ' c len 45 S.length k ∧ gI σ' 10 4 = 1 := by
  have hb := h.c29
  have hkz : zR k := ⟨by omega, by omega⟩
  obtain ⟨σ1, a1, a2, a3, a4, a5⟩ := c_open (k := k) (nm := 0#64) (D := D) (ra := ra) (ca := len) (ce := len + 1) (re := re) h hS hkz (by omega) hp hr
  obtain ⟨t8, -, ⟨t1, t2, t3, t4, t5, t6⟩, -⟩ := a2.top
  have n : ∀ (x y : Nat) (t : zS) (i j v : Int), x ≠ y → gI (sI t y j v) x i = gI t x i := fun x y t i j v hxy => gI_nc hxy
  have h0 : PC (sI σ1 12 S.length 1) c fm K (mkF k 1 pl (gJ σ1 16 S.length) r D (-1) (len + 1) ra re :: S) len := by
    have hp0 : PC σ1 c fm K S len → True := fun _ => trivial
    obtain ⟨g1, g2, g3, g4, g5, g6, g7⟩ := a2
    refine ⟨g1, ⟨by rw [n 10 12 _ _ _ _ (by decide)]; exact g2.1, g2.2⟩, ⟨by rw [n 10 12 _ _ _ _ (by decide)]; exact g3.1, by rw [n 10 12 _ _ _ _ (by decide)]; exact g3.2⟩, ⟨by rw [n 10 12 _ _ _ _ (by decide)]; exact g4.1, g4.2⟩, ⟨g5.1.up (fun i i0 i1 => ⟨n 11 12 _ _ _ _ (by decide), gI_ni (by omega), n 13 12 _ _ _ _ (by decide), n 14 12 _ _ _ _ (by decide), n 15 12 _ _ _ _ (by decide), rfl⟩), ⟨?_, ?_, ?_, ?_, ?_, ?_⟩, fun _ => rfl⟩, ⟨by rw [gI_nc (by omega)]; exact g6.1, g6.2⟩, by rw [gI_nc (by omega)]; exact g7⟩
    · show gI (sI σ1 12 S.length 1) 11 S.length = k
      rw [n 11 12 _ _ _ _ (by decide)]; exact t1
    · exact gI_same (by decide)
    · show gI (sI σ1 12 S.length 1) 13 S.length = pl
      rw [n 13 12 _ _ _ _ (by decide)]; exact t3
    · intro hh
      exact absurd hh (by show ¬ (1 : Int) = 0; decide)
    · intro hh
      exact absurd hh (by show ¬ (1 : Int) = 0; decide)
    · intro _
      show gI (sI σ1 12 S.length 1) 15 S.length = -1
      rw [n 15 12 _ _ _ _ (by decide)]
      have : σ1 = sI (sI (sI (sI (sI (sI (sI σ 11 S.length k) 12 S.length 0) 13 S.length pl) 14 S.length r) 15 S.length (-1)) 10 8 (S.length + 1)) 10 4 0 := by
        have h21 : f_21 k = some 0 := by
          unfold f_21
          rw [zg_pos hkz, if_neg (by omega), if_neg (by omega), if_neg (by omega)]
        unfold f_76 at a1
        rw [h.2.2.2.1.1, if_pos (by omega), zg_pos ⟨by omega, by omega⟩, zo_of h21, zg_pos (by decide), if_pos rfl, hp, hr] at a1
        injection a1 with a1
        injection a1 with _ a1
        exact a1.symm
      rw [this, n 15 10 _ _ _ _ (by decide), n 15 10 _ _ _ _ (by decide), gI_same (by decide)]
  have hcd0 : cdo (sI σ1 12 S.length 1) c = cdo σ c := by rw [← a3]; exact cdo_eq (fun j j1 j7 k => gI_nc (by omega))
  obtain ⟨σ2, b1, b2, b3, b4⟩ := c_padd h0 l1 (show zR 45 by decide) (show zR (S.length : Int) from ⟨by omega, by omega⟩) hkz
  have b3t := b3.top
  have hcd1 : cdo (sI (sI σ2 15 S.length len) 10 4 1) c = cdo σ2 c := cdo_eq (fun j j1 j7 k => by rw [gI_nc (by omega), gI_nc (by omega)])
  refine ⟨sI (sI σ2 15 S.length len) 10 4 1, gJ σ1 16 S.length, ?_, ?_, ?_, gI_same (by decide)⟩
  · unfold f_77
    rw [zb_of a1, zg_pos (by decide), if_neg (by decide), t8, show (S.length : Int) + 1 - 1 = S.length by omega, zg_pos ⟨by omega, by omega⟩, a2.1.2, zg_pos h.1.1, zb_of b1]
  · obtain ⟨g1, g2, g3, g4, g5, g6, g7⟩ := b3
    obtain ⟨-, -, ⟨u1, u2, u3, u4, u5, u6⟩, u7⟩ := b3t
    refine ⟨g1, ⟨by rw [gI_ni (by decide), n 10 15 _ _ _ _ (by decide)]; exact g2.1, g2.2⟩, ⟨by rw [gI_ni (by decide), n 10 15 _ _ _ _ (by decide)]; exact g3.1, by rw [gI_ni (by decide), n 10 15 _ _ _ _ (by decide)]; exact g3.2⟩, ⟨by rw [gI_ni (by decide), n 10 15 _ _ _ _ (by decide)]; exact g4.1, g4.2⟩, ⟨g5.1.up (fun i i0 i1 => ⟨by rw [n 11 10 _ _ _ _ (by decide), n 11 15 _ _ _ _ (by decide)], by rw [n 12 10 _ _ _ _ (by decide), n 12 15 _ _ _ _ (by decide)], by rw [n 13 10 _ _ _ _ (by decide), n 13 15 _ _ _ _ (by decide)], by rw [n 14 10 _ _ _ _ (by decide), n 14 15 _ _ _ _ (by decide)], by rw [n 15 10 _ _ _ _ (by decide), gI_ni (by omega)], rfl⟩), ⟨?_, ?_, ?_, ?_, ?_, ?_⟩, u7⟩, ⟨by rw [gI_nc (by omega), gI_nc (by omega)]; exact g6.1, g6.2⟩, by rw [gI_nc (by omega), gI_nc (by omega)]; exact g7⟩
    · rw [n 11 10 _ _ _ _ (by decide), n 11 15 _ _ _ _ (by decide)]; exact u1
    · rw [n 12 10 _ _ _ _ (by decide), n 12 15 _ _ _ _ (by decide)]; exact u2
    · rw [n 13 10 _ _ _ _ (by decide), n 13 15 _ _ _ _ (by decide)]; exact u3
    · intro hh
      exact absurd hh (by show ¬ (1 : Int) = 0; decide)
    · intro hh
      exact absurd hh (by show ¬ (1 : Int) = 0; decide)
    · intro _
      show gI (sI (sI σ2 15 S.length len) 10 4 1) 15 S.length = len
      rw [n 15 10 _ _ _ _ (by decide), gI_same ⟨by have := h.2.2.2.2.2.1.2; omega, by omega⟩]
  · unfold cAdd at b4 ⊢
    rw [hcd1]
    rw [hcd0] at b4
    exact b4
end CSTEP
