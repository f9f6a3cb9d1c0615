/-! THE CLAIM OUT OF AN INVARIANT of the pure states at the law's loop. -/
def zsz (q : Option zLy) : Nat := match q with
  | some (.inl (_, n)) => n
  | some (.inr (_, fs)) => fs.length
  | none => 0
theorem zsz_mk (s : zS) (c : Nat) : am_sz (zmk s c) = zsz (zlay c) := by
  unfold zmk
  cases h : zlay c with
  | none => rfl
  | some q =>
    cases q with
    | inl q =>
      obtain ⟨ty, n⟩ := q
      show am_sz (zarr s c ty n) = n
      cases ty <;> rfl
    | inr q =>
      obtain ⟨ci, fs⟩ := q
      show (fs.mapIdx (fun j q => zfv s c j q)).length = fs.length
      exact List.length_mapIdx
theorem hp_slots (s : zS) : am_slots (hp s) ≤ 100000 := by
  have h : (hp s).map am_sz = (List.range 206).map (fun c => zsz (zlay c)) := by
    unfold hp
    rw [List.map_map]
    apply List.map_congr_left
    intro c _
    exact zsz_mk s c
  unfold am_slots
  rw [h]
  decide +kernel
theorem zslots_app (a b : am_H) : am_slots (a ++ b) = am_slots a + am_slots b := by
  unfold am_slots
  rw [List.map_append, List.sum_append]
theorem zgrow_len {x x' : am_H} (h : zgrow x x') : x'.length ≤ x.length + 1 ∧ am_slots x' ≤ am_slots x + 6 := by
  rcases h with rfl | ⟨ci, rfl⟩
  · exact ⟨by omega, by omega⟩
  · rw [List.length_append, zslots_app]
    exact ⟨Nat.le_refl _, Nat.le_refl _⟩
/-- what is to be shown of the states at the law's loop -/
def zInvOk (Inv : zS → Prop) : Prop := (∀ n : Int, 1 ≤ n → n ≤ 5 → Inv (zs0 n)) ∧ ∀ (k : zK) (i : Int) (s : zS), k.2.1 ≤ 2049 → 1 ≤ i → i + 3 < (k.2.1 : Int) → Inv s → ∃ s', b_0_33 k i s = some (.inl (i + 4, s')) ∧ Inv s'
theorem zInv_loop {Inv : zS → Prop} (H : zInvOk Inv) (k : zK) (hL : k.2.1 ≤ 2049) : ∀ (m : Nat) (i : Int) (s : zS) (x : am_H), 1 ≤ i → i ≤ 5000 → (k.2.1 : Int) < i + 4 * m → Inv s → x.length + m ≤ 600 → ∃ ah, zgo k 102 0 (33, [(0, .ref (am_big + 0)), (1, .ref 0), (2, .ref 177), (3, .ref 205), (4, .int (Int32.ofInt i))], []) (hp s ++ x) (.inl (some (.int 1)), ah) ∧ ah.length ≤ 206 + x.length + m ∧ am_slots ah ≤ 100000 + am_slots x + 6 * m := by
  intro m
  have hM := xM_0 k.1
  have hexit : ∀ (i : Int) (s : zS) (x : am_H), 1 ≤ i → i ≤ 5000 → (k.2.1 : Int) - 4 < i → x.length ≤ 600 → zgo k 102 0 (33, [(0, .ref (am_big + 0)), (1, .ref 0), (2, .ref 177), (3, .ref 205), (4, .int (Int32.ofInt i))], []) (hp s ++ x) (.inl (some (.int 1)), hp s ++ x) := by
    intro i s x h1 h5 h2 h3
    have hR : zR ((k.2.1 : Int) - 4) := ⟨by omega, by omega⟩
    have hRi : zR i := ⟨by omega, by omega⟩
    refine g_iload 35 hM rfl rfl rfl ?_
    refine g_aload_n 36 hM rfl rfl rfl ?_
    refine g_kalenX 37 hM rfl rfl ?_
    refine g_iconst 38 hM rfl rfl ?_
    refine g_isub 39 hM rfl rfl ?_
    refine g_ic_gt_t 1032 hM rfl rfl hRi hR h2 ?_
    refine g_iconst 1033 hM rfl rfl ?_
    exact g_ret hM rfl rfl
  induction m with
  | zero =>
    intro i s x h1 h5 h2 hI hx
    refine ⟨_, hexit i s x h1 h5 (by omega) (by omega), ?_, ?_⟩
    · rw [List.length_append, hp_len]; omega
    · rw [zslots_app]; have := hp_slots s; omega
  | succ m ih =>
    intro i s x h1 h5 h2 hI hx
    by_cases he : (k.2.1 : Int) - 4 < i
    · refine ⟨_, hexit i s x h1 h5 he (by omega), ?_, ?_⟩
      · rw [List.length_append, hp_len]; omega
      · rw [zslots_app]; have := hp_slots s; omega
    · obtain ⟨s', hb, hI'⟩ := H.2 k i s hL h1 (by omega) hI
      obtain ⟨x', hg, hgo⟩ := wb_0_33 (d := 102) (x := x) (by omega) (by omega) (by omega) hb
      have hl := zgrow_len hg
      obtain ⟨ah, ha1, ha2, ha3⟩ := ih (i + 4) s' x' (by omega) (by omega) (by omega) hI' (by omega)
      exact ⟨ah, hgo _ ha1, by omega, by omega⟩
theorem tp_of_inv {Inv : zS → Prop} (H : zInvOk Inv) : tp_claim := by
  intro L xs vz hL hvz
  have hb : ∃ b : Bool, vz = zvz b := by
    rcases hvz with h | h
    · exact ⟨true, h⟩
    · exact ⟨false, h⟩
  obtain ⟨b, rfl⟩ := hb
  have hc : 1 ≤ zclamp (zx0 (b, L, xs)) ∧ zclamp (zx0 (b, L, xs)) ≤ 5 := by
    unfold zclamp
    split
    · decide
    · split <;> omega
  obtain ⟨ah, h1, h2, h3⟩ := zInv_loop H (b, L, xs) hL 513 1 (zs0 (zclamp (zx0 (b, L, xs)))) [] (by decide) (by decide) (by show (L : Int) < _; omega) (H.1 _ hc.1 hc.2) (by decide)
  obtain ⟨n, hn⟩ := cL (k := (b, L, xs)) (d := 102) (by show L ≤ 5760; omega) (by decide) h1
  refine ⟨n, 102, ah, hn, by decide, ?_, ?_⟩
  · have : ([] : am_H).length = 0 := rfl
    omega
  · have : am_slots ([] : am_H) = 0 := rfl
    omega
