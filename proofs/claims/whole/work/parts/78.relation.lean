/-! relation, back. -/
/-- what a call of relation that goes well leaves -/
def PRel (s s2 : zS) : Prop := IW s2 ∧ gI s2 0 12 = -1 ∧ gI s2 177 21 = 0 ∧ gI s2 1 4 = gI s 1 4 + 1 ∧ (∀ i, 0 ≤ i → i < gI s 1 4 → gI s2 4 i = gI s 4 i ∧ gJ s2 3 i = gJ s 3 i) ∧ zeq 93035356704398508314685096359074317033879816719832909344424710096986487682149740140063261703307794257678696095710883699209728434674465508 s s2
theorem m_newName {s : zS} (w : BitVec 64) (v t0 : Int) (h01 : t0 = 0 ∨ t0 = 1) (h0 : 0 ≤ gI s 177 10) (h8 : gI s 177 10 ≤ 8) : ∃ e, zlp (fun (q : Int × Int) => b_145_27 w v s q.1 q.2) zF (t0, 0) = some e ∧ ((e = 1 ∧ t0 = 1 ∧ ∀ i, 0 ≤ i → i < gI s 177 10 → gJ s 179 i ≠ w) ∨ (e = 0 ∧ ¬ (t0 = 1 ∧ ∀ i, 0 ≤ i → i < gI s 177 10 → gJ s 179 i ≠ w))) := by
  refine zlp_F (I := fun q => 0 ≤ q.2 ∧ q.2 ≤ gI s 177 10 ∧ ((q.1 = 1 ∧ t0 = 1 ∧ ∀ i, 0 ≤ i → i < q.2 → gJ s 179 i ≠ w) ∨ (q.1 = 0 ∧ ¬ (t0 = 1 ∧ ∀ i, 0 ≤ i → i < gI s 177 10 → gJ s 179 i ≠ w)))) (μ := fun q => (gI s 177 10 - q.2).toNat) _ ?_ ?_ ?_
  · rintro ⟨g, i⟩ ⟨a1, a2, a3⟩
    dsimp only at a1 a2 a3 ⊢
    have hg : g = 0 ∨ g = 1 := by rcases a3 with ⟨h, -⟩ | ⟨h, -⟩ <;> omega
    unfold b_145_27
    rw [zg_pos ⟨by omega, by omega⟩]
    by_cases hc : i < gI s 177 10
    · left
      rw [if_pos hc, zg_pos ⟨by omega, by omega⟩]
      rcases a3 with ⟨b1, b2, b3⟩ | ⟨b1, b2⟩
      · rw [if_neg (by omega), zg_pos ⟨by omega, by omega⟩]
        by_cases he : gJ s 179 i = w
        · rw [if_pos he]
          exact ⟨_, rfl, ⟨by omega, by omega, Or.inr ⟨rfl, fun h => h.2 i a1 hc he⟩⟩, by omega⟩
        · rw [if_neg he]
          refine ⟨_, rfl, ⟨by omega, by omega, Or.inl ⟨rfl, b2, fun k hk hk2 => ?_⟩⟩, by omega⟩
          by_cases e : k = i
          · rw [e]; exact he
          · exact b3 k hk (by dsimp only at hk2; omega)
      · rw [if_pos b1]
        exact ⟨_, rfl, ⟨by omega, by omega, Or.inr ⟨rfl, b2⟩⟩, by omega⟩
    · right
      rw [if_neg hc]
      have e : i = gI s 177 10 := by omega
      rw [e] at a3
      exact ⟨_, rfl, a3⟩
  · refine ⟨by dsimp only; omega, by dsimp only; omega, ?_⟩
    dsimp only
    rcases h01 with h | h
    · exact Or.inr ⟨h, fun h2 => by omega⟩
    · exact Or.inl ⟨h, h, fun k hk hk2 => by omega⟩
  · dsimp only; omega
theorem op_relation {s : zS} {w : BitVec 64} {v : Int} (hW : IW s) (hv : zR v) : zturn s (f_3 w v) (f_145 w v) (fun s2 => zeq MK s s2 ∨ PRel s s2) := by
  have hW0 := hW
  obtain ⟨w1, w2, ⟨r0, r8, rr⟩, w4, w5, w6, w7, w8, w9⟩ := hW
  obtain ⟨b, hb, n1, n2⟩ := isName_same w s
  obtain ⟨r, hr, hc⟩ := c_numberOf hW0 w
  -- where the reference says no
  have hno : ∀ t0 : Int, (t0 = 0 ∨ t0 = 1) → ¬ (t0 = 1 ∧ ∀ i, 0 ≤ i → i < gI s 177 10 → gJ s 179 i ≠ w) → j_145_22 w v t0 s = some (0, sI s 177 0 1) := by
    intro t0 h01 hn
    obtain ⟨e, he, hq⟩ := m_newName (s := s) w v t0 h01 (by omega) (by omega)
    have e0 : e = 0 := by
      rcases hq with ⟨-, h⟩ | ⟨h, -⟩
      · exact absurd h hn
      · exact h
    unfold j_145_22 j_145_90
    rw [zo_of he, e0, zg_pos (by decide), if_pos rfl, gI_same (by decide), if_pos (by decide)]
  unfold zturn
  by_cases hgood : b = 1 ∧ r = -1 ∧ 1 ≤ v ∧ v ≤ 3
  · obtain ⟨g1, g2, g3, g4⟩ := hgood
    have hnew : ∀ i, 0 ≤ i → i < gI s 1 4 → gJ s 3 i ≠ w := by
      rcases hc with ⟨h, -⟩ | ⟨-, h⟩
      · omega
      · exact h
    obtain ⟨e, he, hq⟩ := m_newName (s := s) w v 1 (Or.inr rfl) (by omega) (by omega)
    have e1 : e = 1 := by
      rcases hq with ⟨h, -⟩ | ⟨-, h⟩
      · exact h
      · exact absurd ⟨rfl, fun i hi hi2 => by rw [← (w4 i hi (by omega)).1]; exact hnew i hi (by omega)⟩ h
    by_cases hfull : gI s 1 4 < 8
    · -- it goes well
      let s1 := sI (sI (sJ (sI s 0 12 (-1)) 3 (gI s 1 4) w) 4 (gI s 1 4) v) 1 4 (gI s 1 4 + 1)
      have c14 : gI s1 1 4 = gI s 1 4 + 1 := gI_same ⟨by omega, by omega⟩
      have hf54 : f_54 w v (sI s 0 12 (-1)) = some (gI s 1 4, s1) := by
        unfold f_54
        have q : gI (sI s 0 12 (-1)) 1 4 = gI s 1 4 := gI_nc (by decide)
        rw [q, zg_pos ⟨by omega, by omega⟩]
        show some (gI s1 1 4 - 1, s1) = _
        rw [c14]
        congr 2
        omega
      let s1' := sJ s1 205 0 (BitVec.ofInt 64 (gI s 1 4))
      have K1 : zeq 93035356709837679408063569322755990741346922164964837386324952665898316047906999662137996278121412334497579931957372539485621625898926080 s s1' := (zfr_tr (zfr_tr (zfr_tr (zfr_tr (zfr_I (m := 34184136274093627373329702852252558698012956588534588811378058311353274439004575228565291316281368) (c := 0) (i := 12) rfl) (zfr_JA rfl rfl)) (zfr_IA rfl rfl)) (zfr_I (c := 1) (i := 4) rfl)) (zfr_JA rfl rfl)).eq rfl
      have m10 : gI s1' 177 10 = gI s 1 4 := by rw [K1.i rfl]; exact rr
      have m179 := K1.ja (c := 179) rfl rfl
      obtain ⟨e', he', hq'⟩ := m_newName (s := s1') w v 1 (Or.inr rfl) (by omega) (by omega)
      have e1' : e' = 1 := by
        rcases hq' with ⟨h, -⟩ | ⟨-, h⟩
        · exact h
        · exact absurd ⟨rfl, fun i hi hi2 => by rw [m179, ← (w4 i hi (by omega)).1]; exact hnew i hi (by omega)⟩ h
      let s2 := sI (sI (sI (sJ (sI s1' 177 0 0) 179 (gI s1' 177 10) w) 180 (gI s1' 177 10) v) 177 10 (gI s1' 177 10 + 1)) 177 21 0
      have h2 : f_145 w v s1' = some (gI s 1 4, s2) := by
        obtain ⟨b', hb', -, n2'⟩ := isName_same w s1'
        have n3 : f_146 w s1' = f_146 w s := rfl
        unfold f_145
        rw [n3, zo_of n2, g1, zg_pos (by decide), if_neg (by decide), zg_pos hv, if_neg (by omega), if_neg (by omega)]
        unfold j_145_22 j_145_90
        rw [zo_of he', e1', zg_pos (by decide), if_neg (by decide), if_neg (by omega), gI_same (by decide), if_neg (by decide), zg_pos ⟨by omega, by omega⟩, gI_same ⟨by omega, by omega⟩]
        have ee : gI s1' 177 10 + 1 - 1 = gI s 1 4 := by omega
        rw [ee]
      have KK : zeq 93035356704398508314685096359074317033879816719832909344424710096986487682149740140063261703307794257678696095710883699209728434674465508 s s2 := (zfr_tr (zfr_tr (zfr_tr (zfr_tr (zfr_tr (zfr_tr (zfr_tr (zfr_tr (zfr_tr (zfr_I (m := 5418017302454755603918487520589947581719572738654371405332746915426399364507707707334656744258133569913157360316937392000860184) (c := 0) (i := 12) rfl) (zfr_JA rfl rfl)) (zfr_IA rfl rfl)) (zfr_I (c := 1) (i := 4) rfl)) (zfr_JA rfl rfl)) (zfr_I (c := 177) (i := 0) rfl)) (zfr_JA rfl rfl)) (zfr_IA rfl rfl)) (zfr_I (c := 177) (i := 10) rfl)) (zfr_I (c := 177) (i := 21) rfl)).eq rfl
      have d1 : gI s2 1 4 = gI s 1 4 + 1 := c14
      have d2 : gI s2 177 10 = gI s 1 4 + 1 := by
        show gI (sI _ 177 21 0) 177 10 = _
        rw [gI_ni (by decide), gI_same ⟨by omega, by omega⟩, m10]
      have d3 : ∀ i, gJ s2 3 i = if i = gI s 1 4 then w else gJ s 3 i := fun i => by
        show gJ (sJ (sJ (sJ s 3 (gI s 1 4) w) 205 0 _) 179 _ w) 3 i = _
        rw [gJ_nc (by decide), gJ_nc (by decide), gJ_if]
      have d4 : ∀ i, gJ s2 179 i = if i = gI s 1 4 then w else gJ s 179 i := fun i => by
        show gJ (sJ s1' 179 (gI s1' 177 10) w) 179 i = _
        rw [gJ_if, m10, m179]
      have d5 : ∀ i, gI s2 4 i = if i = gI s 1 4 then v else gI s 4 i := fun i => by
        rw [show gI s2 4 i = gI (sI s 4 (gI s 1 4) v) 4 i from rfl, gI_if hv]
      have d6 : ∀ i, gI s2 180 i = if i = gI s 1 4 then v else gI s 180 i := fun i => by
        show gI (sI (sI (sI (sI s1' 177 0 0) 180 (gI s1' 177 10) v) 177 10 _) 177 21 0) 180 i = _
        rw [gI_nc (by decide), gI_nc (by decide), gI_if hv, m10, gI_nc (by decide), K1.ia (c := 180) rfl rfl]
      have k10 : gI s2 1 0 = gI s 1 0 := KK.i rfl
      have k1771 : gI s2 177 1 = gI s 177 1 := KK.i rfl
      have k18 : gI s2 1 8 = gI s 1 8 := KK.i rfl
      have k2 := KK.ia (c := 2) rfl rfl
      have k5 := KK.ia (c := 5) rfl rfl
      have k7 := KK.ia (c := 7) rfl rfl
      have k181 := KK.ia (c := 181) rfl rfl
      refine ⟨0, s1', gI s 1 4, s2, ?_, h2, ?_, by decide, fun _ => ⟨zR_gI _ _ _, ?_⟩, Or.inr ⟨?_, ?_, ?_, d1, ?_, KK⟩⟩
      · unfold f_3 f_33
        rw [zo_of n1, g1, zg_pos (by decide), if_neg (by decide), zo_of hr, g2, zg_pos (by decide), if_pos rfl, zg_pos hv, if_neg (by omega), if_neg (by omega), if_pos hfull, zb_of hf54, zb_of rfl, ze_l, zg_pos ⟨by omega, by omega⟩]
      · show gI (sI (sI (sI (sI s1' 177 0 0) 180 (gI s1' 177 10) v) 177 10 _) 177 21 0) 177 0 = 0
        rw [gI_ni (by decide), gI_ni (by decide), gI_nc (by decide), gI_same (by decide)]
      · show gJ (sJ s1' 179 _ w) 205 0 = _
        rw [gJ_nc (by decide)]
        exact gJ_same
      · refine ⟨by rw [k10, k1771]; exact w1, by simp only [k2, k10]; exact w2, ⟨by omega, by omega, by omega⟩, ?_, ?_, by rw [k18]; exact w6, by simp only [k18, k7, k5]; exact w7, by simp only [k18, k7]; exact w8, by simp only [k18, k7, k5]; exact w9⟩
        · intro i hi hi2
          rw [d3, d4, d5, d6]
          by_cases e : i = gI s 1 4
          · rw [if_pos e, if_pos e, if_pos e, if_pos e]
            exact ⟨rfl, rfl, g3, g4⟩
          · rw [if_neg e, if_neg e, if_neg e, if_neg e]
            exact w4 i hi (by omega)
        · intro k hk hk2
          obtain ⟨x1, x2, x3, x4⟩ := w5 k hk hk2
          rw [k5, k181, k10, d5, d1]
          refine ⟨x1, x2, x3, fun hne => ?_⟩
          obtain ⟨y1, y2⟩ := x4 hne
          rw [if_neg (by omega)]
          exact ⟨by omega, y2⟩
      · rw [show gI s2 0 12 = gI (sI s 0 12 (-1)) 0 12 from rfl, gI_same (by decide)]
      · show gI (sI _ 177 21 0) 177 21 = _
        rw [gI_same (by decide)]
      · intro i hi hi2
        rw [d3, d5, if_neg (by omega), if_neg (by omega)]
        exact ⟨rfl, rfl⟩
    · -- eight relations
      refine ⟨2, s, 0, sI s 177 0 2, ?_, ?_, gI_same (by decide), by decide, fun h => absurd h (by decide), Or.inl (zeq_th _ _)⟩
      · unfold f_3 f_33
        rw [zo_of n1, g1, zg_pos (by decide), if_neg (by decide), zo_of hr, g2, zg_pos (by decide), if_pos rfl, zg_pos hv, if_neg (by omega), if_neg (by omega), if_neg hfull, zb_of rfl, ze_r, if_neg (by decide), if_pos rfl]
      · unfold f_145
        rw [zo_of n2, g1, zg_pos (by decide), if_neg (by decide), zg_pos hv, if_neg (by omega), if_neg (by omega)]
        unfold j_145_22 j_145_90
        rw [zo_of he, e1, zg_pos (by decide), if_neg (by decide), if_pos (by omega), gI_same (by decide), if_pos (by decide)]
  · refine ⟨1, s, 0, sI s 177 0 1, ?_, ?_, gI_same (by decide), by decide, fun h => absurd h (by decide), Or.inl (zeq_th _ _)⟩
    · have h33 : f_33 w v s = some (Sum.inr 8, s) := by
        unfold f_33
        rw [zo_of n1, zg_pos (by rcases hb with h | h <;> rw [h] <;> decide)]
        rcases hb with h | h
        · rw [if_pos h]
        · rw [if_neg (by omega), zo_of hr, zg_pos ⟨by omega, by omega⟩]
          by_cases hr1 : r = -1
          · rw [if_pos hr1, zg_pos hv]
            by_cases hv1 : v < 1
            · rw [if_pos hv1]
            · rw [if_neg hv1]
              by_cases hv3 : 3 < v
              · rw [if_pos hv3]
              · exact absurd ⟨h, hr1, by omega, by omega⟩ hgood
          · rw [if_neg hr1]
      unfold f_3
      rw [zb_of h33, ze_r, if_pos rfl]
    · have hz : j_145_21 w v s = some (0, sI s 177 0 1) := hno 0 (Or.inl rfl) (fun h => absurd h.1 (by decide))
      unfold f_145
      rw [zo_of n2, zg_pos (by rcases hb with h | h <;> rw [h] <;> decide)]
      rcases hb with h | h
      · rw [if_pos h, hz]
      · rw [if_neg (by omega), zg_pos hv]
        by_cases hv1 : v < 1
        · rw [if_pos hv1, hz]
        · rw [if_neg hv1]
          by_cases hv3 : 3 < v
          · rw [if_pos hv3, hz]
          · rw [if_neg hv3]
            refine hno 1 (Or.inr rfl) (fun hh => ?_)
            rcases hc with ⟨x1, x2, x3, -⟩ | ⟨x1, -⟩
            · refine hh.2 r x1 (by omega) ?_
              rw [← (w4 r x1 x2).1]
              exact x3
            · exact hgood ⟨h, x1, by omega, by omega⟩

/-- what a call of back that goes well leaves -/
def PBack (s s2 : zS) : Prop := gI s2 0 10 = gI s 0 10 - 1 ∧ gI s2 177 18 = gI s 0 10 - 1 ∧ 1 ≤ gI s 0 10 ∧ gI s2 0 12 = -1 ∧ gI s2 177 21 = 0 ∧ IC s2 ∧ zeq 93035356703724231226519042788143363419720547278459113230495692550619394363974357257325957860915601353622481311526236068261596499680295676 s s2
theorem op_back {s : zS} (hS : IS s) (hC : IC s) : zturn s f_6 f_190 (fun s2 => zeq MK s s2 ∨ PBack s s2) := by
  obtain ⟨⟨k0, k16, k1⟩, -, -⟩ := hS
  obtain ⟨c0, c1, c2⟩ := hC
  unfold zturn
  by_cases h0 : gI s 0 10 = 0
  · refine ⟨1, s, 0, sI s 177 0 1, ?_, ?_, gI_same (by decide), by decide, fun h => absurd h (by decide), Or.inl (zeq_th _ _)⟩
    · unfold f_6 f_37
      rw [if_pos h0, zb_of rfl, ze_r, if_pos rfl]
    · unfold f_190 j_190_13
      rw [if_pos (by omega), gI_same (by decide), if_pos (by decide)]
  · have hp := zpow_b (i := gI s 0 10 - 1) (by omega) (by omega)
    have hN : (0 : Int) ≤ ((2 ^ (gI s 0 10 - 1).toNat : Nat) : Int) ∧ ((2 ^ (gI s 0 10 - 1).toNat : Nat) : Int) ≤ 1073741824 := ⟨Int.natCast_nonneg _, Int.le_trans (Int.ofNat_le.mpr hp.2) (by decide)⟩
    obtain ⟨c, hc, hc2, hc3⟩ := zandn_spec (a := gI s 0 13) (b := ((2 ^ (gI s 0 10 - 1).toNat : Nat) : Int)) c0 (zR_gI _ _ _) hN.1 ⟨Int.le_trans (by decide) hN.1, Int.lt_of_le_of_lt hN.2 (by decide)⟩
    have e10 : gI (sI s 0 10 (gI s 0 10 - 1)) 0 10 = gI s 0 10 - 1 := gI_same ⟨by omega, by omega⟩
    let s1 := sI (sI (sI s 0 10 (gI s 0 10 - 1)) 0 13 (c : Int)) 0 12 (-1)
    have h37 : f_37 s = some (Sum.inl (gI s 0 10 - 1), s1) := by
      unfold f_37
      rw [if_neg h0, e10, hp.1, hc]
    let s1' := sJ s1 205 0 (BitVec.ofInt 64 (gI s 0 10 - 1))
    let s2 := sI (sI (sI s1' 177 0 0) 177 18 (gI s 0 10 - 1)) 177 21 0
    have q18 : gI s1' 177 18 = gI s 0 10 := k1
    have a18 : gI s2 177 18 = gI s 0 10 - 1 := by
      show gI (sI _ 177 21 0) 177 18 = _
      rw [gI_ni (by decide), gI_same ⟨by omega, by omega⟩]
    have a10 : gI s2 0 10 = gI s 0 10 - 1 := by
      rw [show gI s2 0 10 = gI (sI s 0 10 (gI s 0 10 - 1)) 0 10 from rfl, e10]
    have a13 : gI s2 0 13 = (c : Int) := by
      rw [show gI s2 0 13 = gI (sI s 0 13 (c : Int)) 0 13 from rfl, gI_same ⟨by omega, by omega⟩]
    have a188 : ∀ f, gI s2 188 f = gI s 188 f := fun f => rfl
    have hcN : ((c : Int)).toNat = c := by omega
    refine ⟨0, s1', gI s 0 10 - 1, s2, ?_, ?_, ?_, by decide, fun _ => ⟨⟨by omega, by omega⟩, ?_⟩, Or.inr ⟨a10, a18, by omega, ?_, ?_, ?_, ?_⟩⟩
    · unfold f_6
      rw [zb_of h37, ze_l, zg_pos ⟨by omega, by omega⟩]
    · unfold f_190 j_190_13
      rw [if_neg (by omega), gI_same (by decide), if_neg (by decide), q18, gI_same ⟨by omega, by omega⟩]
    · show gI (sI (sI (sI s1' 177 0 0) 177 18 _) 177 21 0) 177 0 = 0
      rw [gI_ni (by decide), gI_ni (by decide), gI_same (by decide)]
    · exact gJ_same
    · rw [show gI s2 0 12 = gI (sI s 0 12 (-1)) 0 12 from rfl, gI_same (by decide)]
    · exact gI_same (by decide)
    · refine ⟨by omega, by omega, fun f hf hf2 => ?_⟩
      rw [a10, a13, a188, hcN, hc3]
      have hbb : ((2 ^ (gI s 0 10 - 1).toNat : Nat) : Int).toNat.testBit f.toNat = decide (f = gI s 0 10 - 1) := by
        rw [Int.toNat_natCast, Nat.testBit_two_pow]
        apply decide_eq_decide.mpr
        omega
      rw [hbb]
      obtain ⟨x1, x2⟩ := c2 f hf hf2
      constructor
      · intro hlt
        rw [x1 (by omega), decide_eq_false (by omega), Bool.not_false, Bool.and_true]
      · intro hge
        by_cases e : f = gI s 0 10 - 1
        · rw [decide_eq_true e, Bool.not_true, Bool.and_false]
        · rw [x2 (by omega), Bool.false_and]
    · exact (zfr_tr (zfr_tr (zfr_tr (zfr_tr (zfr_tr (zfr_tr (zfr_I (m := 6092294390620809174849441134749217023093368852583388951699840233601782247245011549726849648314348354097804991265069326995030016) (c := 0) (i := 10) rfl) (zfr_I (c := 0) (i := 13) rfl)) (zfr_I (c := 0) (i := 12) rfl)) (zfr_JA rfl rfl)) (zfr_I (c := 177) (i := 0) rfl)) (zfr_I (c := 177) (i := 18) rfl)) (zfr_I (c := 177) (i := 21) rfl)).eq rfl
