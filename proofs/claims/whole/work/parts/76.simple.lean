/-! THE INVARIANT: numbers and flags; fault, told, isIn, isInCore, has. -/
def zturnB (s : zS) (f g : zS → Option (Int × zS)) (P : zS → Prop) : Prop := ∃ r s1 b s2, f s = some (r, s1) ∧ g s1 = some (b, s2) ∧ gI s2 177 0 = r ∧ zR r ∧ (r = 0 → (b = 0 ∧ gJ s2 205 0 = 0#64) ∨ (b = 1 ∧ gJ s2 205 0 = 1#64)) ∧ P s2
def zturnP (s : zS) (f : zS → Option Int) (g : zS → Option (Int × zS)) (P : zS → Prop) : Prop := ∃ r s2, f s = some r ∧ g s = some (r, s2) ∧ zR r ∧ P s2
def zturnQ (s : zS) (f g : zS → Option (Int × zS)) (P : zS → Prop) : Prop := ∃ r s1 s2, f s = some (r, s1) ∧ g s1 = some (r, s2) ∧ zR r ∧ P s2
/-- all places but what every call may use anew -/
def MK : Nat := 93035356709816523034889973876084214898550592298540607753373288673095721766865360946507059704983913585336559182205499127822444483198188284
/-- facts, assertion, present one -/
def IS (s : zS) : Prop := (0 ≤ gI s 0 10 ∧ gI s 0 10 ≤ 16 ∧ gI s 177 18 = gI s 0 10) ∧ (gI s 0 11 = gI s 177 19 ∧ (gI s 0 11 = 0 ∨ gI s 0 11 = 1)) ∧ ((gI s 0 12 = -1 ∧ gI s 177 21 = 0) ∨ (0 ≤ gI s 0 12 ∧ gI s 0 12 < 2 ^ (gI s 1 8).toNat ∧ gI s 177 21 = 1 ∧ gI s 177 22 = gI s 0 12))
/-- the core -/
def IC (s : zS) : Prop := 0 ≤ gI s 0 13 ∧ gI s 0 13 < 65536 ∧ ∀ f, 0 ≤ f → f < 16 → (f < gI s 0 10 → gI s 188 f = if (gI s 0 13).toNat.testBit f.toNat then 1 else 0) ∧ (gI s 0 10 ≤ f → (gI s 0 13).toNat.testBit f.toNat = false)
/-- the last fault -/
def IL (s : zS) : Prop := (gI s 177 6 = 0 ∧ gI s 0 14 = 0 ∧ gI s 0 15 = 0) ∨ (gI s 177 6 = 1 ∧ gI s 0 14 = gI s 177 4 ∧ gI s 0 15 = gI s 177 5)
/-- the last value -/
def IV (s : zS) : Prop := gI s 0 17 = gI s 177 25 ∧ ∀ t, 0 ≤ t → t < 125 → gI s 176 t = if tb (gJ s 177 23) (gJ s 177 24) t then 1 else 0
theorem IS.cong {s s2 : zS} (h : zeq 18276875425112793263822554437036880991845364021285839079780069751507722090750284995912318501694477417471202514471234027244224512 s s2) (hI : IS s) : IS s2 := by
  have e1 : gI s2 0 10 = gI s 0 10 := h.i rfl
  have e2 : gI s2 0 11 = gI s 0 11 := h.i rfl
  have e3 : gI s2 0 12 = gI s 0 12 := h.i rfl
  have e4 : gI s2 1 8 = gI s 1 8 := h.i rfl
  have e5 : gI s2 177 18 = gI s 177 18 := h.i rfl
  have e6 : gI s2 177 19 = gI s 177 19 := h.i rfl
  have e7 : gI s2 177 21 = gI s 177 21 := h.i rfl
  have e8 : gI s2 177 22 = gI s 177 22 := h.i rfl
  unfold IS at hI ⊢
  simp only [e1, e2, e3, e4, e5, e6, e7, e8]
  exact hI
theorem IC.cong {s s2 : zS} (h : zeq 18773323557898623771049995464380829132642651574486936033602407220200457209625308299465192374272 s s2) (hI : IC s) : IC s2 := by
  have e1 : gI s2 0 10 = gI s 0 10 := h.i rfl
  have e2 : gI s2 0 13 = gI s 0 13 := h.i rfl
  have e3 := h.ia (c := 188) rfl rfl
  unfold IC at hI ⊢
  simp only [e1, e2, e3]
  exact hI
theorem IL.cong {s s2 : zS} (h : zeq 289211986345733762041462947364461722233719708909139675913731603304554308151354312389787854934041986766788681043274067083264 s s2) (hI : IL s) : IL s2 := by
  have e1 : gI s2 0 14 = gI s 0 14 := h.i rfl
  have e2 : gI s2 0 15 = gI s 0 15 := h.i rfl
  have e3 : gI s2 177 4 = gI s 177 4 := h.i rfl
  have e4 : gI s2 177 5 = gI s 177 5 := h.i rfl
  have e5 : gI s2 177 6 = gI s 177 6 := h.i rfl
  unfold IL at hI ⊢
  simp only [e1, e2, e3, e4, e5]
  exact hI
theorem IV.cong {s s2 : zS} (h : zeq 151630373897232062633194525695325157030059642673375268332348873258876428108781226812898961767668507643863698753496681899794366464 s s2) (hI : IV s) : IV s2 := by
  have e1 : gI s2 0 17 = gI s 0 17 := h.i rfl
  have e2 : gI s2 177 25 = gI s 177 25 := h.i rfl
  have e3 : gJ s2 177 23 = gJ s 177 23 := h.j rfl
  have e4 : gJ s2 177 24 = gJ s 177 24 := h.j rfl
  have e5 := h.ia (c := 176) rfl rfl
  unfold IV at hI ⊢
  simp only [e1, e2, e3, e4, e5]
  exact hI
theorem zeq_th (s : zS) (v : Int) : zeq MK s (sI s 177 0 v) := (zfr_I (m := 2582249878086908589655919172003011874329705792829223512830659356540647622016841194629645353280137831435903171972747493376) rfl).eq rfl
theorem zeq_out (s : zS) (v : BitVec 64) : zeq MK s (sJ s 205 0 v) := (zfr_JA (m := 51422017416287688817342786954917203280710495801049370729644032) rfl rfl).eq rfl
theorem op_fault {s : zS} {v : Int} (hL : IL s) (hv : v = 0 ∨ v = 1) : zturnP s (f_15 v) (f_144 v) (fun s2 => zeq MK s s2) := by
  have hr : zR v := by rcases hv with rfl | rfl <;> decide
  unfold zturnP f_15 f_144
  rw [zg_pos hr]
  rcases hL with ⟨h1, h2, h3⟩ | ⟨h1, h2, h3⟩
  · rcases hv with rfl | rfl
    · exact ⟨gI s 0 14, _, by rw [if_pos rfl], by rw [if_pos h1, h2], zR_gI _ _ _, zeq_th _ _⟩
    · exact ⟨gI s 0 15, _, by rw [if_neg (by decide)], by rw [if_pos h1, h3], zR_gI _ _ _, zeq_th _ _⟩
  · rcases hv with rfl | rfl
    · exact ⟨gI s 0 14, _, by rw [if_pos rfl], by rw [if_neg (by omega), zg_pos hr, if_pos rfl, h2], zR_gI _ _ _, zeq_th _ _⟩
    · exact ⟨gI s 0 15, _, by rw [if_neg (by decide)], by rw [if_neg (by omega), zg_pos hr, if_neg (by decide), h3], zR_gI _ _ _, zeq_th _ _⟩
theorem op_isIn {s : zS} {t : Int} (hV : IV s) (ht : zR t) : zturnP s (f_30 t) (f_240 t) (fun s2 => zeq MK s s2) := by
  unfold zturnP f_30 f_240
  rw [zg_pos ht, zg_pos ht]
  by_cases h1 : t < 0
  · exact ⟨0, _, by rw [if_pos h1], by rw [if_pos h1], by decide, zeq_th _ _⟩
  · by_cases h2 : t < 125
    · have hv := hV.2 t (by omega) h2
      rw [if_neg h1, if_pos h2, zg_pos ⟨by omega, h2⟩, if_neg h1, if_pos h2, m_bit (by omega) (by omega), zo_of rfl, hv]
      by_cases hb : tb (gJ s 177 23) (gJ s 177 24) t = true
      · rw [if_pos hb]
        exact ⟨1, _, rfl, by rw [zg_pos (by decide), if_neg (by decide)], by decide, zeq_th _ _⟩
      · rw [if_neg hb]
        exact ⟨0, _, rfl, by rw [zg_pos (by decide), if_pos rfl], by decide, zeq_th _ _⟩
    · exact ⟨0, _, by rw [if_neg h1, if_neg h2], by rw [if_neg h1, if_neg h2], by decide, zeq_th _ _⟩
theorem op_told {s : zS} {v : Int} (hW : IW s) (hS : IS s) (hT : IT s) (hV : IV s) (hv : zR v) : zturnP s (f_31 v) (f_242 v) (fun s2 => zeq MK s s2) := by
  have hW2 : IW (sI s 177 0 0) := IW.cong ((zeq_th s 0).sub rfl) hW
  obtain ⟨s3, e3, q1, -⟩ := m_listFree hW2
  have F := fr_154 e3
  have q0 : gI (sI s 177 0 0) 1 8 = gI s 1 8 := gI_nc (by decide)
  have g1 : gI s3 177 1 = gI s 177 1 := by rw [F.i rfl]; exact gI_ni (by decide)
  have g2 : gI s3 177 10 = gI s 177 10 := by rw [F.i rfl]; exact gI_ni (by decide)
  have g3 : gI s3 177 18 = gI s 177 18 := by rw [F.i rfl]; exact gI_ni (by decide)
  have g4 : gI s3 177 19 = gI s 177 19 := by rw [F.i rfl]; exact gI_ni (by decide)
  have g5 : gI s3 177 21 = gI s 177 21 := by rw [F.i rfl]; exact gI_ni (by decide)
  have g6 : gI s3 177 3 = gI s 177 3 := by rw [F.i rfl]; exact gI_ni (by decide)
  have g7 : gI s3 177 25 = gI s 177 25 := by rw [F.i rfl]; exact gI_ni (by decide)
  have hK : zeq MK s s3 := (zeq_th s 0).tr (F.eq rfl)
  obtain ⟨⟨-, -, k1⟩, ⟨k2, -⟩, k3⟩ := hS
  obtain ⟨⟨-, -, w1⟩, -, ⟨-, -, w2⟩, -⟩ := hW
  unfold zturnP f_31 f_242
  rw [zg_pos hv, zb_of e3, zg_pos hv]
  by_cases hd : v < 0 ∨ 7 < v
  · have t1 : t_31_1 v = 117 := by unfold t_31_1 zswt; rw [if_pos hd]
    have t2 : t_242_10 v = 112 := by unfold t_242_10 zswt; rw [if_pos hd]
    rw [t1, t2]
    exact ⟨-1, s3, rfl, rfl, by decide, hK⟩
  · have hc : v = 0 ∨ v = 1 ∨ v = 2 ∨ v = 3 ∨ v = 4 ∨ v = 5 ∨ v = 6 ∨ v = 7 := by omega
    rcases hc with rfl | rfl | rfl | rfl | rfl | rfl | rfl | rfl
    · exact ⟨gI s 1 0, s3, rfl, by show some (gI s3 177 1, s3) = _; rw [g1, w1], zR_gI _ _ _, hK⟩
    · exact ⟨gI s 1 4, s3, rfl, by show some (gI s3 177 10, s3) = _; rw [g2, w2], zR_gI _ _ _, hK⟩
    · exact ⟨gI s 1 8, s3, rfl, by show some (gI s3 177 13, s3) = _; rw [q1, q0], zR_gI _ _ _, hK⟩
    · exact ⟨gI s 0 10, s3, rfl, by show some (gI s3 177 18, s3) = _; rw [g3, k1], zR_gI _ _ _, hK⟩
    · by_cases h : gI s 0 11 = 0
      · exact ⟨0, s3, by show (if gI s 0 11 = 0 then _ else _) = _; rw [if_pos h], by show (if gI s3 177 19 = 0 then _ else _) = _; rw [if_pos (by omega)], by decide, hK⟩
      · exact ⟨1, s3, by show (if gI s 0 11 = 0 then _ else _) = _; rw [if_neg h], by show (if gI s3 177 19 = 0 then _ else _) = _; rw [if_neg (by omega)], by decide, hK⟩
    · rcases k3 with ⟨h1, h2⟩ | ⟨h1, h2, h3, h4⟩
      · exact ⟨0, s3, by show (if gI s 0 12 = -1 then _ else _) = _; rw [if_pos h1], by show (if gI s3 177 21 = 0 then _ else _) = _; rw [if_pos (by omega)], by decide, hK⟩
      · exact ⟨1, s3, by show (if gI s 0 12 = -1 then _ else _) = _; rw [if_neg (by omega)], by show (if gI s3 177 21 = 0 then _ else _) = _; rw [if_neg (by omega)], by decide, hK⟩
    · exact ⟨gI s 8 1, s3, rfl, by show some (gI s3 177 3, s3) = _; rw [g6, hT.1], zR_gI _ _ _, hK⟩
    · exact ⟨gI s 0 17, s3, rfl, by show some (gI s3 177 25, s3) = _; rw [g7, hV.1], zR_gI _ _ _, hK⟩
theorem op_isInCore {s : zS} {f : Int} (hS : IS s) (hC : IC s) (hf : zR f) : zturnB s (f_11 f) (f_237 f) (fun s2 => zeq MK s s2) := by
  obtain ⟨⟨k0, k16, k1⟩, -, -⟩ := hS
  obtain ⟨c0, c1, c2⟩ := hC
  unfold zturnB
  by_cases h1 : f < 0
  · refine ⟨1, s, 0, sI s 177 0 1, ?_, ?_, gI_same (by decide), by decide, fun h => absurd h (by decide), zeq_th _ _⟩
    · unfold f_11 f_42
      rw [zg_pos hf, if_pos h1, zb_of rfl, ze_r, if_pos rfl]
    · unfold f_237 j_237_13
      rw [zg_pos hf, if_pos h1, gI_same (by decide), if_neg (by decide)]
  · by_cases h2 : f < gI s 0 10
    · have hc := (c2 f (by omega) (by omega)).1 h2
      have ht := ztest (a := gI s 0 13) (b := f) c0 (zR_gI _ _ _) (by omega) (by omega)
      by_cases hb : (gI s 0 13).toNat.testBit f.toNat = true
      · rw [if_pos hb] at hc ht
        refine ⟨0, sJ s 205 0 (1#64), 1, sI (sJ s 205 0 (1#64)) 177 0 0, ?_, ?_, gI_same (by decide), by decide, fun _ => Or.inr ⟨rfl, ?_⟩, (zeq_out _ _).tr (zeq_th _ _)⟩
        · unfold f_11 f_42
          rw [zg_pos hf, if_neg h1, if_pos h2, zg_pos ⟨c0, zR_gI _ _ _⟩, ht, if_neg (by decide), zb_of rfl, ze_l, zg_pos (by decide), if_neg (by decide)]
        · unfold f_237
          have u1 : gI (sJ s 205 0 (1#64)) 177 18 = gI s 0 10 := k1
          have u2 : gI (sJ s 205 0 (1#64)) 188 f = 1 := hc
          rw [zg_pos hf, if_neg h1, u1, if_pos h2, gI_same (by decide), if_pos rfl, zg_pos ⟨by omega, by omega⟩, u2, if_neg (by decide)]
        · exact gJ_same
      · rw [if_neg hb] at hc ht
        refine ⟨0, sJ s 205 0 (0#64), 0, sI (sJ s 205 0 (0#64)) 177 0 0, ?_, ?_, gI_same (by decide), by decide, fun _ => Or.inl ⟨rfl, ?_⟩, (zeq_out _ _).tr (zeq_th _ _)⟩
        · unfold f_11 f_42
          rw [zg_pos hf, if_neg h1, if_pos h2, zg_pos ⟨c0, zR_gI _ _ _⟩, ht, if_pos rfl, zb_of rfl, ze_l, zg_pos (by decide), if_pos rfl]
        · unfold f_237
          have u1 : gI (sJ s 205 0 (0#64)) 177 18 = gI s 0 10 := k1
          have u2 : gI (sJ s 205 0 (0#64)) 188 f = 0 := hc
          rw [zg_pos hf, if_neg h1, u1, if_pos h2, gI_same (by decide), if_pos rfl, zg_pos ⟨by omega, by omega⟩, u2, if_pos rfl]
        · exact gJ_same
    · refine ⟨1, s, 0, sI s 177 0 1, ?_, ?_, gI_same (by decide), by decide, fun h => absurd h (by decide), zeq_th _ _⟩
      · unfold f_11 f_42
        rw [zg_pos hf, if_neg h1, if_neg h2, zb_of rfl, ze_r, if_pos rfl]
      · unfold f_237 j_237_13
        rw [zg_pos hf, if_neg h1, if_neg (by omega), gI_same (by decide), if_neg (by decide)]
/-- the class's rankOf -/
theorem c_rankOf {s : zS} (hW : IW s) {k : Int} (hk : zR k) : ∃ r, f_53 k s = some r ∧ ((0 ≤ r ∧ r < gI s 1 8 ∧ gI s 7 r = k) ∨ (r = -1 ∧ ∀ i, 0 ≤ i → i < gI s 1 8 → gI s 7 i ≠ k)) := by
  obtain ⟨-, -, -, -, -, ⟨f0, f12⟩, -, -, -⟩ := hW
  have hloop := zlp_F (B := fun (q : Int) => b_53_2 k s q) (I := fun q => 0 ≤ q ∧ q ≤ gI s 1 8 ∧ ∀ i, 0 ≤ i → i < q → gI s 7 i ≠ k) (μ := fun q => (gI s 1 8 - q).toNat) (Q := fun t => Sum.elim (fun _ => ∀ i, 0 ≤ i → i < gI s 1 8 → gI s 7 i ≠ k) (fun r => 0 ≤ r ∧ r < gI s 1 8 ∧ gI s 7 r = k) t) (by
    rintro i ⟨a1, a2, a3⟩
    unfold b_53_2
    rw [zg_pos ⟨by omega, by omega⟩]
    by_cases hc : i < gI s 1 8
    · rw [if_pos hc, zg_pos ⟨by omega, by omega⟩, zg_pos hk]
      by_cases he : gI s 7 i = k
      · right
        rw [if_pos he]
        exact ⟨_, rfl, a1, hc, he⟩
      · left
        rw [if_neg he]
        refine ⟨_, rfl, ⟨by omega, by omega, fun j hj hj2 => ?_⟩, by omega⟩
        by_cases e : j = i
        · rw [e]; exact he
        · exact a3 j hj (by omega)
    · right
      rw [if_neg hc]
      exact ⟨_, rfl, fun j hj hj2 => a3 j hj (by omega)⟩) (s := 0) ⟨by decide, f0, fun i hi hi2 => by omega⟩ (by omega)
  obtain ⟨t, ht, hq⟩ := hloop
  rcases t with u | r
  · exact ⟨-1, by unfold f_53; rw [zo_of ht]; rfl, Or.inr ⟨rfl, hq⟩⟩
  · exact ⟨r, by unfold f_53; rw [zo_of ht]; rfl, Or.inl hq⟩
theorem fr_inj {s : zS} (hW : IW s) {i j : Int} (hi : 0 ≤ i) (hi2 : i < gI s 1 8) (hj : 0 ≤ j) (hj2 : j < gI s 1 8) (h : gI s 7 i = gI s 7 j) : i = j := by
  have hinc := hW.2.2.2.2.2.2.2.1
  by_cases h1 : i < j
  · have := hinc i j hi h1 hj2; omega
  · by_cases h2 : j < i
    · have := hinc j i hj h2 hi2; omega
    · omega
/-- the class's contains -/
theorem c_contains {s : zS} (hW : IW s) {k a : Int} (hk0 : 0 ≤ k) (hk : k < 1000) (ha : 0 ≤ a) (hra : zR a) : (f_59 k a s = some 1 ∧ zin s a k) ∨ (f_59 k a s = some 0 ∧ ¬ zin s a k) := by
  obtain ⟨r, hr, hc⟩ := c_rankOf hW (k := k) ⟨by omega, by omega⟩
  have hf := hW.2.2.2.2.2.2.1
  have hF := hW.2.2.2.2.2.1
  unfold f_59
  rw [zo_of hr]
  rcases hc with ⟨h1, h2, h3⟩ | ⟨h1, h2⟩
  · have h5 := (hf r h1 h2).2.2
    rw [h3] at h5
    rw [zg_pos ⟨by omega, by omega⟩, if_neg (by omega), zg_pos ⟨ha, hra⟩, ztest ha hra (by omega) (by omega)]
    by_cases hb : a.toNat.testBit (gI s 1 8 - 1 - r).toNat = true
    · left
      rw [if_pos hb, if_neg (by decide)]
      exact ⟨rfl, Or.inr ⟨r, h1, h2, h3, hb⟩⟩
    · right
      rw [if_neg hb, if_pos rfl]
      refine ⟨rfl, ?_⟩
      rintro (h | ⟨i, i1, i2, i3, i4⟩)
      · omega
      · have e := fr_inj hW i1 i2 h1 h2 (by omega)
        rw [e] at i4
        exact hb i4
  · rw [h1, zg_pos (by decide), if_pos rfl, zg_pos ⟨hk0, hk⟩]
    by_cases h5 : gI s 5 k = 2
    · left
      rw [if_pos h5]
      exact ⟨rfl, Or.inl h5⟩
    · right
      rw [if_neg h5]
      refine ⟨rfl, ?_⟩
      rintro (h | ⟨i, i1, i2, i3, i4⟩)
      · exact h5 h
      · exact h2 i i1 i2 i3
theorem pow2_b {F : Int} (h0 : 0 ≤ F) (h : F ≤ 12) : (1 : Int) ≤ 2 ^ F.toNat ∧ (2 : Int) ^ F.toNat ≤ 4096 := by
  have hF : F = 0 ∨ F = 1 ∨ F = 2 ∨ F = 3 ∨ F = 4 ∨ F = 5 ∨ F = 6 ∨ F = 7 ∨ F = 8 ∨ F = 9 ∨ F = 10 ∨ F = 11 ∨ F = 12 := by omega
  rcases hF with rfl | rfl | rfl | rfl | rfl | rfl | rfl | rfl | rfl | rfl | rfl | rfl | rfl <;> decide
theorem op_has {s : zS} {r t : Int} (hW : IW s) (hS : IS s) (hr : zR r) (ht : zR t) : zturnB s (f_9 r t) (f_225 r t) (fun s2 => zeq MK s s2) := by
  have hh := c_hasTuple hW hr ht
  have hn := m_noTuple hW hr ht
  unfold zturnB
  by_cases htk : tok s r t
  · rw [if_pos htk] at hh hn
    rcases hS.2.2 with ⟨p1, p2⟩ | ⟨p1, p2, p3, p4⟩
    · refine ⟨2, s, 0, sI s 177 0 2, ?_, ?_, gI_same (by decide), by decide, fun h => absurd h (by decide), zeq_th _ _⟩
      · unfold f_9 f_40
        rw [zo_of hh, zg_pos (by decide), if_neg (by decide), if_pos p1, zb_of rfl, ze_r, if_neg (by decide), if_pos rfl]
      · unfold f_225 j_225_26
        rw [zo_of hn, zg_pos (by decide), if_pos rfl, if_pos p2, gI_same (by decide), if_pos (by decide)]
    · obtain ⟨t1, t2, t3, t4⟩ := tok_b hW htk
      have hF := hW.2.2.2.2.2.1
      have hp := pow2_b hF.1 hF.2
      have hc := c_contains hW (k := r * 125 + t) (a := gI s 0 12) (by omega) (by omega) p1 (zR_gI _ _ _)
      -- the reference's side, on any state that differs in out alone
      have hm : ∀ v : BitVec 64, ∃ b s2, f_225 r t (sJ s 205 0 v) = some (b, s2) ∧ gI s2 177 0 = 0 ∧ gJ s2 205 0 = v ∧ ((b = 1 ∧ zin s (gI s 0 12) (r * 125 + t)) ∨ (b = 0 ∧ ¬ zin s (gI s 0 12) (r * 125 + t))) ∧ zeq MK s s2 := by
        intro v
        have K1 : zeq MK s (sI (sJ s 205 0 v) 177 0 0) := (zeq_out s v).tr (zeq_th _ _)
        obtain ⟨s4, e4, l1, l2⟩ := m_listFree (s := sI (sJ s 205 0 v) 177 0 0) (IW.cong (K1.sub rfl) hW)
        have K2 : zeq MK s s4 := K1.tr ((fr_154 e4).eq rfl)
        have hFl : IFl s4 := by
          have u1 : gI s4 1 8 = gI (sI (sJ s 205 0 v) 177 0 0) 1 8 := (fr_154 e4).i rfl
          have u2 := (fr_154 e4).ia (c := 7) rfl rfl
          exact ⟨by rw [l1, u1], fun i hi hi2 => by rw [u2]; exact l2 i hi (by omega)⟩
        have u4 : gI s4 177 22 = gI s 0 12 := by rw [K2.i (c := 177) (i := 22) rfl]; exact p4
        obtain ⟨s7, e7, hA⟩ := m_assign (s := s4) (a := gI s4 177 22) (IW.cong (K2.sub rfl) hW) hFl (by omega) (zR_gI _ _ _)
        have K3 : zeq MK s s7 := K2.tr ((fr_195 e7).eq rfl)
        have g1 : gI s7 1 4 = gI s 1 4 := K3.i rfl
        have hA1 := hA r t t1 (by have := htk.2.1; omega) t3 (by omega)
        rw [u4, zin_cong (K3.sub rfl), show 125 * r + t = r * 125 + t by omega] at hA1
        have hth : gI s7 177 0 = 0 := by
          rw [(fr_195 e7).i rfl, (fr_154 e4).i rfl]
          exact gI_same (by decide)
        have hou : gJ s7 205 0 = v := by
          rw [(fr_195 e7).ja rfl rfl, (fr_154 e4).ja rfl rfl]
          exact gJ_same
        have hn2 := m_noTuple (s := sJ s 205 0 v) (IW.cong ((zeq_out s v).sub rfl) hW) hr ht
        have htk2 : tok (sJ s 205 0 v) r t := htk
        rw [if_pos htk2] at hn2
        have p3' : gI (sJ s 205 0 v) 177 21 = 1 := p3
        by_cases hb : tb (gJ s7 196 r) (gJ s7 197 r) t = true
        · refine ⟨1, s7, ?_, hth, hou, Or.inl ⟨rfl, (hA1.mp hb).2⟩, K3⟩
          unfold f_225 j_225_26
          rw [zo_of hn2, zg_pos (by decide), if_pos rfl, if_neg (by omega), gI_same (by decide), if_neg (by decide), zb_of e4, zb_of e7, zg_pos ⟨t1, t2⟩, m_bit t3 (by omega), zo_of rfl, if_pos hb, zg_pos (by decide)]
        · refine ⟨0, s7, ?_, hth, hou, Or.inr ⟨rfl, fun h => hb (hA1.mpr ⟨t4, h⟩)⟩, K3⟩
          unfold f_225 j_225_26
          rw [zo_of hn2, zg_pos (by decide), if_pos rfl, if_neg (by omega), gI_same (by decide), if_neg (by decide), zb_of e4, zb_of e7, zg_pos ⟨t1, t2⟩, m_bit t3 (by omega), zo_of rfl, if_neg hb, zg_pos (by decide)]
      rcases hc with ⟨hc1, hc2⟩ | ⟨hc1, hc2⟩
      · obtain ⟨b, s2, m1, m2, m3, m4, m5⟩ := hm (1#64)
        refine ⟨0, sJ s 205 0 (1#64), b, s2, ?_, m1, m2, by decide, fun _ => Or.inr ⟨?_, m3⟩, m5⟩
        · unfold f_9 f_40
          rw [zo_of hh, zg_pos (by decide), if_neg (by decide), if_neg (by omega), zo_of hc1, zg_pos (by decide), zb_of rfl, ze_l, zg_pos (by decide), if_neg (by decide)]
        · rcases m4 with ⟨h, -⟩ | ⟨-, h⟩
          · exact h
          · exact absurd hc2 h
      · obtain ⟨b, s2, m1, m2, m3, m4, m5⟩ := hm (0#64)
        refine ⟨0, sJ s 205 0 (0#64), b, s2, ?_, m1, m2, by decide, fun _ => Or.inl ⟨?_, m3⟩, m5⟩
        · unfold f_9 f_40
          rw [zo_of hh, zg_pos (by decide), if_neg (by decide), if_neg (by omega), zo_of hc1, zg_pos (by decide), zb_of rfl, ze_l, zg_pos (by decide), if_pos rfl]
        · rcases m4 with ⟨-, h⟩ | ⟨h, -⟩
          · exact absurd h hc2
          · exact h
  · rw [if_neg htk] at hh hn
    refine ⟨1, s, 0, sI s 177 0 1, ?_, ?_, gI_same (by decide), by decide, fun h => absurd h (by decide), zeq_th _ _⟩
    · unfold f_9 f_40
      rw [zo_of hh, zg_pos (by decide), if_pos rfl, zb_of rfl, ze_r, if_pos rfl]
    · unfold f_225 j_225_26
      rw [zo_of hn, zg_pos (by decide), if_neg (by decide), gI_same (by decide), if_pos (by decide)]
