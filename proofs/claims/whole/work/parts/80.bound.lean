/-! bound: the call. -/
theorem m_noTuple_cong {s s2 : zS} (h : zeq 2649388374917168212986973070475090183062278143442783324164256499810705992684819931578874490812448565362420273183161111805952 s s2) (r t : Int) : f_152 r t s2 = f_152 r t s := by
  have e1 : gI s2 177 1 = gI s 177 1 := h.i rfl
  have e2 : gI s2 177 10 = gI s 177 10 := h.i rfl
  have e3 := h.ia (c := 180) rfl rfl
  unfold f_152 f_153 b_153_4
  simp only [e1, e2, e3]
theorem m_listFree2 {s : zS} {F : Int} {fr : Int → Int} (r0 : 0 ≤ gI s 177 10) (r8 : gI s 177 10 ≤ 8) (f0 : 0 ≤ F) (f12 : F ≤ 12) (hfr : ∀ i, 0 ≤ i → i < F → 0 ≤ fr i ∧ fr i < 125 * gI s 177 10 ∧ gI s 181 (fr i) = 1) (hinc : ∀ i j, 0 ≤ i → i < j → j < F → fr i < fr j) (hall : ∀ k, 0 ≤ k → k < 125 * gI s 177 10 → gI s 181 k = 1 → ∃ i, 0 ≤ i ∧ i < F ∧ fr i = k) : ∃ s', f_154 s = some ((), s') ∧ gI s' 177 13 = F ∧ ∀ i, 0 ≤ i → i < F → gI s' 182 i = fr i / 125 ∧ gI s' 183 i = fr i % 125 := by
  have hloop := zlp_F (B := fun (q : Int × zS) => b_154_7 q.1 q.2) (I := fun q => 0 ≤ q.1 ∧ q.1 ≤ 125 * gI s 177 10 ∧ gI q.2 177 10 = gI s 177 10 ∧ (∀ k, gI q.2 181 k = gI s 181 k) ∧ 0 ≤ gI q.2 177 13 ∧ gI q.2 177 13 ≤ F ∧ (∀ i, 0 ≤ i → i < F → (fr i < q.1 ↔ i < gI q.2 177 13)) ∧ ∀ i, 0 ≤ i → i < gI q.2 177 13 → gI q.2 182 i = fr i / 125 ∧ gI q.2 183 i = fr i % 125) (μ := fun q => (125 * gI s 177 10 - q.1).toNat) (Q := fun t => gI t 177 13 = F ∧ ∀ i, 0 ≤ i → i < F → gI t 182 i = fr i / 125 ∧ gI t 183 i = fr i % 125) (by
    rintro ⟨k, σ⟩ ⟨a1, a2, a3, a4, a5, a6, a7, a8⟩
    dsimp only at a1 a2 a3 a4 a5 a6 a7 a8 ⊢
    unfold b_154_7
    rw [zg_pos ⟨by omega, by omega⟩, a3, zg_pos ⟨by omega, by omega⟩]
    by_cases hc : k < 125 * gI s 177 10
    · left
      rw [if_pos hc, zg_pos ⟨by omega, by omega⟩, a4 k]
      by_cases h1 : gI s 181 k = 1
      · obtain ⟨i0, i1, i2, i3⟩ := hall k a1 hc h1
        have hj : i0 = gI σ 177 13 := by
          have u1 := (a7 i0 i1 i2)
          have u2 : ¬ i0 < gI σ 177 13 := fun h => by have := u1.mpr h; omega
          by_cases u3 : gI σ 177 13 < i0
          · have u4 := hinc (gI σ 177 13) i0 a5 u3 i2
            have u5 := (a7 (gI σ 177 13) a5 (by omega)).mp (by omega)
            omega
          · omega
        rw [if_pos h1, zg_pos ⟨by omega, ⟨by omega, by omega⟩, by decide, by decide⟩, zg_pos ⟨by omega, by omega⟩]
        refine ⟨_, rfl, ⟨by dsimp only; omega, by dsimp only; omega, ?_, ?_, ?_, ?_, ?_, ?_⟩, by dsimp only; omega⟩
        · dsimp only; rw [gI_ni (by decide), gI_nc (by decide), gI_nc (by decide)]; exact a3
        · intro m; dsimp only; rw [gI_nc (by decide), gI_nc (by decide), gI_nc (by decide)]; exact a4 m
        · dsimp only; rw [gI_same ⟨by omega, by omega⟩]; omega
        · dsimp only; rw [gI_same ⟨by omega, by omega⟩]; omega
        · intro i hi hi2
          dsimp only
          rw [gI_same ⟨by omega, by omega⟩]
          constructor
          · intro hlt
            by_cases u : i = gI σ 177 13
            · omega
            · by_cases u2 : i < gI σ 177 13
              · omega
              · have := hinc (gI σ 177 13) i a5 (by omega) hi2
                rw [← hj, i3] at this
                omega
          · intro hlt
            by_cases u : i = gI σ 177 13
            · rw [u, ← hj, i3]; omega
            · have := (a7 i hi hi2).mpr (by omega)
              omega
        · intro i hi hi2
          dsimp only at hi2 ⊢
          rw [gI_same ⟨by omega, by omega⟩] at hi2
          rw [gI_nc (by decide), gI_nc (c := 177) (by decide)]
          by_cases u : i = gI σ 177 13
          · rw [gI_nc (by decide), u, gI_same ⟨by omega, by omega⟩, gI_same ⟨by omega, by omega⟩, ← hj, i3]
            exact ⟨rfl, rfl⟩
          · rw [gI_nc (by decide), gI_ni u, gI_ni u, gI_nc (by decide)]
            exact a8 i hi (by omega)
      · rw [if_neg h1]
        refine ⟨_, rfl, ⟨by dsimp only; omega, by dsimp only; omega, a3, a4, a5, a6, ?_, a8⟩, by dsimp only; omega⟩
        intro i hi hi2
        dsimp only
        rw [← a7 i hi hi2]
        have u := (hfr i hi hi2).2.2
        constructor
        · intro hlt
          by_cases v : fr i = k
          · rw [v] at u; exact absurd u h1
          · omega
        · intro hlt; omega
    · right
      rw [if_neg hc]
      have hlast : gI σ 177 13 = F := by
        by_cases u : gI σ 177 13 < F
        · have v := hfr (gI σ 177 13) a5 u
          have y := (a7 (gI σ 177 13) a5 u).mp (by omega)
          omega
        · omega
      exact ⟨σ, rfl, hlast, fun i hi hi2 => a8 i hi (by omega)⟩) (s := (0, sI s 177 13 0)) (by
    refine ⟨by dsimp only; omega, by dsimp only; omega, gI_ni (by decide), fun k => gI_nc (by decide), ?_, ?_, ?_, ?_⟩
    · dsimp only; rw [gI_same (by decide)]; decide
    · dsimp only; rw [gI_same (by decide)]; exact f0
    · intro i hi hi2
      dsimp only
      rw [gI_same (by decide)]
      have := (hfr i hi hi2).1
      omega
    · intro i hi hi2
      dsimp only at hi2
      rw [gI_same (by decide)] at hi2
      omega) (by dsimp only; omega)
  obtain ⟨t, ht, hq⟩ := hloop
  exact ⟨t, by unfold f_154; rw [zo_of ht], hq⟩
/-- what a call of bound that goes well leaves -/
def PBd (s s2 : zS) : Prop := IW s2 ∧ gI s2 0 12 = -1 ∧ gI s2 177 21 = 0 ∧ (zeq 93035356704401152538560257353470124695146123596566957524474887569162339111164481037884656704309080967783131013188228088286304604774071036 s s2 ∨ (∃ key how, 0 ≤ key ∧ key < 1000 ∧ 0 ≤ how ∧ how ≤ 2 ∧ (∀ k, gI s2 5 k = if k = key then how else gI s 5 k) ∧ (∀ k, gJ s2 6 k = if k = key then (if how = 2 then 18446744073709551615#64 else 0#64) else gJ s 6 k) ∧ (∀ i, 0 ≤ i → i < 17 → gJ s2 174 i = 0#64) ∧ gI s2 25 1 = 0 ∧ zeq 93035356704401152538555332102695575384697776035358686591656127044974125588992695140396886555423393934725672753506681544793804438868195868 s s2))
/-- the reference's side of bound, on a state whose part of the reference is that of s -/
theorem m_bound {s s1 : zS} {r t how : Int} (hW : IW s) (hq : zeq 93035356709837679408063569322755990741346922164964837386324952665898316047906999662137996278121412334497579931957372539485621625898926080 s s1) (ht : tok s r t) (h0 : 0 ≤ how) (h2 : how ≤ 2) (hroom : how = 1 → gI s 5 (r * 125 + t) ≠ 1 → gI s 1 8 < 12) : ∃ s4, f_154 (sI s1 177 0 0) = some ((), s4) ∧ f_151 r t how s1 = some (gI s 5 (r * 125 + t), sI (sI (sI s4 177 0 0) 181 (125 * r + t) how) 177 21 0) := by
  have hb := tok_b hW ht
  have hW0 := hW
  obtain ⟨-, -, ⟨r0, r8, rr⟩, -, hst, ⟨f0, f12⟩, hfr, hinc, hall⟩ := hW
  have e10 : gI (sI s1 177 0 0) 177 10 = gI s 1 4 := by rw [gI_ni (by decide), hq.i (c := 177) (i := 10) rfl]; exact rr
  have e181 : ∀ k, gI (sI s1 177 0 0) 181 k = gI s 181 k := fun k => by rw [gI_nc (by decide), hq.ia (c := 181) rfl rfl]
  obtain ⟨s4, x1, x2, -⟩ := m_listFree2 (s := sI s1 177 0 0) (F := gI s 1 8) (fr := fun i => gI s 7 i) (by omega) (by omega) f0 f12 (fun i hi hi2 => by
    obtain ⟨y1, y2, y3⟩ := hfr i hi hi2
    have y4 := (hst _ y1 y2).2.2.2 (by omega)
    rw [e181, ← (hst _ y1 y2).1, e10]
    exact ⟨y1, by omega, y3⟩) hinc (fun k hk hk2 h => by
    rw [e181, ← (hst k hk (by omega)).1] at h
    exact hall k hk (by omega) h)
  have F := fr_154 x1
  have hk : 0 ≤ r * 125 + t ∧ r * 125 + t < 1000 := by omega
  have hsame : gI s4 181 (125 * r + t) = gI s 5 (r * 125 + t) := by
    rw [F.ia (c := 181) rfl rfl, e181, (hst _ hk.1 hk.2).1]
    congr 1
    omega
  have hn : f_152 r t s1 = some 0 := by
    rw [m_noTuple_cong (hq.sub rfl), m_noTuple hW0 ⟨by omega, by omega⟩ ⟨by omega, by omega⟩, if_pos ht]
  refine ⟨s4, x1, ?_⟩
  have h86 : j_151_86 how (125 * r + t) (gI s 5 (r * 125 + t)) s4 = some (gI s 5 (r * 125 + t), sI (sI (sI s4 177 0 0) 181 (125 * r + t) how) 177 21 0) := by
    unfold j_151_86
    rw [gI_same (by decide), if_neg (by decide), zg_pos ⟨by omega, by omega⟩]
  unfold f_151 j_151_28
  rw [zo_of hn, zg_pos (by decide), if_pos rfl, zg_pos ⟨by omega, by omega⟩, if_neg (by omega), if_neg (by omega), gI_same (by decide), if_neg (by decide), zb_of x1, zg_pos ⟨by omega, by omega⟩, zg_pos ⟨by omega, by omega⟩, hsame]
  by_cases h1 : how = 1
  · rw [if_pos h1]
    by_cases h5 : gI s 5 (r * 125 + t) = 1
    · rw [if_pos h5, h86]
    · have := hroom h1 h5
      rw [if_neg h5, if_neg (by omega), h86]
  · rw [if_neg h1, h86]
theorem op_bound {s : zS} {r t how : Int} (hW : IW s) (hr : zR r) (ht : zR t) (hh : zR how) : zturn s (f_4 r t how) (f_151 r t how) (fun s2 => zeq MK s s2 ∨ PBd s s2) := by
  have hha := c_hasTuple hW hr ht
  have hno := m_noTuple hW hr ht
  unfold zturn
  by_cases htk : tok s r t
  · rw [if_pos htk] at hha hno
    have hb := tok_b hW htk
    have hk : 0 ≤ r * 125 + t ∧ r * 125 + t < 1000 := by omega
    by_cases hrange : how < 0 ∨ 2 < how
    · refine ⟨2, s, 0, sI s 177 0 2, ?_, ?_, gI_same (by decide), by decide, fun h => absurd h (by decide), Or.inl (zeq_th _ _)⟩
      · have h35 : f_35 r t how s = some (Sum.inr 8, s) := by
          unfold f_35
          rw [zo_of hha, zg_pos (by decide), if_neg (by decide), zg_pos hh]
          by_cases h1 : how < 0
          · rw [if_pos h1]
          · rw [if_neg h1, if_pos (by omega)]
        unfold f_4
        rw [zb_of h35, ze_r, if_neg (by decide), if_pos rfl]
      · unfold f_151 j_151_23 j_151_28
        rw [zo_of hno, zg_pos (by decide), if_pos rfl, zg_pos hh]
        by_cases h1 : how < 0
        · rw [if_pos h1, gI_same (by decide), if_pos (by decide)]
        · rw [if_neg h1, if_pos (by omega), gI_same (by decide), if_pos (by decide)]
    · by_cases hfull : how = 1 ∧ gI s 5 (r * 125 + t) ≠ 1 ∧ ¬ gI s 1 8 < 12
      · -- twelve are FREE
        obtain ⟨g1, g2, g3⟩ := hfull
        have hW2 : IW (sI s 177 0 0) := IW.cong ((zeq_th s 0).sub rfl) hW
        obtain ⟨s4, x1, x2, -⟩ := m_listFree hW2
        have F := fr_154 x1
        have x3 : gI s4 177 13 = 12 := by
          rw [x2, show gI (sI s 177 0 0) 1 8 = gI s 1 8 from gI_nc (by decide)]
          have := hW.2.2.2.2.2.1
          omega
        have x4 : gI s4 181 (125 * r + t) = gI s 5 (r * 125 + t) := by
          rw [F.ia (c := 181) rfl rfl, show gI (sI s 177 0 0) 181 (125 * r + t) = gI s 181 (125 * r + t) from gI_nc (by decide), (hW.2.2.2.2.1 _ hk.1 hk.2).1]
          congr 1
          omega
        refine ⟨3, s, 0, sI s4 177 0 3, ?_, ?_, gI_same (by decide), by decide, fun h => absurd h (by decide), Or.inl (((zeq_th s 0).tr (F.eq rfl)).tr (zeq_th _ _))⟩
        · have h35 : f_35 r t how s = some (Sum.inr 9, s) := by
            unfold f_35
            rw [zo_of hha, zg_pos (by decide), if_neg (by decide), zg_pos hh, if_neg (by omega), if_neg (by omega), zg_pos hk, if_pos g1, if_neg g2, if_neg g3]
          unfold f_4
          rw [zb_of h35, ze_r, if_neg (by decide), if_neg (by decide), if_pos rfl]
        · unfold f_151 j_151_28
          rw [zo_of hno, zg_pos (by decide), if_pos rfl, zg_pos hh, if_neg (by omega), if_neg (by omega), gI_same (by decide), if_neg (by decide), zb_of x1, zg_pos ⟨by omega, by omega⟩, zg_pos hh, if_pos g1, x4, if_neg g2, if_pos x3, gI_same (by decide), if_pos (by decide)]
      · -- it goes well
        have hroom : how = 1 → gI s 5 (r * 125 + t) ≠ 1 → gI s 1 8 < 12 := fun h1 h5 => by
          by_cases h : gI s 1 8 < 12
          · exact h
          · exact absurd ⟨h1, h5, h⟩ hfull
        have h35 : f_35 r t how s = j_35_94 how (r * 125 + t) (gI s 5 (r * 125 + t)) s := by
          unfold f_35
          rw [zo_of hha, zg_pos (by decide), if_neg (by decide), zg_pos hh, if_neg (by omega), if_neg (by omega), zg_pos hk]
          by_cases h1 : how = 1
          · rw [if_pos h1]
            by_cases h5 : gI s 5 (r * 125 + t) = 1
            · rw [if_pos h5]
            · rw [if_neg h5, if_pos (hroom h1 h5)]
          · rw [if_neg h1]
        have e181 : (125 * r + t) = r * 125 + t := by omega
        by_cases hsame : gI s 5 (r * 125 + t) = how
        · -- nothing changes
          let s1 := sJ (sI s 0 12 (-1)) 205 0 (BitVec.ofInt 64 (gI s 5 (r * 125 + t)))
          have Q1 : zeq 93035356709837679408063569322755990741346922164964837386324952665898316047906999662137996278121412334497579931957372539485621625898926080 s s1 := (zfr_tr (zfr_I (m := 8343699359066055009355553539724864369684230828144492225392586197758826514326428197897925296128) (c := 0) (i := 12) rfl) (zfr_JA rfl rfl)).eq rfl
          obtain ⟨s4, x1, x2⟩ := m_bound (s1 := s1) hW Q1 htk (by omega) (by omega) hroom
          have F := fr_154 x1
          have m181 : gI (sI s4 177 0 0) 181 (125 * r + t) = how := by
            rw [gI_nc (by decide), F.ia (c := 181) rfl rfl, show gI (sI s1 177 0 0) 181 (125 * r + t) = gI s 181 (125 * r + t) from rfl, e181, ← (hW.2.2.2.2.1 _ hk.1 hk.2).1]
            exact hsame
          have KK : zeq 93035356704401152538560257353470124695146123596566957524474887569162339111164481037884656704309080967783131013188228088286304604774071036 s (sI (sI (sI s4 177 0 0) 181 (125 * r + t) how) 177 21 0) := by
            have K1 : zeq 93035356704401152538560257353470124695146123596566957524474887569162339111164481037884656704309080967783131013188228088286304604774071036 s (sI s1 177 0 0) := (zfr_tr (zfr_tr (zfr_I (m := 2582249878086908589655919180346711233395760802184777052555523726224878450161333420022231551038964345762331369870672789504) (c := 0) (i := 12) rfl) (zfr_JA rfl rfl)) (zfr_I (c := 177) (i := 0) rfl)).eq rfl
            have K2 : zeq 93035356704401152538560257353470124695146123596566957524474887569162339111164481037884656704309080967783131013188228088286304604774071036 (sI s1 177 0 0) s4 := F.eq rfl
            have K3 : zeq 93035356704401152538560257353470124695146123596566957524474887569162339111164481037884656704309080967783131013188228088286304604774071036 s4 (sI s4 177 0 0) := (zfr_I (m := 2582249878086908589655919172003011874329705792829223512830659356540647622016841194629645353280137831435903171972747493376) rfl).eq rfl
            have K4 : zeq 93035356704401152538560257353470124695146123596566957524474887569162339111164481037884656704309080967783131013188228088286304604774071036 (sI s4 177 0 0) (sI (sI s4 177 0 0) 181 (125 * r + t) how) := by
              conv => arg 3; rw [← m181]
              exact zeq_self
            exact (((K1.tr K2).tr K3).tr K4).tr ((zfr_I (m := 5415370496329716522614090203404460358274291162843391748379842930887932241807862544999950011922147613471467208908991351228465152) rfl).eq rfl)
          refine ⟨0, s1, gI s 5 (r * 125 + t), _, ?_, x2, ?_, by decide, fun _ => ⟨zR_gI _ _ _, ?_⟩, Or.inr ⟨IW.cong (KK.sub rfl) hW, ?_, gI_same (by decide), Or.inl KK⟩⟩
          · unfold f_4
            rw [h35]
            unfold j_35_94
            rw [zg_pos (zR_gI _ _ _), zg_pos hh, if_pos hsame, zb_of rfl, ze_l, zg_pos (zR_gI _ _ _)]
          · rw [gI_ni (by decide), gI_nc (by decide), gI_same (by decide)]
          · show gJ s4 205 0 = _
            rw [F.ja (c := 205) rfl rfl]
            exact gJ_same
          · rw [gI_nc (by decide), gI_nc (by decide), gI_nc (by decide), F.i (c := 0) (i := 12) rfl]
            rw [show gI (sI s1 177 0 0) 0 12 = gI (sI s 0 12 (-1)) 0 12 from rfl, gI_same (by decide)]
        · -- it changes
          have hW1 : IW (sI s 0 12 (-1)) := IW.cong ((zfr_I (m := 8343699359066055009355553539724812947666814540455674882605631280555545803830627148527195652096) rfl).eq rfl) hW
          obtain ⟨sa, y1, y2, y3, y4, y5, y6, y7⟩ := c_change (s := sI s 0 12 (-1)) (key := r * 125 + t) (how := how) hW1 hk.1 hk.2 (by omega) (by omega) hsame (fun h1 => hroom h1 (fun h5 => hsame (by omega)))
          obtain ⟨sb, z1, z2⟩ := c_fillKnown (s := sa)
          let s1 := sJ (sI sb 25 1 0) 205 0 (BitVec.ofInt 64 (gI s 5 (r * 125 + t)))
          have Fa := fr_56 y1
          have Fb := fr_270_174 z1
          have G1 : zeq 93035356704401152538555332102695575384697776035358686591656127044974125588992695143461877637155171651442366807807299912031282683235400220 s s1 := ((((zfr_I (m := 8343699359066055009355553539724812947666814540455674882605631280555545803830627148527195652096) rfl).eq rfl).tr (Fa.eq rfl)).tr (Fb.eq rfl)).tr ((zfr_tr (zfr_I (m := 4925250774549309901534880012517951725634967408808180884915554091818404038779938281343986562571110256150199228432384) (c := 25) (i := 1) rfl) (zfr_JA rfl rfl)).eq rfl)
          have Q1 : zeq 93035356709837679408063569322755990741346922164964837386324952665898316047906999662137996278121412334497579931957372539485621625898926080 s s1 := ((((zfr_I (m := 8343699359066055009355553539724812947666814540455674882605631280555545803830627148527195652096) rfl).eq rfl).tr (Fa.eq rfl)).tr (Fb.eq rfl)).tr ((zfr_tr (zfr_I (m := 4925250774549309901534880012517951725634967408808180884915554091818404038779938281343986562571110256150199228432384) (c := 25) (i := 1) rfl) (zfr_JA rfl rfl)).eq rfl)
          obtain ⟨s4, x1, x2⟩ := m_bound (s1 := s1) hW Q1 htk (by omega) (by omega) hroom
          have F := fr_154 x1
          let s2 := sI (sI (sI s4 177 0 0) 181 (125 * r + t) how) 177 21 0
          have C2 : zeq 76341387005514304565814010271557555037310755847264633100404344498041663727794130334433698619034286484008301278265596 s1 s2 := (((zfr_I (m := 2582249878086908589655919172003011874329705792829223512830659356540647622016841194629645353280137831435903171972747493376) rfl).eq rfl).tr (F.eq rfl)).tr ((zfr_tr (zfr_tr (zfr_I (m := 5415373078579594609522679859323632361286165492549184577603355761547288785520475643572922358284194947909917012049641568343162880) (c := 177) (i := 0) rfl) (zfr_IA rfl rfl)) (zfr_I (c := 177) (i := 21) rfl)).eq rfl)
          have d5 : ∀ k, gI s2 5 k = if k = r * 125 + t then how else gI s 5 k := fun k => by
            rw [C2.ia (c := 5) rfl rfl, show gI s1 5 k = gI sb 5 k from rfl, Fb.ia (c := 5) rfl rfl, y2]
            rfl
          have d6 : ∀ k, gJ s2 6 k = if k = r * 125 + t then (if how = 2 then 18446744073709551615#64 else 0#64) else gJ s 6 k := fun k => by
            rw [C2.ja (c := 6) rfl rfl, show gJ s1 6 k = gJ sb 6 k from rfl, Fb.ja (c := 6) rfl rfl, y3]
            rfl
          have d18 : gI s2 1 8 = gI sa 1 8 := by
            rw [C2.i (c := 1) (i := 8) rfl, show gI s1 1 8 = gI sb 1 8 from rfl, Fb.i (c := 1) (i := 8) rfl]
          have d7 : ∀ i, gI s2 7 i = gI sa 7 i := fun i => by
            rw [C2.ia (c := 7) rfl rfl, show gI s1 7 i = gI sb 7 i from rfl, Fb.ia (c := 7) rfl rfl]
          have d181 : ∀ k, gI s2 181 k = if k = r * 125 + t then how else gI s 181 k := fun k => by
            rw [show gI s2 181 k = gI (sI s4 181 (125 * r + t) how) 181 k from rfl, gI_if hh, e181, F.ia (c := 181) rfl rfl, show gI (sI s1 177 0 0) 181 k = gI s1 181 k from rfl, Q1.ia (c := 181) rfl rfl]
          have KK : zeq 93035356704401152538555332102695575384697776035358686591656127044974125588992695140396886555423393934725672753506681544793804438868195868 s s2 := (((G1.sub rfl).tr ((zfr_I (m := 2582249878086908589655919172003011874329705792829223512830659356540647622016841194629645353280137831435903171972747493376) rfl).eq rfl)).tr (F.eq rfl)).tr ((zfr_tr (zfr_tr (zfr_I (m := 5415373078579594609522679859323632361286165492549184577603355761547288785520475643572922358284194947909917012049641568343162880) (c := 177) (i := 0) rfl) (zfr_IA rfl rfl)) (zfr_I (c := 177) (i := 21) rfl)).eq rfl)
          have k10 : gI s2 1 0 = gI s 1 0 := KK.i rfl
          have k14 : gI s2 1 4 = gI s 1 4 := KK.i rfl
          have k1771 : gI s2 177 1 = gI s 177 1 := KK.i rfl
          have k17710 : gI s2 177 10 = gI s 177 10 := KK.i rfl
          have k2 := KK.ia (c := 2) rfl rfl
          have k3 := KK.ja (c := 3) rfl rfl
          have k4 := KK.ia (c := 4) rfl rfl
          have k179 := KK.ja (c := 179) rfl rfl
          have k180 := KK.ia (c := 180) rfl rfl
          have c5 : ∀ k, gI sa 5 k = gI s2 5 k := fun k => by
            rw [C2.ia (c := 5) rfl rfl, show gI s1 5 k = gI sb 5 k from rfl, Fb.ia (c := 5) rfl rfl]
          obtain ⟨w1, w2, w3, w4, w5, -, -, -, -⟩ := hW
          refine ⟨0, s1, gI s 5 (r * 125 + t), s2, ?_, x2, ?_, by decide, fun _ => ⟨zR_gI _ _ _, ?_⟩, Or.inr ⟨⟨?_, ?_, ?_, ?_, ?_, ?_, ?_, ?_, ?_⟩, ?_, gI_same (by decide), Or.inr ⟨r * 125 + t, how, hk.1, hk.2, by omega, by omega, d5, d6, ?_, ?_, KK⟩⟩⟩
          · unfold f_4
            rw [h35]
            unfold j_35_94
            rw [zg_pos (zR_gI _ _ _), zg_pos hh, if_neg hsame, zb_of y1, zb_of z1, zb_of rfl, ze_l, zg_pos (zR_gI _ _ _)]
          · show gI (sI (sI (sI s4 177 0 0) 181 (125 * r + t) how) 177 21 0) 177 0 = 0
            rw [gI_ni (by decide), gI_nc (by decide), gI_same (by decide)]
          · show gJ s4 205 0 = _
            rw [F.ja (c := 205) rfl rfl]
            exact gJ_same
          · rw [k10, k1771]; exact w1
          · intro a ha ha3
            rw [k2, k10]; exact w2 a ha ha3
          · rw [k14, k17710]; exact w3
          · intro i hi hi2
            rw [k3, k179, k4, k180]
            exact w4 i hi (by omega)
          · intro k hk hk2
            rw [d5, d181, k14, k10, k4]
            by_cases e : k = r * 125 + t
            · rw [if_pos e, if_pos e]
              have e1 : k / 125 = r := by omega
              have e2 : k % 125 = t := by omega
              rw [e1, e2]
              exact ⟨rfl, by omega, by omega, fun _ => ⟨htk.2.1, htk.2.2.2⟩⟩
            · rw [if_neg e, if_neg e]
              exact w5 k hk hk2
          · rw [d18]; exact y4
          · intro i hi hi2
            rw [d7, ← c5]
            exact y5 i hi (by omega)
          · intro i j hi hij hj
            rw [d7, d7]
            exact y6 i j hi hij (by omega)
          · intro k hk hk2 h
            rw [← c5] at h
            obtain ⟨i, i0, iF, h3⟩ := y7 k hk hk2 h
            exact ⟨i, i0, by omega, by rw [d7, h3]⟩
          · rw [C2.i (c := 0) (i := 12) rfl, show gI s1 0 12 = gI sb 0 12 from rfl, Fb.i (c := 0) (i := 12) rfl, Fa.i (c := 0) (i := 12) rfl, gI_same (by decide)]
          · intro i hi hi2
            rw [C2.ja (c := 174) rfl rfl]
            exact z2 i hi hi2
          · rw [C2.i (c := 25) (i := 1) rfl]
            show gI (sI sb 25 1 0) 25 1 = 0
            rw [gI_same (by decide)]
  · rw [if_neg htk] at hha hno
    refine ⟨1, s, 0, sI s 177 0 1, ?_, ?_, gI_same (by decide), by decide, fun h => absurd h (by decide), Or.inl (zeq_th _ _)⟩
    · unfold f_4 f_35
      rw [zo_of hha, zg_pos (by decide), if_pos rfl, zb_of rfl, ze_r, if_pos rfl]
    · unfold f_151 j_151_28
      rw [zo_of hno, zg_pos (by decide), if_neg (by decide), gI_same (by decide), if_pos (by decide)]
