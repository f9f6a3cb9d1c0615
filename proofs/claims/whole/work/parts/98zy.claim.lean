/-! CLAIM. -/
theorem op_claim {s : zS} (hI : Inv s) : zturnQ s f_16 f_191 Inv := by
  obtain ⟨⟨hW, hT, hWd⟩, ⟨hS, hC, hL, hV⟩, ⟨hRf, hN, hM, hRn⟩, D, hF⟩ := id hI
  obtain ⟨k0, k16, k18⟩ := hS.1
  unfold zturnQ
  obtain ⟨F, pl, s1, ⟨F0, F7, pl0, plR⟩, e17, x, x4, x5, x6⟩ := txt (fm := 1) hW hT hN hRf.1 (Or.inr rfl)
  have z17 : zfr 226625754138375559491950224689589191445479299305407864001526951084243874059471931868594057770823834053246056448 s s1 := zfr_sub rfl (fr_17 e17)
  by_cases hF0 : F = 0
  · rw [if_pos hF0] at e17
    have p06 : gP s1 0 6 = gP s 0 6 := z17.p rfl
    have p28 : ∀ i, gP s1 28 i = gP s 28 i := (z17.eq rfl : zeq 268435456 s s1).pa (c := 28) rfl rfl
    obtain ⟨s9, e22, y1, y2, y3, y4⟩ := c_keep (s1 := s1) (row := 16) (by decide) (by decide) (by rw [p06]; exact hRf.1)
    have z22 : zfr 8474069661551462118876734063783013149974132462893120832159756118486525430596474740521985638400 s1 s9 := zfr_sub rfl (fr_22 e22)
    obtain ⟨s11, hs11⟩ : ∃ s11, s11 = sI s9 0 11 1 := ⟨_, rfl⟩
    have z11 : zfr 4171849679533027504677776769862406473833407270227837441302815640277772901915313574263597826048 s9 s11 := by rw [hs11]; exact zfr_I rfl
    have e16 : f_16 s = some (0, s11) := by
      unfold f_16
      rw [zb_of e17, zg_pos (by decide), if_pos rfl, zb_of e22, hs11]
    have zt1 : zfr 2582249878086908589655919184648931215414195416383734346476078980348187355137799468092217112044436163947691486758330957824 s1 (sI s11 177 0 0) := zfr_tr (zfr_sub rfl z22) (zfr_tr (zfr_sub rfl z11) (zfr_I rfl))
    have zts : zfr 2582249878313534343794294744140881440103784607829213645781486844349714306222043342151689043913030221718515320811577014272 s (sI s11 177 0 0) := zfr_tr (zfr_sub rfl z17) (zfr_sub rfl zt1)
    obtain ⟨τ2, hm⟩ := x6 (sI s11 177 0 0) (zts.eq rfl) (NNm.cong (zts.eq rfl) hM)
    obtain ⟨e156, ⟨m1, m2, m3, m4⟩, m5, m6, ⟨m7, m8⟩, mN⟩ := hm
    rw [if_pos hF0] at e156
    have hnew := mN hF0
    have z156 : zfr 9238362129264542546556981441436956257759104982754574535071596629173808906661501227988847036546068168270430746304713384317822894604288 (sI s11 177 0 0) τ2 := zfr_sub rfl (fr_156 e156)
    obtain ⟨l0, l1⟩ := hnew.len
    obtain ⟨s3, e189, w1, w2, w3, w4⟩ := m_keep (s := τ2) (row := 16) (by decide) (by decide) l0 l1
    have z189 : zfr 367798929807813326006003286516074204068497389324064522240 τ2 s3 := zfr_sub rfl (fr_189 e189)
    obtain ⟨s2, hs2⟩ : ∃ s2, s2 = sI (sI s3 177 19 1) 177 21 0 := ⟨_, rfl⟩
    have zf : zfr 6769213120412145653267612754255575447842863953554239685474803663609915302259828181249937514902684516839334011136239189035581440 s3 s2 := by rw [hs2]; exact zfr_tr (zfr_I rfl) (zfr_I rfl)
    have zτ : zfr 6769213120412145653267612754255575447842863953554239685474803663609915670058757989063263520905971032913538079633628513100103680 τ2 s2 := zfr_tr (zfr_sub rfl z189) (zfr_sub rfl zf)
    have z12 : zfr 9238368898480245208580721617639366432519201756833942284727665838323948595557151675172166085951675288066992021802672212043770261143552 s1 s2 := zfr_tr (zfr_sub rfl zt1) (zfr_tr (zfr_sub rfl z156) (zfr_sub rfl zτ))
    have z92 : zfr 9238368898480245208580721617639366432510727687172390822608789104260165582407177542709272965119515531948505496372075737303248275505152 s9 s2 := zfr_tr (zfr_tr (zfr_sub rfl z11) (zfr_I rfl)) (zfr_tr (zfr_sub rfl z156) (zfr_sub rfl zτ))
    have zall : zfr 9238368898480245208580948243393504808078693707058631873919111317623254003421153202123250329825734759998860615860443035877823507200000 s s2 := zfr_tr (zfr_sub rfl z17) (zfr_sub rfl z12)
    have g11 : gI s2 0 11 = 1 := by rw [zτ.i rfl, z156.i rfl, gI_nc (by decide), hs11, gI_same (by decide)]
    have g19 : gI s2 177 19 = 1 := by rw [hs2, gI_ni (by decide), gI_same (by decide)]
    have g21 : gI s2 177 21 = 0 := by rw [hs2, gI_same (by decide)]
    have g12 : gI s2 0 12 = -1 := by rw [z92.i rfl]; exact y4
    have g10 : gI s2 0 10 = gI s 0 10 := zall.i rfl
    have g18 : gI s2 177 18 = gI s 177 18 := zall.i rfl
    have g81 : gI s2 8 1 = 0 := by rw [z12.i rfl]; exact x.1
    have g3 : gI s2 177 3 = 0 := by rw [zτ.i rfl]; exact m4
    refine ⟨0, s11, s2, e16, ?_, by decide, ?_⟩
    · unfold f_191
      rw [zb_of e156, zg_pos (by decide), if_neg (by decide), zb_of e189, hs2]
    · have hkF := keepF (s2 := s2) (row := 16) hRf hF hnew (by decide) (by decide) (fun x i hx => by rw [z12.cod (by decide +kernel) hx.1 hx.2.1]; exact x5 x i hx) (fun j hj i => z12.cod (by decide +kernel) (by have := zC_b hRf.1; omega) (by have := zC_b hRf.1; omega) i) (by rw [z92.p rfl, y1]; exact p28 _) (fun i => by
          rw [(z92.eq rfl : zeq 268435456 s9 s2).pa (c := 28) rfl rfl, y2, p06, p28]) (fun k h1 h2 => by
          obtain ⟨a1, a2, a3⟩ := w1 k h1 h2
          rw [zf.ia (c := 184) rfl rfl, zf.ia (c := 185) rfl rfl, zf.ia (c := 186) rfl rfl]
          exact ⟨a1, a2, a3⟩) (by rw [zf.ia (c := 187) rfl rfl]; exact w3) (fun x hx i hi ho => by
          have h1 : gI s2 x i = gI s3 x i := by
            rcases hx with e | e | e
            · rw [e, zf.ia (c := 184) rfl rfl]
            · rw [e, zf.ia (c := 185) rfl rfl]
            · rw [e, zf.ia (c := 186) rfl rfl]
          rw [h1, w2 x hx i ho, m6 x hx i hi]
          rcases hx with e | e | e
          · rw [e, zts.ia (c := 184) rfl rfl]
          · rw [e, zts.ia (c := 185) rfl rfl]
          · rw [e, zts.ia (c := 186) rfl rfl]) (fun j hj h17 => by
          rw [zf.ia (c := 187) rfl rfl, w4 j hj, m7 j h17, zts.ia (c := 187) rfl rfl]) (zall.eq rfl) (fun i => by
          rw [z92.ja (c := 174) rfl rfl, y3, z17.ja (c := 174) rfl rfl]) (fun i hi => by
          rcases hi with ⟨h1, h2⟩ | ⟨h1, h2⟩
          · rw [g10] at h2
            exact Or.inr (Or.inl ⟨h1, h2⟩)
          · exact Or.inl h1) (by omega)
      obtain ⟨hRf2, D2, hF2⟩ := hkF
      refine ⟨⟨IW.cong (zall.eq rfl) hW, ⟨by rw [g81, g3], by rw [g81]; decide, by rw [g81]; decide, fun i i0 i1 => by rw [g81] at i1; omega⟩, IWd.cong (zall.eq rfl) hWd⟩, ⟨⟨⟨by omega, by omega, by omega⟩, ⟨by rw [g11, g19], Or.inr g11⟩, Or.inl ⟨g12, g21⟩⟩, IC.cong (zall.eq rfl) hC, Or.inr ⟨?_, ?_, ?_⟩, IV.cong (zall.eq rfl) hV⟩, ⟨hRf2, ⟨fun i => ?_, ?_, ?_, ?_⟩, NNm.cong (zτ.eq rfl) m5, IRn.of hRn hW (zall.i rfl) (fun q _ _ => zall.ia (c := 4) rfl rfl q) (zall.eq rfl)⟩, D2, hF2⟩
      · rw [zτ.i rfl]; exact m3
      · rw [z12.i (c := 0) (i := 14) rfl, zτ.i (c := 177) (i := 4) rfl, m1]; exact x.2.1
      · rw [z12.i (c := 0) (i := 15) rfl, zτ.i (c := 177) (i := 5) rfl, m2]; exact x.2.2
      · rw [z12.ia (c := 13) rfl rfl]; exact x4.1 i
      · rw [z12.i (c := 8) (i := 5) rfl]; exact x4.2.1
      · rw [z12.i (c := 10) (i := 16) rfl]; exact x4.2.2.1
      · rw [g81]; decide
  · rw [if_neg hF0] at e17
    have hpR : zR (-1 - pl) := ⟨by have := plR.2; omega, by omega⟩
    have e16 : f_16 s = some (-1 - pl, s1) := by
      unfold f_16
      rw [zb_of e17, zg_pos hpR, if_neg (by omega)]
    have zt1 : zfr 2582249897326169427739160974873636923227954721090814953487667159392191548497514871155472639338040736699729436581121753152 s1 (sI s1 177 0 0) := zfr_I rfl
    have zts : zfr 2582249897552795181877536534365587147917543912536294252793075023393718499581758745214944571206634794470553270634367809600 s (sI s1 177 0 0) := zfr_tr (zfr_sub rfl z17) (zfr_sub rfl zt1)
    obtain ⟨τ2, hm⟩ := x6 (sI s1 177 0 0) (zts.eq rfl) (NNm.cong (zts.eq rfl) hM)
    have hw2 : IWd (sI s1 177 0 0) := IWd.cong ((z17.eq rfl : zeq 96 s s1).tr ((zfr_I rfl : zfr 2582249878086908589655919172003011874329705792829223512830659356540647622016841194629645353280137831435903171972747493376 s1 _).eq rfl)) hWd
    have hI2 := Inv.read hI z17 x x4 x5 zt1 hw2 hm
    obtain ⟨e156, ⟨m1, m2, m3, m4⟩, -⟩ := hm
    rw [if_neg hF0] at e156 m2
    refine ⟨-1 - pl, s1, τ2, e16, ?_, hpR, hI2⟩
    unfold f_191
    rw [zb_of e156, zg_pos (by decide), if_pos rfl, m2]
