/-! HOLDS and VALUE. -/
theorem NEW.both {s s1 τ2 : zS} {c : Nat} {fm block : Int} {w : BitVec 64} (h : NEW s s1 τ2 c fm) (hc : zC c = true) (hz : zeq 36311779610655471400715369004882385948245976880063097089099707332977735338270889350390355477921808 s s1) (hW : IW s1) (hw : IWd s1) (b0 : 0 ≤ block) (bR : zR block) : ∃ (r : Int) (D : Dn), ((fm = 1 ∧ r = 0) ∨ (fm = 0 ∧ 1 ≤ r ∧ gI τ2 195 0 = r)) ∧ (0 ≤ r ∧ r ≤ 3) ∧ (∃ s', f_102 c block w s1 = some ((), s') ∧ IWd s' ∧ gI s' 19 0 = r ∧ ∀ β, β < 64 → w.getLsbD β = true → ∀ t, 0 ≤ t → t < gI s 1 0 ^ r.toNat → gb s' 18 t β = D e0 (zAb s1 (64 * block + β)) t) ∧ ∀ s2 : zS, zeq 36311779610655471400715369004882385948245976880063097089099707332977735338270889350390355477921808 s s2 → (∀ j, j ≤ 7 → ∀ i, gI s2 (c + j) i = gI s1 (c + j) i) → (∀ k, 0 ≤ k → gI s2 184 (5440 + k) = gI τ2 184 (5440 + k) ∧ gI s2 185 (5440 + k) = gI τ2 185 (5440 + k) ∧ gI s2 186 (5440 + k) = gI τ2 186 (5440 + k)) → gI s2 187 17 = gI τ2 177 41 → FOR s2 c 17 r D := by
  obtain ⟨v, len, len', r, D, h1, ⟨h2, h3, h5⟩, h6, ⟨h7, h8⟩, ⟨h9, h10, h11⟩, h12⟩ := h
  have hrb := h1.r_b
  refine ⟨r, D, h12, ⟨hrb.1, hrb.2.1⟩, ?_, fun s2 hz2 hcode hr hl => ?_⟩
  · obtain ⟨s', e, w1, w2, w3⟩ := c_work (w := w) (e := e0) (block := block) h1.2.2.1 ⟨hc, by decide, h5, fun k _ _ => ⟨rfl, rfl, rfl, rfl, rfl, rfl, rfl⟩⟩ h2 h3 h6.1 h6.2 hW hw (by rw [h9, hz.i (c := 1) (i := 0) rfl]) (by rw [h10, hz.i (c := 1) (i := 4) rfl]; omega) (fun q _ _ => by rw [h11 q, hz.ia (c := 4) rfl rfl]) b0 bR
    exact ⟨s', e, w1, w2, fun β hb hw t t0 t1 => w3 β hb hw t t0 (by rw [h9]; exact t1)⟩
  · refine ⟨v, len, len', h1.mono rfl rfl rfl (fun _ _ _ => rfl) h6.1 (Int.le_refl _) (fun _ _ _ => ⟨rfl, rfl⟩) (fun k k0 k1 => ⟨hcode 1 (by decide) k, hcode 2 (by decide) k, hcode 3 (by decide) k, hcode 4 (by decide) k, hcode 5 (by decide) k, hcode 6 (by decide) k, hcode 7 (by decide) k⟩) (fun k k0 k1 => hr k k0), ⟨hc, ?_, ?_, h5⟩, h6, ⟨by rw [hl]; exact h7, h8, by decide, by decide⟩, ⟨by rw [hz2.i (c := 1) (i := 0) rfl]; exact h9, by rw [hz2.i (c := 1) (i := 4) rfl, h10]; omega⟩, fun q _ _ => by rw [hz2.ia (c := 4) rfl rfl]; exact h11 q⟩
    · rw [← h2]; exact hcode 0 (by decide) 0
    · rw [← h3]; exact hcode 0 (by decide) 8
/-- the reference lists and assigns the present one -/
theorem m_present {s : zS} {a : Int} (hW : IW s) (ha : gI s 177 22 = a) (a0 : 0 ≤ a) (aR : zR a) : ∃ s1 s2, f_154 s = some ((), s1) ∧ f_195 (gI s1 177 22) s1 = some ((), s2) ∧ IAs s2 a ∧ zfr 21153791001287955166461289857048673274508949854856999017108761449082304592807014133736472926549182906806035271004487325581312 s s2 := by
  obtain ⟨s1, e1, l1, l2⟩ := m_listFree hW
  have z1 : zfr 21153791001287955166461289857048673274508949854856999017108761448781003709508453457072355034235214918833122209670213668962304 s s1 := zfr_sub rfl (fr_154 e1)
  have hFl : IFl s1 := ⟨by rw [l1, z1.i rfl], fun i hi hi2 => by
    rw [z1.ia (c := 7) rfl rfl]
    rw [z1.i rfl] at hi2
    exact l2 i hi hi2⟩
  have h22 : gI s1 177 22 = a := by rw [z1.i rfl]; exact ha
  obtain ⟨s2, e2, hA⟩ := m_assign (s := s1) (a := a) (IW.cong (z1.eq rfl) hW) hFl a0 aR
  exact ⟨s1, s2, e1, by rw [h22]; exact e2, hA, zfr_tr (zfr_sub rfl z1) (zfr_sub rfl (fr_195 e2))⟩
/-- no present one: only the tape goes -/
theorem no_present {s : zS} (hI : Inv s) (h12 : gI s 0 12 = -1) (h21 : gI s 177 21 = 0) : f_239 (sI s 8 1 0) = some (0, sI (sI (sI s 8 1 0) 177 0 1) 177 3 0) ∧ Inv (sI (sI (sI s 8 1 0) 177 0 1) 177 3 0) ∧ gI (sI (sI (sI s 8 1 0) 177 0 1) 177 3 0) 177 0 = 1 := by
  refine ⟨?_, ?_, ?_⟩
  · unfold f_239 j_239_13
    have u1 : gI (sI s 8 1 0) 177 21 = 0 := by rw [gI_nc (by decide)]; exact h21
    rw [u1, if_pos rfl, gI_same (by decide), if_pos (by decide), if_neg (by decide)]
  · have z : zfr 23240248902782177311382762032382715290082236696599900171719225203335127667951548953594391921881562373684883534297941671936 s (sI (sI (sI s 8 1 0) 177 0 1) 177 3 0) := zfr_tr (zfr_tr (zfr_I rfl) (zfr_I rfl)) (zfr_I rfl)
    have g81 : gI (sI (sI (sI s 8 1 0) 177 0 1) 177 3 0) 8 1 = 0 := by rw [gI_nc (by decide), gI_nc (by decide), gI_same (by decide)]
    exact hI.cong (z.eq rfl) ⟨by rw [g81, gI_same (by decide)], by rw [g81]; decide, by rw [g81]; decide, fun i i0 i1 => by rw [g81] at i1; omega⟩
  · rw [gI_ni (by decide), gI_same (by decide)]
theorem m_may {s : zS} (h21 : gI s 177 21 = 1) : f_239 s = some (1, sI s 177 0 0) := by
  unfold f_239 j_239_13
  rw [if_neg (by omega), gI_same (by decide), if_neg (by decide), if_pos rfl]
theorem op_holds {s : zS} (hI : Inv s) : zturn s f_13 f_241 Inv := by
  obtain ⟨⟨hW, hT, hWd⟩, ⟨hS, hC, hL, hV⟩, ⟨hRf, hN, hM, hRn⟩, D, hF⟩ := id hI
  unfold zturn
  rcases hS.2.2 with ⟨p1, p2⟩ | ⟨p1, p2, p3, p4⟩
  · obtain ⟨n1, n2, n3⟩ := no_present hI p1 p2
    refine ⟨1, sI s 8 1 0, 0, _, ?_, ?_, n3, by decide, fun h => absurd h (by decide), n2⟩
    · have e70 : f_70 s = some ((), sI s 8 1 0) := rfl
      have h46 : f_46 s = some (Sum.inr 11, sI s 8 1 0) := by
        unfold f_46
        rw [if_pos p1, zb_of e70]
      unfold f_13
      rw [zb_of h46, ze_r, if_pos rfl]
    · unfold f_241
      rw [zb_of n1, zg_pos (by decide), if_pos rfl]
  obtain ⟨a, ha⟩ : ∃ a, a = gI s 0 12 := ⟨_, rfl⟩
  have aR : zR a := by rw [ha]; exact zR_gI _ _ _
  have a0 : 0 ≤ a := by rw [ha]; exact p1
  obtain ⟨F, pl, s1, ⟨F0, F7, pl0, plR⟩, e17, x, x4, x5, x6⟩ := txt (fm := 1) hW hT hN hRf.1 (Or.inr rfl)
  have z17 : zfr 226625754138375559491950224689589191445479299305407864001526951084243874059471931868594057770823834053246056448 s s1 := zfr_sub rfl (fr_17 e17)
  have h12 : gI s1 0 12 = a := by rw [z17.i rfl, ha]
  by_cases hF0 : F = 0
  · rw [if_pos hF0] at e17
    have p06 : gP s1 0 6 = gP s 0 6 := z17.p rfl
    have hW1 : IW s1 := IW.cong (z17.eq rfl) hW
    have hw1 : IWd s1 := IWd.cong (z17.eq rfl) hWd
    obtain ⟨β, hβ⟩ : ∃ β, β = (a % 64).toNat := ⟨_, rfl⟩
    have hβ64 : β < 64 := by omega
    have hsh : zshl (a % 64) = β := by rw [zshl_eq (by omega) (by omega), hβ]
    have hwb : ((1#64) <<< β).getLsbD β = true := by rw [bv_shl1 _ _ hβ64, decide_eq_true rfl]
    -- the class works it out
    obtain ⟨τ0, -, -, -, -, -, mN0⟩ := x6 s (zeq.rf _ _) hM
    obtain ⟨r0, D0, -, -, ⟨s12, e102, y1, -, -⟩, -⟩ := (mN0 hF0).both (block := a / 64) (w := (1#64) <<< β) hRf.1 (z17.eq rfl) hW1 hw1 (by omega) ⟨by omega, by have := aR.2; omega⟩
    have z102 : zfr 19239260838083241802870625048898248928261591440656956380834127638791856333738872368854622194768025215237644615744 s1 s12 := zfr_sub rfl (fr_102 e102)
    have e44 : f_44 s1 = some ((), s12) := by
      unfold f_44
      rw [h12, zg_pos ⟨a0, aR, by decide, by decide⟩, zg_pos ⟨by omega, by omega⟩, hsh, p06, zb_of e102]
    obtain ⟨b, hb⟩ : ∃ b : Int, b = if (gJ s12 18 0).getLsbD β = true then 1 else 0 := ⟨_, rfl⟩
    have hb01 : b = 0 ∨ b = 1 := by
      rw [hb]
      split
      · exact Or.inr rfl
      · exact Or.inl rfl
    have hbR : zR b := by rcases hb01 with e | e <;> rw [e] <;> decide
    have e45 : f_45 (gJ s12 18 0) s12 = some b := by
      unfold f_45
      rw [z102.i rfl, h12, zg_pos ⟨a0, aR, by decide, by decide⟩, zg_pos ⟨by omega, by omega⟩, hsh, hb]
      cases hc : (gJ s12 18 0).getLsbD β
      · rw [if_pos ((bv_t0 _ _).mpr hc), if_neg (by decide)]
      · rw [if_neg (fun h => by have := (bv_t0 _ _).mp h; rw [hc] at this; cases this), if_pos rfl]
    have h46 : f_46 s = some (Sum.inl b, s12) := by
      unfold f_46
      rw [if_neg (by omega), zb_of e17, zg_pos (by decide), if_pos rfl, zb_of e44, zo_of e45, zg_pos hbR]
      by_cases h : b = 0
      · rw [if_pos h, h]
      · have : b = 1 := hb01.resolve_left h
        rw [if_neg h, this]
    obtain ⟨s11, hs11⟩ : ∃ s11, s11 = sJ s12 205 0 (BitVec.ofInt 64 b) := ⟨_, rfl⟩
    have e13 : f_13 s = some (0, s11) := by
      unfold f_13
      rw [zb_of h46, ze_l, zg_pos hbR, hs11]
    have z1t : zfr 2582249878086908589655919172003011874329705792829223512830710778558063909705658537416600270483418541931704221343477137408 s12 (sI s11 177 0 0) := by rw [hs11]; exact zfr_tr (zfr_JA rfl rfl) (zfr_I rfl)
    have zt1 : zfr 2582249897326169427739160974873636923227954721090814953487667159392191548497514871155472639338040736699729436581121753152 s1 (sI s11 177 0 0) := zfr_tr (zfr_sub rfl z102) (zfr_sub rfl z1t)
    have zts : zfr 2582249897552795181877536534365587147917543912536294252793075023393718499581758745214944571206634794470553270634367809600 s (sI s11 177 0 0) := zfr_tr (zfr_sub rfl z17) (zfr_sub rfl zt1)
    obtain ⟨τ2, hm⟩ := x6 (sI s11 177 0 0) (zts.eq rfl) (NNm.cong (zts.eq rfl) hM)
    have hI2 := Inv.read hI z17 x x4 x5 zt1 (IWd.cong (z1t.eq rfl) y1) hm
    obtain ⟨e156, ⟨m1, m2, m3, m4⟩, m5, m6, ⟨m7, m8⟩, mN⟩ := hm
    rw [if_pos hF0] at e156
    have z156 : zfr 9238362129264542546556981441436956257759104982754574535071596629173808906661501227988847036546068168270430746304713384317822894604288 (sI s11 177 0 0) τ2 := zfr_sub rfl (fr_156 e156)
    have zτ : zfr 9238362129267124796454534236618833794293470569902492078984132923426601981684894946488428795291283112841637381099183937588457262413888 s τ2 := zfr_tr (zfr_sub rfl zts) (zfr_sub rfl z156)
    have z1τ : zfr 9238362129267124796454307610864695418733978619677802489792687444127296573820893419537344551417223640909768787041413113754404016357440 s1 τ2 := zfr_tr (zfr_sub rfl zt1) (zfr_sub rfl z156)
    obtain ⟨r, D1, hr, -, ⟨s', e102', -, -, y5⟩, hFOR⟩ := (mN hF0).both (block := a / 64) (w := (1#64) <<< β) hRf.1 (z17.eq rfl) hW1 hw1 (by omega) ⟨by omega, by have := aR.2; omega⟩
    rw [e102] at e102'
    injection e102' with h1
    injection h1 with _ h1
    rw [← h1] at y5
    have hr0 : r = 0 := by
      rcases hr with ⟨-, h⟩ | ⟨h, -⟩
      · exact h
      · exact absurd h (by decide)
    have hbit : (gJ s12 18 0).getLsbD β = D1 e0 (zAb s a) 0 := by
      have := y5 β hβ64 hwb 0 (by decide) (by rw [hr0, show ((0 : Int).toNat) = 0 from rfl, Int.pow_zero]; decide)
      rw [show 64 * (a / 64) + (β : Int) = a by omega, zAb_cong (z17.eq rfl)] at this
      exact this
    have h22 : gI τ2 177 22 = a := by rw [zτ.i rfl, ha]; exact p4
    obtain ⟨s13, s16, e154, e195, hA, z16⟩ := m_present (s := τ2) hI2.1.1 h22 a0 aR
    have zz : zfr 9238362150420915797742489403080123651342143844411441933841131940535363430767199539295442929027756039390820287905219208592944587995200 s s16 := zfr_tr (zfr_sub rfl zτ) (zfr_sub rfl z16)
    have hFOR2 : FOR s16 (gP s 0 6) 17 0 D1 := by
      have := hFOR s16 (zz.eq rfl) (fun j hj i => by
        have hcb := zC_b hRf.1
        rw [z16.cod (by decide +kernel) (by omega) (by omega), z1τ.cod (by decide +kernel) (by omega) (by omega)]) (fun k _ => by
        rw [z16.ia (c := 184) rfl rfl, z16.ia (c := 185) rfl rfl, z16.ia (c := 186) rfl rfl]
        exact ⟨rfl, rfl, rfl⟩) (by rw [z16.ia (c := 187) rfl rfl]; exact m8)
      rw [hr0] at this
      exact this
    obtain ⟨s19, e198⟩ := hFOR2.t (IW.cong (zz.eq rfl) hW) hA
    rw [zAb_cong (zz.eq rfl), ← hbit, ← hb] at e198
    have z198 : zfr 24530806944976732556039678516220153034435395923196984534500294222346575973852489186456027058429306240630108415201208202408871792121741312 s16 s19 := zfr_sub rfl (fr_198 e198)
    have zf : zfr 24530806944997886347040966471386614324292444596471493484355151221363684735301571491048834072563042713556657598108014237679876279447322624 τ2 s19 := zfr_tr (zfr_sub rfl z16) (zfr_sub rfl z198)
    refine ⟨0, s11, b, s19, e13, ?_, ?_, by decide, fun _ => ⟨hbR, ?_⟩, ?_⟩
    · unfold f_241
      have u1 : gI s11 177 21 = 1 := by rw [hs11, gI_sJ, z102.i rfl, z17.i rfl]; exact p3
      rw [zb_of (m_may u1), zg_pos (by decide), if_neg (by decide), zb_of e156, zg_pos (by decide), if_neg (by decide), zb_of e154, zb_of e195, zb_of e198, zg_pos hbR]
      by_cases h : b = 0
      · rw [if_pos h, h]
      · have : b = 1 := hb01.resolve_left h
        rw [if_neg h, this]
    · rw [zf.i rfl, z156.i rfl, gI_same (by decide)]
    · rw [zf.ja (c := 205) rfl rfl, z156.ja (c := 205) rfl rfl, gJ_sI, hs11, gJ_same]
    · exact hI2.cong (zf.eq rfl) (IT.cong (zf.eq rfl) hI2.1.2.1)
  · rw [if_neg hF0] at e17
    obtain ⟨s11, hs11⟩ : ∃ s11, s11 = sJ s1 205 0 (BitVec.ofInt 64 (-1 - pl)) := ⟨_, rfl⟩
    have hpR : zR (-1 - pl) := ⟨by have := plR.2; omega, by omega⟩
    have e13 : f_13 s = some (0, s11) := by
      have h46 : f_46 s = some (Sum.inl (-1 - pl), s1) := by
        unfold f_46
        rw [if_neg (by omega), zb_of e17, zg_pos hpR, if_neg (by omega)]
      unfold f_13
      rw [zb_of h46, ze_l, zg_pos hpR, hs11]
    have zt1 : zfr 2582249897326169427739160974873636923227954721090814953487667159392191548497514871155472639338040736699729436581121753152 s1 (sI s11 177 0 0) := by rw [hs11]; exact zfr_tr (zfr_JA rfl rfl) (zfr_I rfl)
    have zts : zfr 2582249897552795181877536534365587147917543912536294252793075023393718499581758745214944571206634794470553270634367809600 s (sI s11 177 0 0) := zfr_tr (zfr_sub rfl z17) (zfr_sub rfl zt1)
    obtain ⟨τ2, hm⟩ := x6 (sI s11 177 0 0) (zts.eq rfl) (NNm.cong (zts.eq rfl) hM)
    have hw2 : IWd (sI s11 177 0 0) := by
      rw [hs11]
      exact IWd.cong ((z17.eq rfl : zeq 96 s s1).tr ((zfr_tr (zfr_JA rfl rfl) (zfr_I rfl) : zfr 2582249878086908589655919172003011874329705792829223512830710778558063909705658537416600270483418541931704221343477137408 s1 _).eq rfl)) hWd
    have hI2 := Inv.read hI z17 x x4 x5 zt1 hw2 hm
    obtain ⟨e156, ⟨m1, m2, m3, m4⟩, -⟩ := hm
    rw [if_neg hF0] at e156 m2
    have z156 : zfr 9238362129264542546556981441436956257759104982754574535071596629173808906661501227988847036546068168270430746304713384317822894604288 (sI s11 177 0 0) τ2 := zfr_sub rfl (fr_156 e156)
    refine ⟨0, s11, -1 - pl, τ2, e13, ?_, ?_, by decide, fun _ => ⟨hpR, ?_⟩, hI2⟩
    · unfold f_241
      have u1 : gI s11 177 21 = 1 := by rw [hs11, gI_sJ, z17.i rfl]; exact p3
      rw [zb_of (m_may u1), zg_pos (by decide), if_neg (by decide), zb_of e156, zg_pos (by decide), if_pos rfl, m2]
    · rw [z156.i rfl, gI_same (by decide)]
    · rw [z156.ja (c := 205) rfl rfl, gJ_sI, hs11, gJ_same]
