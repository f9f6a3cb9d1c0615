/-! FACT and CLAIM. -/
/-- all but the last value -/
def InvV (s : zS) : Prop := (IW s ∧ IT s ∧ IWd s) ∧ (IS s ∧ IC s ∧ IL s) ∧ (IRf s ∧ NNp s ∧ NNm s ∧ IRn s) ∧ ∃ D, IFm s D
theorem InvV.inv {s : zS} (h : InvV s) (hV : IV s) : Inv s := ⟨h.1, ⟨h.2.1.1, h.2.1.2.1, h.2.1.2.2, hV⟩, h.2.2⟩
theorem InvV.cong {s s2 : zS} (hI : InvV s) (h : zeq 5678445813373454321248660677152807577367878959755668249436590740739943112437775307212358154112058107908053700223639754069448067129596 s s2) (hT : IT s2) : InvV s2 := by
  obtain ⟨⟨a1, a2, a3⟩, ⟨a4, a5, a6⟩, ⟨a8, a9, a10, a11⟩, D, a12⟩ := hI
  refine ⟨⟨IW.cong (h.sub rfl) a1, hT, IWd.cong (h.sub rfl) a3⟩, ⟨IS.cong (h.sub rfl) a4, IC.cong (h.sub rfl) a5, IL.cong (h.sub rfl) a6⟩, ⟨IRf.cong (h.sub rfl) a8, ⟨fun i => ?_, ?_, ?_, hT.2.1⟩, NNm.cong (h.sub rfl) a10, IRn.of a11 a1 (h.i rfl) (fun q _ _ => h.ia (c := 4) rfl rfl q) (h.sub rfl)⟩, D, IFm.cong (h.sub rfl) a12⟩
  · rw [h.ia (c := 13) rfl rfl]; exact a9.1 i
  · rw [h.i (c := 8) (i := 5) rfl]; exact a9.2.1
  · rw [h.i (c := 10) (i := 16) rfl]; exact a9.2.2.1
theorem InvV.read {s s1 t τ2 : zS} {fm F pl : Int} (hI : Inv s) (z17 : zfr 226625754138375559491950224689589191445479299305407864001526951084243874059471931868594057770823834053246056448 s s1) (x : gI s1 8 1 = 0 ∧ gI s1 0 14 = F ∧ gI s1 0 15 = (if F = 0 then -1 else pl)) (x4 : NNp s1) (x5 : ∀ x i, zot (gP s 0 6) x → gI s1 x i = gI s x i) (zt : zfr 2582249897326169427739161241872016413341715020468528224681681484730352624050415232589321013804703353603774360646519095360 s1 t) (hw : IWd t) (hm : MRD s s1 t τ2 (gP s 0 6) fm F pl) : InvV τ2 := by
  obtain ⟨⟨hW, hT, hWd⟩, ⟨hS, hC, hL, hV⟩, ⟨hRf, hN, hM, hRn⟩, D, hF⟩ := id hI
  obtain ⟨e156, ⟨m1, m2, m3, m4⟩, m5, m6, ⟨m7, m8⟩, -⟩ := hm
  obtain ⟨x1, x2, x3⟩ := x
  have z156 : zfr 9238362129264542546556981441436956257759104982754574535071596629173808906661501227988847036546068168270430746304713384317822894604288 t τ2 := zfr_sub rfl (fr_156 e156)
  have zst : zfr 2582249897552795181877536801363966638031304211914007523987089348731879575134659106648792945673297411374598194699765151808 s t := zfr_tr (zfr_sub rfl z17) (zfr_sub rfl zt)
  have zall : zfr 9238362129267124796454534236618833794560468949392605839283510636697795996010233107563981695652716961216104043716087982512522659756096 s τ2 := zfr_tr (zfr_sub rfl zst) (zfr_sub rfl z156)
  have z1 : zfr 9238362129267124796454307610864695419000976999167916250092065157398490588146231580612897451778657489284235449658317158678469413699648 s1 τ2 := zfr_tr (zfr_sub rfl zt) (zfr_sub rfl z156)
  have g81 : gI τ2 8 1 = 0 := by rw [z1.i rfl]; exact x1
  refine ⟨⟨IW.cong (zall.eq rfl) hW, ⟨by rw [g81, m4], by rw [g81]; decide, by rw [g81]; decide, fun i i0 i1 => by rw [g81] at i1; omega⟩, IWd.cong (z156.eq rfl) hw⟩, ⟨IS.cong (zall.eq rfl) hS, IC.cong (zall.eq rfl) hC, Or.inr ⟨m3, ?_, ?_⟩⟩, ⟨IRf.cong (zall.eq rfl) hRf, ⟨fun i => ?_, ?_, ?_, ?_⟩, m5, IRn.of hRn hW (zall.i rfl) (fun q _ _ => zall.ia (c := 4) rfl rfl q) (zall.eq rfl)⟩, D, fun i hi => ?_⟩
  · rw [m1, z1.i rfl]; exact x2
  · rw [m2, z1.i rfl]; exact x3
  · rw [z1.ia (c := 13) rfl rfl]; exact x4.1 i
  · rw [z1.i (c := 8) (i := 5) rfl]; exact x4.2.1
  · rw [z1.i (c := 10) (i := 16) rfl]; exact x4.2.2.1
  · rw [g81]; decide
  · have hi' := (act_cong (zall.eq rfl)).mp hi
    have hib := act_b hi' hS.1.2.1
    have hp28 : gP τ2 28 i = gP s 28 i := (zall.eq rfl : zeq 268435456 s τ2).pa (c := 28) rfl rfl i
    obtain ⟨r1, r2⟩ := hRf.2.1 i hib.1 (by omega)
    rw [hp28]
    refine ⟨(hF i hi').1.read hRf.1 r1 r2 hib.1 (by omega) (zall.eq rfl) (fun x j hx => ?_) (fun x hx k k0 k1 => ?_) ?_, (hF i hi').2.eq (zall.eq rfl)⟩
    · rw [z1.cod (by decide +kernel) hx.1 hx.2.1]
      exact x5 x j hx
    · rw [m6 x hx _ (by omega)]
      rcases hx with e | e | e
      · rw [e, zst.ia (c := 184) rfl rfl]
      · rw [e, zst.ia (c := 185) rfl rfl]
      · rw [e, zst.ia (c := 186) rfl rfl]
    · rw [m7 i (by omega), zst.ia (c := 187) rfl rfl]
theorem Inv.read {s s1 t τ2 : zS} {fm F pl : Int} (hI : Inv s) (z17 : zfr 226625754138375559491950224689589191445479299305407864001526951084243874059471931868594057770823834053246056448 s s1) (x : gI s1 8 1 = 0 ∧ gI s1 0 14 = F ∧ gI s1 0 15 = (if F = 0 then -1 else pl)) (x4 : NNp s1) (x5 : ∀ x i, zot (gP s 0 6) x → gI s1 x i = gI s x i) (zt : zfr 2582249897326169427739160974873636923227954721090814953487667159392191548497514871155472639338040736699729436581121753152 s1 t) (hw : IWd t) (hm : MRD s s1 t τ2 (gP s 0 6) fm F pl) : Inv τ2 := by
  refine (InvV.read hI z17 x x4 x5 (zfr_sub rfl zt) hw hm).inv (IV.cong ?_ hI.2.1.2.2.2)
  have z156 : zfr 9238362129264542546556981441436956257759104982754574535071596629173808906661501227988847036546068168270430746304713384317822894604288 t τ2 := zfr_sub rfl (fr_156 hm.1)
  exact ((z17.eq rfl).tr (zt.eq rfl)).tr (z156.eq rfl)
/-- a formula is kept in both -/
theorem keepF {s s1 τ2 s2 : zS} {D : Int → Dn} {row : Int} (hRf : IRf s) (hF : IFm s D) (hnew : NEW s s1 τ2 (gP s 0 6) 1) (r0 : 0 ≤ row) (r1 : row < 17) (hot : ∀ x i, zot (gP s 0 6) x → gI s2 x i = gI s x i) (hcs : ∀ j, j ≤ 7 → ∀ i, gI s2 (gP s 0 6 + j) i = gI s1 (gP s 0 6 + j) i) (hp06 : gP s2 0 6 = gP s 28 row) (hp28 : ∀ i, gP s2 28 i = if i = row then gP s 0 6 else gP s 28 i) (hrow : ∀ k, 0 ≤ k → k < gI τ2 177 41 → gI s2 184 (320 * row + k) = gI τ2 184 (5440 + k) ∧ gI s2 185 (320 * row + k) = gI τ2 185 (5440 + k) ∧ gI s2 186 (320 * row + k) = gI τ2 186 (5440 + k)) (hlen : gI s2 187 row = gI τ2 177 41) (hoth : ∀ x, (x = 184 ∨ x = 185 ∨ x = 186) → ∀ i, i < 5440 → (i < 320 * row ∨ 320 * row + 200 ≤ i) → gI s2 x i = gI s x i) (hol : ∀ j, j ≠ row → j ≠ 17 → gI s2 187 j = gI s 187 j) (hz : zeq 583124460806408452493840925784287727286538334615338827608557115641390571287726660653290049125744816 s s2) (h174 : ∀ i, gJ s2 174 i = if i = row then 0#64 else gJ s 174 i) (hact : ∀ i, act s2 i → i = row ∨ act s i) (k16 : gI s2 0 10 ≤ 16) : IRf s2 ∧ ∃ D2, IFm s2 D2 := by
  obtain ⟨hc, h28, hdis⟩ := id hRf
  obtain ⟨r, Dn1, hFOR, hr⟩ := hnew.for (s2 := s2) hc r0 (by omega) (hz.i rfl) (hz.i rfl) (fun q => hz.ia (c := 4) rfl rfl q) hcs hrow hlen
  have hr0 : r = 0 := by
    rcases hr with ⟨-, h⟩ | ⟨h, -⟩
    · exact h
    · exact absurd h (by decide)
  rw [hr0] at hFOR
  obtain ⟨D2, hD2⟩ : ∃ D2 : Int → Dn, D2 = fun i => if i = row then Dn1 else D i := ⟨_, rfl⟩
  refine ⟨⟨?_, fun i i0 i1 => ?_, fun i j i0 ij j1 => ?_⟩, D2, fun i hi => ?_⟩
  · rw [hp06]; exact (h28 row r0 r1).1
  · rw [hp28, hp06]
    by_cases e : i = row
    · rw [if_pos e]
      exact ⟨hc, fun h => (h28 row r0 r1).2 h.symm⟩
    · rw [if_neg e]
      refine ⟨(h28 i i0 i1).1, ?_⟩
      by_cases h : i < row
      · exact hdis i row i0 h r1
      · exact fun h' => hdis row i r0 (by omega) i1 h'.symm
  · rw [hp28, hp28]
    by_cases e : i = row
    · rw [if_pos e, if_neg (by omega)]
      exact fun h => (h28 j (by omega) j1).2 h.symm
    · rw [if_neg e]
      by_cases e2 : j = row
      · rw [if_pos e2]
        exact (h28 i i0 (by omega)).2
      · rw [if_neg e2]
        exact hdis i j i0 ij j1
  · have hib := act_b hi k16
    by_cases e : i = row
    · have hD : D2 i = Dn1 := by rw [hD2]; exact if_pos e
      rw [hp28, if_pos e, hD, e]
      refine ⟨hFOR, fun b hb hk => ?_⟩
      rw [h174, if_pos rfl, BitVec.getLsbD_zero] at hk
      cases hk
    · have hD : D2 i = D i := by rw [hD2]; exact if_neg e
      have hi' : act s i := by
        rcases hact i hi with h | h
        · exact absurd h e
        · exact h
      obtain ⟨q1, q2⟩ := h28 i hib.1 (by omega)
      rw [hp28, if_neg e, hD]
      refine ⟨(hF i hi').1.read hc q1 q2 hib.1 (by omega) (hz.sub rfl) hot (fun x hx k k0 k1 => hoth x hx _ (by omega) (by omega)) (hol i e (by omega)), fun b hb hk β hβ hlt => ?_⟩
      rw [h174, if_neg e] at hk
      rw [hz.i (c := 1) (i := 8) rfl] at hlt
      rw [hD, zAb_cong (hz.sub rfl)]
      show (gJ s2 173 _).getLsbD β = _
      rw [hz.ja (c := 173) rfl rfl]
      exact (hF i hi').2 b hb hk β hβ hlt
theorem c_keep {s1 : zS} {row : Int} (r0 : 0 ≤ row) (r1 : row < 17) (hc : zC (gP s1 0 6) = true) : ∃ s9, f_22 row s1 = some ((), s9) ∧ gP s9 0 6 = gP s1 28 row ∧ (∀ i, gP s9 28 i = if i = row then gP s1 0 6 else gP s1 28 i) ∧ (∀ i, gJ s9 174 i = if i = row then 0#64 else gJ s1 174 i) ∧ gI s9 0 12 = -1 := by
  refine ⟨_, by unfold f_22; rw [zg_pos ⟨r0, r1⟩, zg_pos hc], ?_, fun i => ?_, fun i => ?_, ?_⟩
  · rw [gP_sI, gP_sJ, gP_same]
  · rw [gP_sI, gP_sJ, gP_nc (by decide)]
    by_cases e : i = row
    · rw [if_pos e, e, gP_same]
    · rw [if_neg e, gP_ni e]
  · rw [gJ_sI, gJ_if]
    by_cases e : i = row
    · rw [if_pos e, if_pos e]
    · rw [if_neg e, if_neg e, gJ_sP, gJ_sP]
  · rw [gI_same (by decide)]
theorem op_fact {s : zS} (hI : Inv s) : zturn s f_5 f_155 Inv := by
  obtain ⟨⟨hW, hT, hWd⟩, ⟨hS, hC, hL, hV⟩, ⟨hRf, hN, hM, hRn⟩, D, hF⟩ := id hI
  obtain ⟨k0, k16, k18⟩ := hS.1
  unfold zturn
  by_cases hk : gI s 0 10 < 16
  · obtain ⟨F, pl, s1, ⟨F0, F7, pl0, plR⟩, e17, x, x4, x5, x6⟩ := txt (fm := 1) hW hT hN hRf.1 (Or.inr rfl)
    have z17 : zfr 226625754138375559491950224689589191445479299305407864001526951084243874059471931868594057770823834053246056448 s s1 := zfr_sub rfl (fr_17 e17)
    by_cases hF0 : F = 0
    · rw [if_pos hF0] at e17
      have g10 : gI s1 0 10 = gI s 0 10 := z17.i rfl
      have p06 : gP s1 0 6 = gP s 0 6 := z17.p rfl
      have p28 : ∀ i, gP s1 28 i = gP s 28 i := (z17.eq rfl : zeq 268435456 s s1).pa (c := 28) rfl rfl
      obtain ⟨s9, e22, y1, y2, y3, y4⟩ := c_keep (s1 := s1) (row := gI s 0 10) k0 (by omega) (by rw [p06]; exact hRf.1)
      have z22 : zfr 8474069661551462118876734063783013149974132462893120832159756118486525430596474740521985638400 s1 s9 := zfr_sub rfl (fr_22 e22)
      have g9 : gI s9 0 10 = gI s 0 10 := by rw [z22.i rfl]; exact g10
      obtain ⟨s11, hs11⟩ : ∃ s11, s11 = sJ (sI s9 0 10 (gI s 0 10 + 1)) 205 0 (BitVec.ofInt 64 (gI s 0 10)) := ⟨_, rfl⟩
      have z11 : zfr 2085924839766513752338888384931254658934119922802736063438362737342167161453457836502528557056 s9 s11 := by rw [hs11]; exact zfr_tr (zfr_I rfl) (zfr_JA rfl rfl)
      have e5 : f_5 s = some (0, s11) := by
        have h36 : f_36 s = some (Sum.inl (gI s 0 10), sI s9 0 10 (gI s 0 10 + 1)) := by
          unfold f_36
          rw [if_pos hk, zb_of e17, zg_pos (by decide), if_pos rfl, g10, zb_of e22, g9, gI_same ⟨by omega, by omega⟩, show gI s 0 10 + 1 - 1 = gI s 0 10 by omega]
        unfold f_5
        rw [zb_of h36, ze_l, zg_pos (zR_gI _ _ _), hs11]
      have zt1 : zfr 2582249878086908589655919182563006375647681664044845961544927165448900007712698090227764209108830423485835748997261688832 s1 (sI s11 177 0 0) := zfr_tr (zfr_sub rfl z22) (zfr_tr (zfr_sub rfl z11) (zfr_I rfl))
      have zts : zfr 2582249878313534343794294742054956600337270855490325260850335029450426958796941964287236140977424481256659583050507745280 s (sI s11 177 0 0) := zfr_tr (zfr_sub rfl z17) (zfr_sub rfl zt1)
      obtain ⟨τ2, hm⟩ := x6 (sI s11 177 0 0) (zts.eq rfl) (NNm.cong (zts.eq rfl) hM)
      obtain ⟨e156, ⟨m1, m2, m3, m4⟩, m5, m6, ⟨m7, m8⟩, mN⟩ := hm
      rw [if_pos hF0] at e156
      have hnew := mN hF0
      have z156 : zfr 9238362129264542546556981441436956257759104982754574535071596629173808906661501227988847036546068168270430746304713384317822894604288 (sI s11 177 0 0) τ2 := zfr_sub rfl (fr_156 e156)
      have g18 : gI τ2 177 18 = gI s 0 10 := by rw [z156.i rfl, zts.i rfl]; exact k18
      obtain ⟨l0, l1⟩ := hnew.len
      obtain ⟨s3, e189, w1, w2, w3, w4⟩ := m_keep (s := τ2) (row := gI s 0 10) k0 (by omega) l0 l1
      have z189 : zfr 367798929807813326006003286516074204068497389324064522240 τ2 s3 := zfr_sub rfl (fr_189 e189)
      have g18b : gI s3 177 18 = gI s 0 10 := by rw [z189.i rfl]; exact g18
      obtain ⟨s2, hs2⟩ : ∃ s2, s2 = sI (sI (sI s3 188 (gI s 0 10) 0) 177 18 (gI s 0 10 + 1)) 177 21 0 := ⟨_, rfl⟩
      have zf : zfr 6092291808370931087940851478830017903058577558198815716927323297248924164352703824792491503149255015634551616419830549134180352 s3 s2 := by rw [hs2]; exact zfr_tr (zfr_tr (zfr_IA rfl rfl) (zfr_I rfl)) (zfr_I rfl)
      have zτ : zfr 6092291808370931087940851478830017903058577558198815716927323297248924532151633632605817509152541531708755684917219873198702592 τ2 s2 := zfr_tr (zfr_sub rfl z189) (zfr_sub rfl zf)
      have z12 : zfr 9238368221558933167366156290878091006959571047707780415551358402458651082751114480700384527127799081734555211279815639897369290473472 s1 s2 := zfr_tr (zfr_sub rfl zt1) (zfr_tr (zfr_sub rfl z156) (zfr_sub rfl zτ))
      have z92 : zfr 9238368221558933167366156290878091006951096978046228953432481668394868069601140348237491406295639325616068685849219165156847304835072 s9 s2 := zfr_tr (zfr_tr (zfr_sub rfl z11) (zfr_I rfl)) (zfr_tr (zfr_sub rfl z156) (zfr_sub rfl zτ))
      have zall : zfr 9238368221558933167366382916632229382519062997932470004742803881757956490615116007651468771001858553666423805337586463731422536529920 s s2 := zfr_tr (zfr_sub rfl z17) (zfr_sub rfl z12)
      have g10b : gI s2 0 10 = gI s 0 10 + 1 := by
        rw [zτ.i rfl, z156.i rfl, gI_nc (by decide), hs11, gI_sJ, gI_same ⟨by omega, by omega⟩]
      have g18c : gI s2 177 18 = gI s 0 10 + 1 := by rw [hs2, gI_ni (by decide), gI_same ⟨by omega, by omega⟩]
      have g21 : gI s2 177 21 = 0 := by rw [hs2, gI_same (by decide)]
      have g12 : gI s2 0 12 = -1 := by rw [z92.i rfl]; exact y4
      have g81 : gI s2 8 1 = 0 := by rw [z12.i rfl]; exact x.1
      have g3 : gI s2 177 3 = 0 := by rw [zτ.i rfl]; exact m4
      refine ⟨0, s11, gI s 0 10, s2, e5, ?_, ?_, by decide, fun _ => ⟨zR_gI _ _ _, ?_⟩, ?_⟩
      · unfold f_155 j_155_15
        have u1 : gI s11 177 18 = gI s 0 10 := by rw [z11.i rfl, z22.i rfl, z17.i rfl]; exact k18
        rw [u1, if_neg (by omega), gI_same (by decide), if_neg (by decide), zb_of e156, zg_pos (by decide), if_neg (by decide), g18, zb_of e189, g18b, zg_pos ⟨k0, hk⟩, gI_same ⟨by omega, by omega⟩, hs2, show gI s 0 10 + 1 - 1 = gI s 0 10 by omega]
      · rw [zτ.i rfl, z156.i rfl, gI_same (by decide)]
      · rw [zτ.ja (c := 205) rfl rfl, z156.ja (c := 205) rfl rfl, gJ_sI, hs11, gJ_same]
      · have hkF := keepF (s2 := s2) (row := gI s 0 10) hRf hF hnew k0 (by omega) (fun x i hx => by rw [z12.cod (by decide +kernel) hx.1 hx.2.1]; exact x5 x i hx) (fun j hj i => z12.cod (by decide +kernel) (by have := zC_b hRf.1; omega) (by have := zC_b hRf.1; omega) i) (by rw [z92.p rfl, y1]; exact p28 _) (fun i => by
          rw [(z92.eq rfl : zeq 268435456 s9 s2).pa (c := 28) rfl rfl, y2, p06, p28]) (fun k h1 h2 => by
          obtain ⟨a1, a2, a3⟩ := w1 k h1 h2
          rw [zf.ia (c := 184) rfl rfl, zf.ia (c := 185) rfl rfl, zf.ia (c := 186) rfl rfl]
          exact ⟨a1, a2, a3⟩) (by rw [zf.ia (c := 187) rfl rfl]; exact w3) (fun x hx i hi ho => by
          have h1 : gI s2 x i = gI s3 x i := by
            rcases hx with e | e | e
            · rw [e, zf.ia (c := 184) rfl rfl]
            · rw [e, zf.ia (c := 185) rfl rfl]
            · rw [e, zf.ia (c := 186) rfl rfl]
          rw [h1, w2 x hx i ho, m6 x hx i hi]
          rcases hx with e | e | e
          · rw [e, zts.ia (c := 184) rfl rfl]
          · rw [e, zts.ia (c := 185) rfl rfl]
          · rw [e, zts.ia (c := 186) rfl rfl]) (fun j hj h17 => by
          rw [zf.ia (c := 187) rfl rfl, w4 j hj, m7 j h17, zts.ia (c := 187) rfl rfl]) (zall.eq rfl) (fun i => by
          rw [z92.ja (c := 174) rfl rfl, y3, z17.ja (c := 174) rfl rfl]) (fun i hi => by
          rcases hi with ⟨h1, h2⟩ | ⟨h1, h2⟩
          · rw [g10b] at h2
            by_cases e : i = gI s 0 10
            · exact Or.inl e
            · exact Or.inr (Or.inl ⟨h1, by omega⟩)
          · exact Or.inr (Or.inr ⟨h1, by rw [zall.i rfl] at h2; exact h2⟩)) (by omega)
        obtain ⟨hRf2, D2, hF2⟩ := hkF
        refine ⟨⟨IW.cong (zall.eq rfl) hW, ⟨by rw [g81, g3], by rw [g81]; decide, by rw [g81]; decide, fun i i0 i1 => by rw [g81] at i1; omega⟩, IWd.cong (zall.eq rfl) hWd⟩, ⟨⟨⟨by omega, by omega, by omega⟩, ?_, Or.inl ⟨g12, g21⟩⟩, ⟨?_, ?_, fun f f0 f1 => ⟨fun hf => ?_, fun hf => ?_⟩⟩, Or.inr ⟨?_, ?_, ?_⟩, IV.cong (zall.eq rfl) hV⟩, ⟨hRf2, ⟨fun i => ?_, ?_, ?_, ?_⟩, NNm.cong (zτ.eq rfl) m5, IRn.of hRn hW (zall.i rfl) (fun q _ _ => zall.ia (c := 4) rfl rfl q) (zall.eq rfl)⟩, D2, hF2⟩
        · rw [zall.i (c := 0) (i := 11) rfl, zall.i (c := 177) (i := 19) rfl]; exact hS.2.1
        · rw [zall.i (c := 0) (i := 13) rfl]; exact hC.1
        · rw [zall.i (c := 0) (i := 13) rfl]; exact hC.2.1
        · rw [zall.i (c := 0) (i := 13) rfl, hs2, gI_nc (by decide), gI_nc (by decide)]
          rw [g10b] at hf
          by_cases e : f = gI s 0 10
          · rw [e, gI_same (by decide), (hC.2.2 (gI s 0 10) k0 (by omega)).2 (Int.le_refl _)]
            rfl
          · rw [gI_ni e, z189.ia (c := 188) rfl rfl, z156.ia (c := 188) rfl rfl, zts.ia (c := 188) rfl rfl]
            exact (hC.2.2 f f0 f1).1 (by omega)
        · rw [zall.i (c := 0) (i := 13) rfl]
          rw [g10b] at hf
          exact (hC.2.2 f f0 f1).2 (by omega)
        · rw [zτ.i rfl]; exact m3
        · rw [z12.i (c := 0) (i := 14) rfl, zτ.i (c := 177) (i := 4) rfl, m1]; exact x.2.1
        · rw [z12.i (c := 0) (i := 15) rfl, zτ.i (c := 177) (i := 5) rfl, m2]; exact x.2.2
        · rw [z12.ia (c := 13) rfl rfl]; exact x4.1 i
        · rw [z12.i (c := 8) (i := 5) rfl]; exact x4.2.1
        · rw [z12.i (c := 10) (i := 16) rfl]; exact x4.2.2.1
        · rw [g81]; decide
    · rw [if_neg hF0] at e17
      obtain ⟨s11, hs11⟩ : ∃ s11, s11 = sJ s1 205 0 (BitVec.ofInt 64 (-1 - pl)) := ⟨_, rfl⟩
      have hpR : zR (-1 - pl) := ⟨by have := plR.2; omega, by omega⟩
      have e5 : f_5 s = some (0, s11) := by
        have h36 : f_36 s = some (Sum.inl (-1 - pl), s1) := by
          unfold f_36
          rw [if_pos hk, zb_of e17, zg_pos hpR, if_neg (by omega)]
        unfold f_5
        rw [zb_of h36, ze_l, zg_pos hpR, hs11]
      have zt1 : zfr 2582249897326169427739160974873636923227954721090814953487667159392191548497514871155472639338040736699729436581121753152 s1 (sI s11 177 0 0) := by rw [hs11]; exact zfr_tr (zfr_JA rfl rfl) (zfr_I rfl)
      have zts : zfr 2582249897552795181877536534365587147917543912536294252793075023393718499581758745214944571206634794470553270634367809600 s (sI s11 177 0 0) := zfr_tr (zfr_sub rfl z17) (zfr_sub rfl zt1)
      obtain ⟨τ2, hm⟩ := x6 (sI s11 177 0 0) (zts.eq rfl) (NNm.cong (zts.eq rfl) hM)
      have hw2 : IWd (sI s11 177 0 0) := by
        rw [hs11]
        exact IWd.cong ((z17.eq rfl : zeq 96 s s1).tr ((zfr_tr (zfr_JA rfl rfl) (zfr_I rfl) : zfr 2582249878086908589655919172003011874329705792829223512830710778558063909705658537416600270483418541931704221343477137408 s1 _).eq rfl)) hWd
      have hI2 := Inv.read hI z17 x x4 x5 zt1 hw2 hm
      obtain ⟨e156, ⟨m1, m2, m3, m4⟩, -⟩ := hm
      rw [if_neg hF0] at e156 m2
      have z156 : zfr 9238362129264542546556981441436956257759104982754574535071596629173808906661501227988847036546068168270430746304713384317822894604288 (sI s11 177 0 0) τ2 := zfr_sub rfl (fr_156 e156)
      refine ⟨0, s11, -1 - pl, τ2, e5, ?_, ?_, by decide, fun _ => ⟨hpR, ?_⟩, hI2⟩
      · unfold f_155 j_155_15
        have u1 : gI s11 177 18 = gI s 0 10 := by rw [hs11, gI_sJ, z17.i rfl]; exact k18
        rw [u1, if_neg (by omega), gI_same (by decide), if_neg (by decide), zb_of e156, zg_pos (by decide), if_pos rfl, m2]
      · rw [z156.i rfl, gI_same (by decide)]
      · rw [z156.ja (c := 205) rfl rfl, gJ_sI, hs11, gJ_same]
  · refine ⟨1, sI s 8 1 0, 0, sI (sI (sI s 8 1 0) 177 0 1) 177 3 0, ?_, ?_, ?_, by decide, fun h => absurd h (by decide), ?_⟩
    · have e70 : f_70 s = some ((), sI s 8 1 0) := rfl
      have h36 : f_36 s = some (Sum.inr 9, sI s 8 1 0) := by
        unfold f_36
        rw [if_neg hk, zb_of e70]
      unfold f_5
      rw [zb_of h36, ze_r, if_pos rfl]
    · unfold f_155 j_155_15
      have u1 : gI (sI s 8 1 0) 177 18 = 16 := by rw [gI_nc (by decide)]; omega
      rw [u1, if_pos rfl, gI_same (by decide), if_pos (by decide)]
    · rw [gI_ni (by decide), gI_same (by decide)]
    · have z : zfr 23240248902782177311382762032382715290082236696599900171719225203335127667951548953594391921881562373684883534297941671936 s (sI (sI (sI s 8 1 0) 177 0 1) 177 3 0) := zfr_tr (zfr_tr (zfr_I rfl) (zfr_I rfl)) (zfr_I rfl)
      have g81 : gI (sI (sI (sI s 8 1 0) 177 0 1) 177 3 0) 8 1 = 0 := by rw [gI_nc (by decide), gI_nc (by decide), gI_same (by decide)]
      refine hI.cong (z.eq rfl) ⟨by rw [g81, gI_same (by decide)], by rw [g81]; decide, by rw [g81]; decide, fun i i0 i1 => by rw [g81] at i1; omega⟩
