/-! VALUE. -/
theorem c_there {s : zS} {a : Int} {β : Nat} (w : BitVec 64) (h12 : gI s 0 12 = a) (a0 : 0 ≤ a) (aR : zR a) (hβ : β = (a % 64).toNat) : f_45 w s = some (if w.getLsbD β = true then 1 else 0) := by
  have hsh : zshl (a % 64) = β := by rw [zshl_eq (by omega) (by omega), hβ]
  unfold f_45
  rw [h12, zg_pos ⟨a0, aR, by decide, by decide⟩, zg_pos ⟨by omega, by omega⟩, hsh]
  cases hc : w.getLsbD β
  · rw [if_pos ((bv_t0 _ _).mpr hc), if_neg (by decide)]
  · rw [if_neg (fun h => by have := (bv_t0 _ _).mp h; rw [hc] at this; cases this), if_pos rfl]
theorem c_worked {σ : zS} {N a : Int} {β : Nat} (h12 : gI σ 0 12 = a) (a0 : 0 ≤ a) (aR : zR a) (hβ : β = (a % 64).toNat) (N0 : 0 ≤ N) (N1 : N ≤ 125) : ∃ t, zlp (fun (q : Int × Int × zS) => b_43_71 N q.1 q.2.1 q.2.2) zF (0, 0, σ) = some t ∧ t.1 = zcnt 125 (fun i => decide (i < N) && (gJ σ 18 i).getLsbD β) ∧ (∀ i, 0 ≤ i → i < 125 → gI t.2 176 i = if (decide (i < N) && (gJ σ 18 i).getLsbD β) = true then 1 else 0) ∧ zfr 95780971304118053647396689196894323976171195136475136 σ t.2 := by
  obtain ⟨V, hV⟩ : ∃ V : Int → Bool, V = fun i => decide (i < N) && (gJ σ 18 i).getLsbD β := ⟨_, rfl⟩
  have hVi : ∀ i, (decide (i < N) && (gJ σ 18 i).getLsbD β) = V i := fun i => by rw [hV]
  simp only [hVi]
  refine zlp_F (I := fun (q : Int × Int × zS) => 0 ≤ q.2.1 ∧ q.2.1 ≤ 125 ∧ q.1 = zcnt q.2.1.toNat V ∧ (∀ i, 0 ≤ i → i < q.2.1 → gI q.2.2 176 i = if V i = true then 1 else 0) ∧ zfr 95780971304118053647396689196894323976171195136475136 σ q.2.2) (μ := fun q => (125 - q.2.1).toNat) (Q := fun (t : Int × zS) => t.1 = zcnt 125 V ∧ (∀ i, 0 ≤ i → i < 125 → gI t.2 176 i = if V i = true then 1 else 0) ∧ zfr 95780971304118053647396689196894323976171195136475136 σ t.2) ?_ ⟨by dsimp only; omega, by dsimp only; omega, rfl, fun i h1 h2 => by dsimp only at h2; omega, zfr_rf _ _⟩ (by dsimp only; decide)
  rintro ⟨tot, i, τ⟩ ⟨a1, a2, a3, a4, a5⟩
  dsimp only at a1 a2 a3 a4 a5 ⊢
  unfold b_43_71
  rw [zg_pos ⟨by omega, by omega⟩]
  by_cases hc : i < 125
  · left
    rw [if_pos hc, zg_pos ⟨by omega, by omega⟩]
    have hset : ∀ x : Int, x = (if V i = true then 1 else 0) → ∃ s', j_43_71_112 N tot i i x τ = some (Sum.inl s') ∧ (0 ≤ s'.2.1 ∧ s'.2.1 ≤ 125 ∧ s'.1 = zcnt s'.2.1.toNat V ∧ (∀ i, 0 ≤ i → i < s'.2.1 → gI s'.2.2 176 i = if V i = true then 1 else 0) ∧ zfr 95780971304118053647396689196894323976171195136475136 σ s'.2.2) ∧ (125 - s'.2.1).toNat < (125 - i).toNat := by
      intro x hx
      have hxR : x = 0 ∨ x = 1 := by rw [hx]; split <;> omega
      have hxz : zR x := by rcases hxR with e | e <;> rw [e] <;> decide
      have hall : ∀ j, 0 ≤ j → j < i + 1 → gI (sI τ 176 i x) 176 j = if V j = true then 1 else 0 := by
        intro j j0 j1
        by_cases e : j = i
        · rw [e, gI_same hxz, hx]
        · rw [gI_ni e]
          exact a4 j j0 (by omega)
      have hs := zcnt_step V a1
      unfold j_43_71_112
      rw [zg_pos ⟨a1, hc⟩, zg_pos hxR, zg_pos ⟨a1, hc⟩, gI_same hxz]
      by_cases h0 : x = 0
      · have hv : V i = false := by
          cases h : V i
          · rfl
          · rw [h, if_pos rfl] at hx; omega
        rw [hv] at hs
        rw [if_pos h0]
        exact ⟨_, rfl, ⟨by dsimp only; omega, by dsimp only; omega, by dsimp only; rw [hs, a3]; rfl, hall, zfr_tr a5 (zfr_IA rfl rfl)⟩, by dsimp only; omega⟩
      · have hv : V i = true := by
          cases h : V i
          · rw [h, if_neg (by decide)] at hx; omega
          · rfl
        rw [hv] at hs
        rw [if_neg h0]
        exact ⟨_, rfl, ⟨by dsimp only; omega, by dsimp only; omega, by dsimp only; rw [hs, a3]; rfl, hall, zfr_tr a5 (zfr_IA rfl rfl)⟩, by dsimp only; omega⟩
    by_cases hN : i < N
    · have h18 : gJ τ 18 i = gJ σ 18 i := a5.ja (c := 18) rfl rfl i
      have hv : V i = (gJ σ 18 i).getLsbD β := by rw [← hVi, decide_eq_true hN, Bool.true_and]
      rw [if_pos hN, zg_pos ⟨a1, by omega⟩, zo_of (c_there (gJ τ 18 i) (by rw [a5.i rfl]; exact h12) a0 aR hβ), h18, ← hv]
      cases h : V i
      · rw [if_neg (by decide), zg_pos (by decide), if_pos rfl]
        unfold j_43_71_111
        exact hset 0 (by rw [h]; rfl)
      · rw [if_pos rfl, zg_pos (by decide), if_neg (by decide)]
        exact hset 1 (by rw [h]; rfl)
    · have hv : V i = false := by rw [← hVi, decide_eq_false hN, Bool.false_and]
      rw [if_neg hN]
      unfold j_43_71_111
      exact hset 0 (by rw [hv]; rfl)
  · right
    rw [if_neg hc]
    have : i = 125 := by omega
    rw [this] at a3 a4
    exact ⟨_, rfl, a3, a4, a5⟩
theorem op_value {s : zS} (hI : Inv s) : zturn s f_12 f_238 Inv := by
  obtain ⟨⟨hW, hT, hWd⟩, ⟨hS, hC, hL, hV⟩, ⟨hRf, hN, hM, hRn⟩, D, hF⟩ := id hI
  obtain ⟨⟨n1, n5, n0⟩, -⟩ := id hW
  unfold zturn
  rcases hS.2.2 with ⟨p1, p2⟩ | ⟨p1, p2, p3, p4⟩
  · obtain ⟨k1, k2, k3⟩ := no_present hI p1 p2
    refine ⟨1, sI s 8 1 0, 0, _, ?_, ?_, k3, by decide, fun h => absurd h (by decide), k2⟩
    · have e70 : f_70 s = some ((), sI s 8 1 0) := rfl
      have h43 : f_43 s = some (Sum.inr 11, sI s 8 1 0) := by
        unfold f_43
        rw [if_pos p1, zb_of e70]
      unfold f_12
      rw [zb_of h43, ze_r, if_pos rfl]
    · unfold f_238
      rw [zb_of k1, zg_pos (by decide), if_pos rfl]
  obtain ⟨a, ha⟩ : ∃ a, a = gI s 0 12 := ⟨_, rfl⟩
  have aR : zR a := by rw [ha]; exact zR_gI _ _ _
  have a0 : 0 ≤ a := by rw [ha]; exact p1
  obtain ⟨F, pl, s1, ⟨F0, F7, pl0, plR⟩, e17, x, x4, x5, x6⟩ := txt (fm := 0) hW hT hN hRf.1 (Or.inl rfl)
  have z17 : zfr 226625754138375559491950224689589191445479299305407864001526951084243874059471931868594057770823834053246056448 s s1 := zfr_sub rfl (fr_17 e17)
  have h12 : gI s1 0 12 = a := by rw [z17.i rfl, ha]
  by_cases hF0 : F = 0
  · rw [if_pos hF0] at e17
    have p06 : gP s1 0 6 = gP s 0 6 := z17.p rfl
    have hW1 : IW s1 := IW.cong (z17.eq rfl) hW
    have hw1 : IWd s1 := IWd.cong (z17.eq rfl) hWd
    obtain ⟨β, hβ⟩ : ∃ β, β = (a % 64).toNat := ⟨_, rfl⟩
    have hβ64 : β < 64 := by omega
    have hsh : zshl (a % 64) = β := by rw [zshl_eq (by omega) (by omega), hβ]
    have hwb : ((1#64) <<< β).getLsbD β = true := by rw [bv_shl1 _ _ hβ64, decide_eq_true rfl]
    -- the class works it out
    obtain ⟨τ0, -, -, -, -, -, mN0⟩ := x6 s (zeq.rf _ _) hM
    obtain ⟨r, D0, -, ⟨hr0, hr3⟩, ⟨s12, e102, y1, y2, -⟩, -⟩ := (mN0 hF0).both (block := a / 64) (w := (1#64) <<< β) hRf.1 (z17.eq rfl) hW1 hw1 (by omega) ⟨by omega, by have := aR.2; omega⟩
    have z102 : zfr 19239260838083241802870625048898248928261591440656956380834127638791856333738872368854622194768025215237644615744 s1 s12 := zfr_sub rfl (fr_102 e102)
    have e44 : f_44 s1 = some ((), s12) := by
      unfold f_44
      rw [h12, zg_pos ⟨a0, aR, by decide, by decide⟩, zg_pos ⟨by omega, by omega⟩, hsh, p06, zb_of e102]
    have hrR : zR r := ⟨by omega, by omega⟩
    obtain ⟨σ, hσ⟩ : ∃ σ, σ = sI s12 0 17 r := ⟨_, rfl⟩
    have zσ : zfr 266998379490113760299377713271194014325338065294581596243380200977777465722580068752870260867072 s12 σ := by rw [hσ]; exact zfr_I rfl
    have zsσ : zfr 19465886592221617629360954763701598419084784011156378570173719884457696451178545278500681975118917802161151539264 s σ := zfr_tr (zfr_sub rfl z17) (zfr_tr (zfr_sub rfl z102) (zfr_sub rfl zσ))
    have hWσ : IW σ := IW.cong (zsσ.eq rfl) hW
    have gn : gI σ 1 0 = gI s 1 0 := zsσ.i rfl
    obtain ⟨N, hNe⟩ : ∃ N, N = gI s 1 0 ^ r.toNat := ⟨_, rfl⟩
    have hNb := npw_b n1 n5 hr0 hr3
    rw [← hNe] at hNb
    have e52 : f_52 r σ = some N := by rw [c_sizeOf hWσ hr0 hr3, gn, hNe]
    obtain ⟨t, et, t1, t2, t3⟩ := c_worked (σ := σ) (N := N) (a := a) (β := β) (by rw [zσ.i rfl, z102.i rfl]; exact h12) a0 aR hβ (by omega) hNb.2
    obtain ⟨b, hb⟩ : ∃ b, b = t.1 := ⟨_, rfl⟩
    have hbb := zcnt_b (fun i => decide (i < N) && (gJ σ 18 i).getLsbD β) 125
    rw [← t1, ← hb] at hbb
    have hbR : zR b := ⟨by omega, by omega⟩
    have h43 : f_43 s = some (Sum.inl b, t.2) := by
      unfold f_43
      rw [if_neg (by omega), zb_of e17, zg_pos (by decide), if_pos rfl, zb_of e44, y2, gI_same hrR, ← hσ, zo_of e52, zo_of et, hb]
    obtain ⟨s11, hs11⟩ : ∃ s11, s11 = sJ t.2 205 0 (BitVec.ofInt 64 b) := ⟨_, rfl⟩
    have e12 : f_12 s = some (0, s11) := by
      unfold f_12
      rw [zb_of h43, ze_l, zg_pos hbR, hs11]
    have z11 : zfr 51422017416287688817342786954917203280710495801049370729644032 t.2 s11 := by rw [hs11]; exact zfr_JA rfl rfl
    have z1t : zfr 2582249878086908589655919439001391364443466092206936784024725103896224985258558898850448644950081158835749145408874479616 s12 (sI s11 177 0 0) := zfr_tr (zfr_sub rfl zσ) (zfr_tr (zfr_sub rfl t3) (zfr_tr (zfr_sub rfl z11) (zfr_I rfl)))
    have zt1 : zfr 2582249897326169427739161241872016413341715020468528224681681484730352624050415232589321013804703353603774360646519095360 s1 (sI s11 177 0 0) := zfr_tr (zfr_sub rfl z102) (zfr_sub rfl z1t)
    have zts : zfr 2582249897552795181877536801363966638031304211914007523987089348731879575134659106648792945673297411374598194699765151808 s (sI s11 177 0 0) := zfr_tr (zfr_sub rfl z17) (zfr_sub rfl zt1)
    obtain ⟨τ2, hm⟩ := x6 (sI s11 177 0 0) (zts.eq rfl) (NNm.cong (zts.eq rfl) hM)
    have hI2 := InvV.read hI z17 x x4 x5 zt1 (IWd.cong (z1t.eq rfl) y1) hm
    obtain ⟨e156, ⟨m1, m2, m3, m4⟩, m5, m6, ⟨m7, m8⟩, mN⟩ := hm
    rw [if_pos hF0] at e156
    have z156 : zfr 9238362129264542546556981441436956257759104982754574535071596629173808906661501227988847036546068168270430746304713384317822894604288 (sI s11 177 0 0) τ2 := zfr_sub rfl (fr_156 e156)
    have zτ : zfr 9238362129267124796454534236618833794560468949392605839283510636697795996010233107563981695652716961216104043716087982512522659756096 s τ2 := zfr_tr (zfr_sub rfl zts) (zfr_sub rfl z156)
    have z1τ : zfr 9238362129267124796454307610864695419000976999167916250092065157398490588146231580612897451778657489284235449658317158678469413699648 s1 τ2 := zfr_tr (zfr_sub rfl zt1) (zfr_sub rfl z156)
    obtain ⟨r', D1, hr, -, ⟨s', e102', -, y4, y5⟩, hFOR⟩ := (mN hF0).both (block := a / 64) (w := (1#64) <<< β) hRf.1 (z17.eq rfl) hW1 hw1 (by omega) ⟨by omega, by have := aR.2; omega⟩
    rw [e102] at e102'
    injection e102' with h1
    injection h1 with _ h1
    rw [← h1] at y4 y5
    have hrr : r' = r := by rw [← y4, ← y2]
    rw [hrr] at hr y5 hFOR
    have h195 : gI τ2 195 0 = r := by
      rcases hr with ⟨h, -⟩ | ⟨-, -, h⟩
      · exact absurd h (by decide)
      · exact h
    have hbit : ∀ i, 0 ≤ i → i < N → (gJ σ 18 i).getLsbD β = D1 e0 (zAb s a) i := by
      intro i i0 i1
      have := y5 β hβ64 hwb i i0 (by rw [← hNe]; exact i1)
      rw [show 64 * (a / 64) + (β : Int) = a by omega, zAb_cong (z17.eq rfl)] at this
      rw [zσ.ja (c := 18) rfl rfl]
      exact this
    obtain ⟨u, hu⟩ : ∃ u, u = sI τ2 177 25 r := ⟨_, rfl⟩
    have zu : zfr 86645927941275464361825443254471365732388658605494267974077486894206915868925800719999200190754361815543475342543861619655442432 τ2 u := by rw [hu]; exact zfr_I rfl
    have h22 : gI u 177 22 = a := by rw [zu.i rfl, zτ.i rfl, ha]; exact p4
    obtain ⟨s13, s16, e154, e195, hA, z16⟩ := m_present (s := u) (IW.cong (zu.eq rfl) hI2.1.1) h22 a0 aR
    have zu16 : zfr 86667081732276752316991904544328414405663167555349124973094595655655998173518607734132936663680910998450281377814866106981023744 τ2 s16 := zfr_tr (zfr_sub rfl zu) (zfr_sub rfl z16)
    have zz : zfr 9238448796348857073206851228523378122974874612560161188408483731293451652008406626171715828589380642127102493997465797378629640779840 s s16 := zfr_tr (zfr_sub rfl zτ) (zfr_sub rfl zu16)
    have hFOR2 : FOR s16 (gP s 0 6) 17 r D1 := hFOR s16 (zz.eq rfl) (fun j hj i => by
        have hcb := zC_b hRf.1
        rw [zu16.cod (by decide +kernel) (by omega) (by omega), z1τ.cod (by decide +kernel) (by omega) (by omega)]) (fun k _ => by
        rw [zu16.ia (c := 184) rfl rfl, zu16.ia (c := 185) rfl rfl, zu16.ia (c := 186) rfl rfl]
        exact ⟨rfl, rfl, rfl⟩) (by rw [zu16.ia (c := 187) rfl rfl]; exact m8)
    obtain ⟨s19, e199, hRV⟩ := hFOR2.m (IW.cong (zz.eq rfl) hW) hA
    rw [zAb_cong (zz.eq rfl), zz.i (c := 1) (i := 0) rfl, ← hNe] at hRV
    have z199 : zfr 24530806944976732556039678516220153034435395923196984534500294222346575973852489186456027058429306240630108415201208202408871792121741312 s16 s19 := zfr_sub rfl (fr_199 e199)
    obtain ⟨s2, hs2⟩ : ∃ s2, s2 = sJ (sJ s19 177 23 (gJ s19 198 0)) 177 24 (gJ s19 199 0) := ⟨_, rfl⟩
    have z2 : zfr 64984445955956598271369082440853524299291493954120700980558115170655186901694350539999400143065771361657606506907896214741581824 s19 s2 := by rw [hs2]; exact zfr_tr (zfr_J rfl) (zfr_J rfl)
    have zf : zfr 24530807096628260244273029104581140019617334628151646043970120175999286800163674261668985332561643047376790775309096087131634113844346880 τ2 s2 := zfr_tr (zfr_sub rfl zu16) (zfr_tr (zfr_sub rfl z199) (zfr_sub rfl z2))
    have g23 : gJ s2 177 23 = gJ s19 198 0 := by rw [hs2, gJ_ni (by decide), gJ_same]
    have g24 : gJ s2 177 24 = gJ s19 199 0 := by rw [hs2, gJ_same]
    have g25 : gI s2 177 25 = r := by rw [z2.i rfl, z199.i rfl, z16.i rfl, hu, gI_same hrR]
    have g17 : gI s2 0 17 = r := by rw [zf.i rfl, z156.i rfl, gI_nc (by decide), z11.i rfl, t3.i rfl, hσ, gI_same hrR]
    have htb : ∀ i, 0 ≤ i → i < 125 → tb (gJ s19 198 0) (gJ s19 199 0) i = (decide (i < N) && (gJ σ 18 i).getLsbD β) := by
      intro i i0 i1
      rw [hRV i i0 (by omega)]
      by_cases h : i < N
      · rw [hbit i i0 h]
      · rw [decide_eq_false h, Bool.false_and, Bool.false_and]
    have hcnt : zcnt 125 (tb (gJ s19 198 0) (gJ s19 199 0)) = b := by
      rw [hb, t1]
      exact zcnt_congr (fun i i0 i1 => htb i i0 (by omega))
    refine ⟨0, s11, b, s2, e12, ?_, ?_, by decide, fun _ => ⟨hbR, ?_⟩, ?_⟩
    · unfold f_238
      have u1 : gI s11 177 21 = 1 := by rw [z11.i rfl, t3.i rfl, zσ.i rfl, z102.i rfl, z17.i rfl]; exact p3
      rw [zb_of (m_may u1), zg_pos (by decide), if_neg (by decide), zb_of e156, zg_pos (by decide), if_neg (by decide), h195, ← hu, zb_of e154, zb_of e195, zb_of e199, m_amount, zo_of rfl, gJ_same, gJ_same, hcnt, hs2]
    · rw [zf.i rfl, z156.i rfl, gI_same (by decide)]
    · rw [zf.ja (c := 205) rfl rfl, z156.ja (c := 205) rfl rfl, gJ_sI, hs11, gJ_same]
    · refine (hI2.cong (zf.eq rfl) (IT.cong (zf.eq rfl) hI2.1.2.1)).inv ⟨by rw [g17, g25], fun i i0 i1 => ?_⟩
      rw [g23, g24, htb i i0 i1, zf.ia (c := 176) rfl rfl, z156.ia (c := 176) rfl rfl, gI_nc (by decide), z11.ia (c := 176) rfl rfl]
      exact t2 i i0 i1
  · rw [if_neg hF0] at e17
    obtain ⟨s11, hs11⟩ : ∃ s11, s11 = sJ s1 205 0 (BitVec.ofInt 64 (-1 - pl)) := ⟨_, rfl⟩
    have hpR : zR (-1 - pl) := ⟨by have := plR.2; omega, by omega⟩
    have e12 : f_12 s = some (0, s11) := by
      have h43 : f_43 s = some (Sum.inl (-1 - pl), s1) := by
        unfold f_43
        rw [if_neg (by omega), zb_of e17, zg_pos hpR, if_neg (by omega)]
      unfold f_12
      rw [zb_of h43, ze_l, zg_pos hpR, hs11]
    have zt1 : zfr 2582249897326169427739160974873636923227954721090814953487667159392191548497514871155472639338040736699729436581121753152 s1 (sI s11 177 0 0) := by rw [hs11]; exact zfr_tr (zfr_JA rfl rfl) (zfr_I rfl)
    have zts : zfr 2582249897552795181877536534365587147917543912536294252793075023393718499581758745214944571206634794470553270634367809600 s (sI s11 177 0 0) := zfr_tr (zfr_sub rfl z17) (zfr_sub rfl zt1)
    obtain ⟨τ2, hm⟩ := x6 (sI s11 177 0 0) (zts.eq rfl) (NNm.cong (zts.eq rfl) hM)
    have hw2 : IWd (sI s11 177 0 0) := by
      rw [hs11]
      exact IWd.cong ((z17.eq rfl : zeq 96 s s1).tr ((zfr_tr (zfr_JA rfl rfl) (zfr_I rfl) : zfr 2582249878086908589655919172003011874329705792829223512830710778558063909705658537416600270483418541931704221343477137408 s1 _).eq rfl)) hWd
    have hI2 := Inv.read hI z17 x x4 x5 zt1 hw2 hm
    obtain ⟨e156, ⟨m1, m2, m3, m4⟩, -⟩ := hm
    rw [if_neg hF0] at e156 m2
    have z156 : zfr 9238362129264542546556981441436956257759104982754574535071596629173808906661501227988847036546068168270430746304713384317822894604288 (sI s11 177 0 0) τ2 := zfr_sub rfl (fr_156 e156)
    refine ⟨0, s11, -1 - pl, τ2, e12, ?_, ?_, by decide, fun _ => ⟨hpR, ?_⟩, hI2⟩
    · unfold f_238
      have u1 : gI s11 177 21 = 1 := by rw [hs11, gI_sJ, z17.i rfl]; exact p3
      rw [zb_of (m_may u1), zg_pos (by decide), if_neg (by decide), zb_of e156, zg_pos (by decide), if_pos rfl, m2]
    · rw [z156.i rfl, gI_same (by decide)]
    · rw [z156.ja (c := 205) rfl rfl, gJ_sI, hs11, gJ_same]
