/-! UNLIKE: the reference, and both. -/
theorem nbt_some {f : Nat → Bool} {i : Nat} (hf : f i = true) : ∀ k : Nat, i < k → 1 ≤ nbt f k
  | 0, h => by omega
  | k + 1, h => by
    rw [nbt]
    by_cases e : i = k
    · rw [← e, hf, if_pos rfl]; omega
    · have := nbt_some hf k (by omega)
      omega
theorem lsf_zero {s : zS} {a : Nat} (hW : IW s) : nbt (lsf s (a : Int) 0) ((gI s 1 0).toNat ^ (gI s 1 0).toNat) = 0 ↔ lsw s a = true := by
  obtain ⟨⟨n1, n5, -⟩, -⟩ := id hW
  rw [lsw_iff]
  constructor
  · rintro h x ⟨c, hc, hx⟩
    obtain ⟨h1, h2⟩ := fps_mem.mp hc
    obtain ⟨k, k1, k2, k3⟩ := (cps_mem n1 n5).mp h1
    by_cases hlt : x < a
    · have hl : lsf s (a : Int) 0 k = true := by
        unfold lsf
        rw [k3, ← k1, h2, ← hx, Bool.true_and, Bool.true_and, decide_eq_true (show (x : Int) < (a : Int) by omega), Bool.or_true]
      have := nbt_some hl _ k2
      omega
    · omega
  · intro h
    refine nbt_zero _ (fun k hk => ?_)
    cases hl : lsf s (a : Int) 0 k
    · rfl
    · exfalso
      unfold lsf at hl
      rw [Bool.and_eq_true, Bool.and_eq_true, decide_eq_false (fun h => h rfl), Bool.false_or, decide_eq_true_iff] at hl
      obtain ⟨h1, h2, h3⟩ := hl
      have := h (imgv s (k : Int) (a : Int)) ⟨(k : Int), fps_mem.mpr ⟨(cps_mem n1 n5).mpr ⟨k, rfl, hk, h1⟩, h2⟩, rfl⟩
      omega
theorem m_isLeast {s : zS} {a : Nat} (hW : IW s) (hFl : IFl s) (ha : a < 2147483648) : ∃ s', f_229 (a : Int) s = some (if lsw s a = true then 1 else 0, s') := by
  obtain ⟨⟨n1, n5, -⟩, -⟩ := id hW
  obtain ⟨s', e⟩ := m_least (s := s) (one := (a : Int)) (all := 0) hW hFl (by omega) ⟨by omega, by omega⟩ (Or.inl rfl)
  have hz := lsf_zero (a := a) hW
  have hMb : (gI s 1 0).toNat ^ (gI s 1 0).toNat ≤ 3125 := by
    rcases gt_ex n1 n5 with h | h | h | h | h <;> rw [h] <;> decide
  have hb := nbt_b (lsf s (a : Int) 0) ((gI s 1 0).toNat ^ (gI s 1 0).toNat)
  obtain ⟨m, hm⟩ : ∃ m, m = nbt (lsf s (a : Int) 0) ((gI s 1 0).toNat ^ (gI s 1 0).toNat) := ⟨_, rfl⟩
  rw [← hm] at e hz hb
  refine ⟨s', ?_⟩
  unfold f_229
  rw [zb_of e, zg_pos ⟨by omega, by omega⟩]
  by_cases h0 : m = 0
  · rw [if_pos (by omega), if_pos (hz.mp h0)]
  · rw [if_neg (by omega), if_neg (fun h => h0 (hz.mpr h))]
theorem lsw_cong {s s2 : zS} (hW : IW s) (h : zeq 583124460806408452493840925784287727286538334603366206195542358935465985138114870156268649733685424 s s2) (a : Nat) : lsw s2 a = lsw s a := by
  have hfp := (fps_of (s2 := s2) hW (h.i rfl) (fun q _ _ => h.ia (c := 4) rfl rfl q) (fun k => h.ia (c := 5) rfl rfl k)).2
  unfold lsw
  rw [hfp]
  simp only [imgv_cong (h.sub rfl)]
theorem m_unlike {s : zS} {D : Int → Dn} (hW : IW s) (hk : 0 ≤ gI s 0 10 ∧ gI s 0 10 ≤ 16 ∧ gI s 177 18 = gI s 0 10) (hF : ∀ i, act s i → FOR s (gP s 28 i) i 0 (D i)) : ∃ s', f_227 s = some (((nbt (fun a => mok s D 65535 0 a && lsw s a) (2 ^ (gI s 1 8).toNat) : Nat) : Int), s') := by
  have f0 := hW.2.2.2.2.2.1.1
  have f12 := hW.2.2.2.2.2.1.2
  have hp := pow2_b f0 f12
  have hcast : (2 : Int) ^ (gI s 1 8).toNat = ((2 ^ (gI s 1 8).toNat : Nat) : Int) := by rw [Int.natCast_pow]; rfl
  have z0 : zfr 2582249878086908589655919172003011874329705792829223512830659356540647622016841194629645353280137831435903171972747493376 s (sI s 177 0 0) := zfr_I rfl
  obtain ⟨s1, e1, l2, l3⟩ := m_listFree (s := sI s 177 0 0) (IW.cong (z0.eq rfl) hW)
  have z1 : zfr 21156373251166042075050945776220676286383279560649828240621592108137544357130470298266984679588495056664558112842186416455680 s s1 := zfr_tr (zfr_sub rfl z0) (zfr_sub rfl (fr_154 e1))
  have hI1 : IMr s1 D := by
    have hz : zeq 679570700416131733539748249079163353548276425533964694321087143757051692575080467399339847745085972146352382554695653792940220 s s1 := z1.eq rfl
    refine ⟨IW.cong (hz.sub rfl) hW, ⟨by rw [l2, hz.i (c := 1) (i := 8) rfl, z0.i rfl], fun i hi hi2 => ?_⟩, ?_, fun i hi => ?_⟩
    · rw [hz.ia (c := 7) rfl rfl]
      rw [hz.i (c := 1) (i := 8) rfl] at hi2
      exact l3 i hi hi2
    · rw [hz.i (c := 0) (i := 10) rfl, hz.i (c := 177) (i := 18) rfl]
      exact hk
    · rw [hz.pa (c := 28) rfl rfl]
      exact (hF i ((act_cong (hz.sub rfl)).mp hi)).eq (hz.sub rfl)
  have h13 : gI s1 177 13 = gI s 1 8 := l2
  have hl := zlp_F (B := fun (q : Int × Int × zS) => b_228_8 q.1 q.2.1 q.2.2) (I := fun q => 0 ≤ q.2.1 ∧ q.2.1 ≤ 2 ^ (gI s 1 8).toNat ∧ zfr 24530806944976732556039678516220153034435395923196984534500294222346575973878501496047469463514641751999880984829536363370730751143182336 s1 q.2.2 ∧ q.1 = (nbt (fun a => mok s D 65535 0 a && lsw s a) q.2.1.toNat : Nat)) (μ := fun q => ((2 : Int) ^ (gI s 1 8).toNat - q.2.1).toNat) (Q := fun t => t.1 = (nbt (fun a => mok s D 65535 0 a && lsw s a) (2 ^ (gI s 1 8).toNat) : Nat)) (by
    rintro ⟨n, a, σ⟩ ⟨a1, a2, a3, a4⟩
    dsimp only at a1 a2 a3 a4 ⊢
    have hz : zeq 700724491417419688706209538936212026822785375388821693338195905205832696284588920856412202779321187065185504764365867461902524 s1 σ := a3.eq rfl
    have hIσ := hI1.cong hz
    have zs : zfr 24530806944997888929290844558295203980211616599483367814060944050587197565986639040404599933812908736679469479886200921483572937559638016 s σ := zfr_tr (zfr_sub rfl z1) (zfr_sub rfl a3)
    have hA : zAb σ a = zAb s a := zAb_cong (zs.eq rfl) a
    have k10 : gI σ 0 10 = gI s 0 10 := zs.i rfl
    have hpw : (1 : Int) * 2 ^ zsh (gI σ 177 13) = 2 ^ (gI s 1 8).toNat := by
      rw [hz.i (c := 177) (i := 13) rfl, h13, Int.one_mul, show zsh (gI s 1 8) = (gI s 1 8).toNat by unfold zsh; omega]
    unfold b_228_8
    rw [zg_pos ⟨by omega, by omega⟩, hpw, zg_pos ⟨by omega, by omega⟩]
    by_cases hc : a < 2 ^ (gI s 1 8).toNat
    · left
      obtain ⟨s6, e6, hA6⟩ := m_fits hIσ (a := a) (set := 65535) (by omega) ⟨by omega, by omega⟩ (by decide) (by decide)
      rw [hA, k10] at e6
      have z6 : zfr 24530806944976732556039678516220153034435395923196984534500294222346575973878501496047469463514641751999880984829536363370730751143182336 s1 s6 := zfr_tr a3 (zfr_sub rfl (fr_194 e6))
      have hI6 := hI1.cong (z6.eq rfl)
      obtain ⟨A, hAe⟩ : ∃ A : Nat, a = (A : Int) := ⟨a.toNat, by omega⟩
      have hm : mok s D 65535 0 (A : Int) = okn 65535 D (zAb s a) (gI s 0 10).toNat := by
        unfold mok
        rw [decide_eq_true rfl, Bool.true_or, Bool.and_true, hAe]
      have hstep : ∀ (n2 : Int) (τ : zS), zfr 24530806944976732556039678516220153034435395923196984534500294222346575973878501496047469463514641751999880984829536363370730751143182336 s1 τ → n2 = n + (if (mok s D 65535 0 (A : Int) && lsw s A) = true then 1 else 0) → ∃ s', (some (Sum.inl (n2, a + 1, τ)) : Option ((Int × Int × zS) ⊕ (Int × zS))) = some (Sum.inl s') ∧ (0 ≤ s'.2.1 ∧ s'.2.1 ≤ 2 ^ (gI s 1 8).toNat ∧ zfr 24530806944976732556039678516220153034435395923196984534500294222346575973878501496047469463514641751999880984829536363370730751143182336 s1 s'.2.2 ∧ s'.1 = (nbt (fun a => mok s D 65535 0 a && lsw s a) s'.2.1.toNat : Nat)) ∧ ((2 : Int) ^ (gI s 1 8).toNat - s'.2.1).toNat < ((2 : Int) ^ (gI s 1 8).toNat - a).toNat := by
        intro n2 τ h1 h2
        refine ⟨_, rfl, ⟨by dsimp only; omega, by dsimp only; omega, h1, ?_⟩, by dsimp only; omega⟩
        dsimp only
        rw [h2, a4, hAe, show ((A : Int) + 1).toNat = A + 1 by omega, show ((A : Int)).toNat = A from rfl, nbt]
        cases (mok s D 65535 0 (A : Int) && lsw s A)
        · rfl
        · rfl
      rw [if_pos hc, zb_of e6]
      cases hok : okn 65535 D (zAb s a) (gI s 0 10).toNat
      · rw [if_neg (by decide), zg_pos (by decide), if_pos rfl]
        exact hstep n s6 z6 (by rw [hm, hok, Bool.false_and, if_neg (by decide), Int.add_zero])
      · obtain ⟨s9, e9⟩ := m_isLeast (s := s6) (a := A) hI6.1 hI6.2.1 (by omega)
        have zs6 : zfr 24530806944997888929290844558295203980211616599483367814060944050587197565986639040404599933812908736679469479886200921483572937559638016 s s6 := zfr_tr (zfr_sub rfl z1) (zfr_sub rfl z6)
        rw [← hAe, lsw_cong hW (zs6.eq rfl)] at e9
        have z9 : zfr 24530806944976732556039678516220153034435395923196984534500294222346575973878501496047469463514641751999880984829536363370730751143182336 s1 s9 := zfr_tr z6 (zfr_sub rfl (fr_229 e9))
        rw [if_pos rfl, zg_pos (by decide), if_neg (by decide), zb_of e9]
        cases hl : lsw s A
        · rw [if_neg (by decide), zg_pos (by decide), if_pos rfl]
          exact hstep n s9 z9 (by rw [hl, Bool.and_false, if_neg (by decide), Int.add_zero])
        · rw [if_pos rfl, zg_pos (by decide), if_neg (by decide)]
          exact hstep (n + 1) s9 z9 (by rw [hm, hok, hl]; rfl)
    · right
      rw [if_neg hc]
      have : a.toNat = 2 ^ (gI s 1 8).toNat := by omega
      rw [this] at a4
      exact ⟨_, rfl, a4⟩) (s := (0, 0, s1)) ⟨by dsimp only; omega, by dsimp only; omega, zfr_rf _ _, by dsimp only; rfl⟩ (by dsimp only; omega)
  obtain ⟨t, et, q⟩ := hl
  have e228 : f_228 (sI s 177 0 0) = some (((nbt (fun a => mok s D 65535 0 a && lsw s a) (2 ^ (gI s 1 8).toNat) : Nat) : Int), t.2) := by
    unfold f_228
    rw [zb_of e1, zo_of et, q]
  exact ⟨t.2, by unfold f_227; rw [zb_of e228]⟩
theorem op_unlike {s : zS} (hI : Inv s) : zturnQ s f_28 f_227 Inv := by
  obtain ⟨⟨hW, hT, hWd⟩, -, ⟨hRf, hN, hM, hRn⟩, -⟩ := id hI
  obtain ⟨s3, e130, hk3⟩ := c_find hW hRn
  have z3 : zfr 14775752323647929704604640037553855176904902226424542500480610026592145664311453979280349845581843365302485697691648 s s3 := zfr_sub rfl (fr_130 e130)
  have hI3 := hI.ren z3 hk3
  obtain ⟨s6, e270, h0⟩ := c_fillSeen (s := s3)
  have z6 : zfr 47890485652059026823698344598447161988085597568237568 s3 s6 := zfr_sub rfl (fr_270_175 e270)
  have hI6 : Inv s6 := hI3.cong (z6.eq rfl) (IT.cong (z6.eq rfl) hI3.1.2.1)
  have hk6 : IRk s6 := IRk.cong hI3.1.1 (z6.eq rfl) hk3
  obtain ⟨⟨hW6, hT6, hWd6⟩, ⟨hS, hC, -, -⟩, -, D, hF⟩ := id hI6
  have hk := hS.1
  have hp := pow2_b hW6.2.2.2.2.2.1.1 hW6.2.2.2.2.2.1.2
  have hcast : (2 : Int) ^ (gI s6 1 8).toNat = ((2 ^ (gI s6 1 8).toNat : Nat) : Int) := by rw [Int.natCast_pow]; rfl
  obtain ⟨v, ev, v0, v1, v2⟩ := all_bits hk.1 hk.2.1
  obtain ⟨t, et, t1, t2, t3, t4⟩ := c_unlike hW6 hWd6 hF hk6 ⟨hk.1, hk.2.1⟩ ev v0 v1 v2 h0
  have hz : zeq 679570700416131733539748249079163353548276425533964694321087143757051692575080467399339847745085972146352382554695653792940220 s6 t.2 := t4.eq rfl
  have F8 : gI t.2 1 8 = gI s6 1 8 := hz.i rfl
  have F10 : gI t.2 0 10 = gI s6 0 10 := hz.i rfl
  have F18 : gI t.2 177 18 = gI s6 177 18 := hz.i rfl
  obtain ⟨s7, e7⟩ := m_unlike (s := t.2) (D := D) (IW.cong (hz.sub rfl) hW6) (by rw [F10, F18]; exact hk) (fun i hi => by
    rw [hz.pa (c := 28) rfl rfl]
    exact (hF i ((act_cong (hz.sub rfl)).mp hi)).1.eq (hz.sub rfl))
  have hn : nbt (fun a => mok t.2 D 65535 0 a && lsw t.2 a) (2 ^ (gI t.2 1 8).toNat) = nbt (fun a => okn v D (zAb s6 a) 17 && lsw s6 a) (2 ^ (gI s6 1 8).toNat) := by
    rw [F8]
    refine nbt_congr _ (fun a _ => ?_)
    rw [ok_all hk.1 hk.2.1 v2, lsw_cong hW6 (hz.sub rfl)]
    unfold mok
    rw [F10, zAb_cong (hz.sub rfl)]
  rw [hn, ← t1] at e7
  have hb := nbt_b (fun a => okn v D (zAb s6 a) 17 && lsw s6 a) (2 ^ (gI s6 1 8).toNat)
  have zz : zfr 24530806944997888929290844558295203980211616599483367814060944050587197565986639040404599933812908736679469479886200921483572937559638016 t.2 s7 := zfr_sub rfl (fr_227 e7)
  refine ⟨t.1, t.2, s7, ?_, e7, ?_, hI6.ev hF ⟨IWd.cong (zz.eq rfl) t2, fun i hi => (t3 i hi).eq (zz.eq rfl), IS.cong ((t4.eq rfl).tr (zz.eq rfl)) hS, IC.cong ((t4.eq rfl).tr (zz.eq rfl)) hC, zfr_tr (zfr_sub rfl t4) (zfr_sub rfl zz)⟩⟩
  · unfold f_28
    rw [zb_of e130, zb_of e270, zo_of et]
  · rw [t1]
    exact ⟨by omega, by omega⟩
