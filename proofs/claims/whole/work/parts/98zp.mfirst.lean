/-! THE REFERENCE: fits, the first assignment from one on. -/
theorem IAs.cong {s s2 : zS} {a : Int} (h : zeq 580988473770487542411445904078118175172236930964308114102259435219957733400307142667579961303367840 s s2) (hI : IAs s a) : IAs s2 a := by
  intro r t r0 r1 t0 t1
  rw [h.i (c := 1) (i := 4) rfl] at r1
  rw [h.ja (c := 196) rfl rfl, h.ja (c := 197) rfl rfl, zin_cong (h.sub rfl)]
  exact hI r t r0 r1 t0 t1
/-- all that the reference's search looks at -/
def IMr (s : zS) (D : Int → Dn) : Prop := IW s ∧ IFl s ∧ (0 ≤ gI s 0 10 ∧ gI s 0 10 ≤ 16 ∧ gI s 177 18 = gI s 0 10) ∧ ∀ i, act s i → FOR s (gP s 28 i) i 0 (D i)
theorem IMr.cong {s s2 : zS} {D : Int → Dn} (h : zeq 700724491417419688706209538936212026822785375388821693338195905205832696284588920856412202779321187065185504764365867461902524 s s2) (hI : IMr s D) : IMr s2 D := by
  obtain ⟨h1, h2, h3, h4⟩ := hI
  refine ⟨IW.cong (h.sub rfl) h1, IFl.cong (h.sub rfl) h2, ?_, fun i hi => ?_⟩
  · rw [h.i (c := 0) (i := 10) rfl, h.i (c := 177) (i := 18) rfl]
    exact h3
  · rw [h.pa (c := 28) rfl rfl]
    exact (h4 i ((act_cong (h.sub rfl)).mp hi)).eq (h.sub rfl)
theorem m_fits {s : zS} {D : Int → Dn} {a set : Int} (hI : IMr s D) (a0 : 0 ≤ a) (aR : zR a) (s0 : 0 ≤ set) (sR : zR set) : ∃ s', f_194 a set s = some (if okn set D (zAb s a) (gI s 0 10).toNat = true then 1 else 0, s') ∧ IAs s' a := by
  obtain ⟨s1, e1, hA⟩ := m_assign hI.1 hI.2.1 a0 aR
  have z1 : zfr 24530806944976732556039678516220153034435395923196984534500294222346575973852790487339325619105970358522422383189181115470206065778360320 s s1 := zfr_sub rfl (fr_195 e1)
  obtain ⟨k0, k16, k18⟩ := hI.2.2.1
  have hl := zlp_F (B := fun (q : Int × Int × zS) => b_194_10 set q.1 q.2.1 q.2.2) (I := fun q => 0 ≤ q.2.1 ∧ q.2.1 ≤ gI s 0 10 ∧ zfr 24530806944976732556039678516220153034435395923196984534500294222346575973852790487339325619105970358522422383189181115470206065778360320 s q.2.2 ∧ IAs q.2.2 a ∧ q.1 = if okn set D (zAb s a) q.2.1.toNat = true then 1 else 0) (μ := fun q => (gI s 0 10 - q.2.1).toNat) (Q := fun t => IAs t.2 a ∧ t.1 = if okn set D (zAb s a) (gI s 0 10).toNat = true then 1 else 0) (by
    rintro ⟨g, f, σ⟩ ⟨a1, a2, a3, a4, a5⟩
    dsimp only at a1 a2 a3 a4 a5 ⊢
    have hz : zeq 700724491417419688706209538936212026822785375388821693338195905205832696284588920856412202779321187065185504764365867461902524 s σ := a3.eq rfl
    have hIσ := hI.cong hz
    unfold b_194_10
    rw [zg_pos ⟨by omega, by omega⟩, hz.i (c := 177) (i := 18) rfl, k18]
    by_cases hc : f < gI s 0 10
    · rw [if_pos hc]
      cases hok : okn set D (zAb s a) f.toNat
      · right
        rw [hok, if_neg (by decide)] at a5
        rw [a5, zg_pos (by decide), if_pos rfl]
        refine ⟨_, rfl, a4, ?_⟩
        rw [okn_le hok (by omega), if_neg (by decide)]
      · left
        rw [hok, if_pos rfl] at a5
        rw [a5, zg_pos (by decide), if_neg (by decide), zg_pos ⟨s0, sR⟩, ztest s0 sR a1 (by omega)]
        have hsucc : okn set D (zAb s a) (f + 1).toNat = (!(set.toNat.testBit f.toNat) || D f e0 (zAb s a) 0) := by
          rw [show (f + 1).toNat = f.toNat + 1 by omega, okn, hok, Bool.true_and, if_neg (by omega), show ((f.toNat : Nat) : Int) = f by omega]
        cases hb : set.toNat.testBit f.toNat
        · rw [show (if false = true then (1 : Int) else 0) = 0 from rfl, if_pos rfl]
          refine ⟨_, rfl, ⟨by dsimp only; omega, by dsimp only; omega, a3, a4, ?_⟩, by dsimp only; omega⟩
          dsimp only
          rw [hsucc, hb, Bool.not_false, Bool.true_or, if_pos rfl]
        · rw [if_pos rfl, if_neg (by decide)]
          have hact : act s f := Or.inl ⟨a1, hc⟩
          obtain ⟨τ, et⟩ := (hIσ.2.2.2 f ((act_cong (hz.sub rfl)).mpr hact)).t hIσ.1 a4
          have zt : zfr 24530806944976732556039678516220153034435395923196984534500294222346575973852489186456027058429306240630108415201208202408871792121741312 σ τ := zfr_sub rfl (fr_198 et)
          rw [zAb_cong (hz.sub rfl)] at et
          rw [zb_of et]
          have a3' : zfr 24530806944976732556039678516220153034435395923196984534500294222346575973852790487339325619105970358522422383189181115470206065778360320 s τ := zfr_tr a3 (zfr_sub rfl zt)
          have a4' : IAs τ a := IAs.cong (zt.eq rfl) a4
          cases hd : D f e0 (zAb s a) 0
          · rw [if_neg (by decide), zg_pos (by decide), if_pos rfl]
            refine ⟨_, rfl, ⟨by dsimp only; omega, by dsimp only; omega, a3', a4', ?_⟩, by dsimp only; omega⟩
            dsimp only
            rw [hsucc, hb, hd, Bool.not_true, Bool.false_or, if_neg (by decide)]
          · rw [if_pos rfl, zg_pos (by decide), if_neg (by decide)]
            refine ⟨_, rfl, ⟨by dsimp only; omega, by dsimp only; omega, a3', a4', ?_⟩, by dsimp only; omega⟩
            dsimp only
            rw [hsucc, hb, hd, Bool.or_true, if_pos rfl]
    · right
      rw [if_neg hc]
      have : f = gI s 0 10 := by omega
      rw [this] at a5
      exact ⟨_, rfl, a4, a5⟩) (s := (1, 0, s1)) ⟨by dsimp only; omega, by dsimp only; omega, z1, hA, by dsimp only; rw [show (0 : Int).toNat = 0 from rfl, okn, if_pos rfl]⟩ (by dsimp only; omega)
  obtain ⟨t, et, q1, q2⟩ := hl
  refine ⟨t.2, ?_, q1⟩
  unfold f_194
  rw [zb_of e1, zo_of et, q2]
  cases okn set D (zAb s a) (gI s 0 10).toNat
  · rw [if_neg (by decide), zg_pos (by decide)]
  · rw [if_pos rfl, zg_pos (by decide)]
/-- what the reference asks of an assignment -/
def mok (s : zS) (D : Int → Dn) (set ag a : Int) : Bool := okn set D (zAb s a) (gI s 0 10).toNat && (decide (ag = 0) || !(D 16 e0 (zAb s a) 0))
theorem m_firstFrom {s : zS} {D : Int → Dn} {lo set ag : Int} (hW : IW s) (hk : 0 ≤ gI s 0 10 ∧ gI s 0 10 ≤ 16 ∧ gI s 177 18 = gI s 0 10) (hF : ∀ i, act s i → FOR s (gP s 28 i) i 0 (D i)) (hag : ag = 0 ∨ (ag = 1 ∧ gI s 0 11 ≠ 0)) (s0 : 0 ≤ set) (sR : zR set) (l0 : 0 ≤ lo) (l1 : lo ≤ 2 ^ (gI s 1 8).toNat) : ∃ r s', f_193 lo set ag s = some (r, s') ∧ fst (mok s D set ag) lo (2 ^ (gI s 1 8).toNat) r := by
  have f0 := hW.2.2.2.2.2.1.1
  have f12 := hW.2.2.2.2.2.1.2
  have hp := pow2_b f0 f12
  obtain ⟨s1, e1, l2, l3⟩ := m_listFree hW
  have z1 : zfr 21153791001287955166461289857048673274508949854856999017108761448781003709508453457072355034235214918833122209670213668962304 s s1 := zfr_sub rfl (fr_154 e1)
  have hI1 : IMr s1 D := by
    have hz : zeq 679570700416131733539748249079163353548276425533964694321087143757051692575080467399339847745085972146352382554695653792940220 s s1 := z1.eq rfl
    refine ⟨IW.cong (hz.sub rfl) hW, ⟨by rw [l2, hz.i (c := 1) (i := 8) rfl], fun i hi hi2 => ?_⟩, ?_, fun i hi => ?_⟩
    · rw [hz.ia (c := 7) rfl rfl]
      rw [hz.i (c := 1) (i := 8) rfl] at hi2
      exact l3 i hi hi2
    · rw [hz.i (c := 0) (i := 10) rfl, hz.i (c := 177) (i := 18) rfl]
      exact hk
    · rw [hz.pa (c := 28) rfl rfl]
      exact (hF i ((act_cong (hz.sub rfl)).mp hi)).eq (hz.sub rfl)
  have h13 : gI s1 177 13 = gI s 1 8 := l2
  have hl := zlp_F (B := fun (q : Int × zS) => b_193_7 set ag q.1 q.2) (I := fun q => lo ≤ q.1 ∧ q.1 ≤ 2 ^ (gI s 1 8).toNat ∧ zfr 24530806944976732556039678516220153034435395923196984534500294222346575973852790487339325619105970358522422383189181115470206065778360320 s1 q.2 ∧ ∀ a, lo ≤ a → a < q.1 → mok s D set ag a = false) (μ := fun q => ((2 : Int) ^ (gI s 1 8).toNat - q.1).toNat) (Q := fun t => fst (mok s D set ag) lo (2 ^ (gI s 1 8).toNat) (Sum.elim (fun _ => -1) Prod.fst t)) (by
    rintro ⟨a, σ⟩ ⟨a1, a2, a3, a4⟩
    dsimp only at a1 a2 a3 a4 ⊢
    have hz : zeq 700724491417419688706209538936212026822785375388821693338195905205832696284588920856412202779321187065185504764365867461902524 s1 σ := a3.eq rfl
    have hIσ := hI1.cong hz
    have zs : zfr 24530806944997886347040966471386614324292444596471493484355151221363684735301571491048834072563042713556657598108014237679876279447322624 s σ := zfr_tr (zfr_sub rfl z1) (zfr_sub rfl a3)
    have hA : zAb σ a = zAb s a := zAb_cong (zs.eq rfl) a
    have k10 : gI σ 0 10 = gI s 0 10 := zs.i rfl
    have hpw : (1 : Int) * 2 ^ zsh (gI σ 177 13) = 2 ^ (gI s 1 8).toNat := by
      rw [hz.i (c := 177) (i := 13) rfl, h13, Int.one_mul, show zsh (gI s 1 8) = (gI s 1 8).toNat by unfold zsh; omega]
    unfold b_193_7
    rw [zg_pos ⟨by omega, by omega⟩, hpw, zg_pos ⟨by omega, by omega⟩]
    by_cases hc : a < 2 ^ (gI s 1 8).toNat
    · rw [if_pos hc]
      obtain ⟨s6, e6, hA6⟩ := m_fits hIσ (a := a) (set := set) (by omega) ⟨by omega, by omega⟩ s0 sR
      rw [hA, k10] at e6
      have z6 : zfr 24530806944976732556039678516220153034435395923196984534500294222346575973852790487339325619105970358522422383189181115470206065778360320 s1 s6 := zfr_tr a3 (zfr_sub rfl (fr_194 e6))
      rw [zb_of e6]
      have hstep : ∀ s7 : zS, zfr 24530806944976732556039678516220153034435395923196984534500294222346575973852790487339325619105970358522422383189181115470206065778360320 s1 s7 → mok s D set ag a = false → (∃ s', (some (Sum.inl (a + 1, s7)) : Option ((Int × zS) ⊕ (zS ⊕ (Int × zS)))) = some (Sum.inl s') ∧ (lo ≤ s'.1 ∧ s'.1 ≤ 2 ^ (gI s 1 8).toNat ∧ zfr 24530806944976732556039678516220153034435395923196984534500294222346575973852790487339325619105970358522422383189181115470206065778360320 s1 s'.2 ∧ ∀ a, lo ≤ a → a < s'.1 → mok s D set ag a = false) ∧ ((2 : Int) ^ (gI s 1 8).toNat - s'.1).toNat < ((2 : Int) ^ (gI s 1 8).toNat - a).toNat) := by
        intro s7 z7 hm
        refine ⟨_, rfl, ⟨by dsimp only; omega, by dsimp only; omega, z7, fun b h1 h2 => ?_⟩, by dsimp only; omega⟩
        dsimp only at h2
        by_cases e : b = a
        · rw [e]; exact hm
        · exact a4 b h1 (by omega)
      cases hok : okn set D (zAb s a) (gI s 0 10).toNat
      · left
        rw [if_neg (by decide), zg_pos (by decide), if_pos rfl]
        exact hstep s6 z6 (by unfold mok; rw [hok, Bool.false_and])
      · rw [if_pos rfl, zg_pos (by decide), if_neg (by decide), zg_pos (by rcases hag with h | ⟨h, -⟩ <;> rw [h] <;> decide)]
        rcases hag with h | ⟨h, h11⟩
        · right
          rw [if_pos h]
          exact ⟨_, rfl, Or.inr ⟨a1, hc, by show mok s D set ag a = true; unfold mok; rw [hok, decide_eq_true h]; rfl, a4⟩⟩
        · rw [if_neg (by omega)]
          have hz6 : zeq 700724491417419688706209538936212026822785375388821693338195905205832696284588920856412202779321187065185504764365867461902524 s1 s6 := z6.eq rfl
          have hI6 := hI1.cong hz6
          have z6s : zfr 24530806944997886347040966471386614324292444596471493484355151221363684735301571491048834072563042713556657598108014237679876279447322624 s s6 := zfr_tr (zfr_sub rfl z1) (zfr_sub rfl z6)
          obtain ⟨τ, et⟩ := (hI6.2.2.2 16 (Or.inr ⟨rfl, by rw [z6s.i rfl]; exact h11⟩)).t hI6.1 hA6
          rw [zAb_cong (z6s.eq rfl)] at et
          rw [zb_of et]
          cases hd : D 16 e0 (zAb s a) 0
          · right
            rw [if_neg (by decide), zg_pos (by decide), if_pos rfl]
            exact ⟨_, rfl, Or.inr ⟨a1, hc, by show mok s D set ag a = true; unfold mok; rw [hok, hd, Bool.not_false, Bool.or_true]; rfl, a4⟩⟩
          · left
            rw [if_pos rfl, zg_pos (by decide), if_neg (by decide)]
            exact hstep τ (zfr_tr z6 (zfr_sub rfl (fr_198 et))) (by unfold mok; rw [hd, decide_eq_false (by omega), Bool.not_true, Bool.or_false, Bool.and_false])
    · right
      rw [if_neg hc]
      exact ⟨_, rfl, Or.inl ⟨rfl, fun b h1 h2 => a4 b h1 (by omega)⟩⟩) (s := (lo, s1)) ⟨Int.le_refl _, l1, zfr_rf _ _, fun a h1 h2 => by dsimp only at h2; omega⟩ (by dsimp only; omega)
  obtain ⟨t, et, q⟩ := hl
  unfold f_193
  rw [zb_of e1, zo_of et]
  rcases t with u | ⟨r, s9⟩
  · exact ⟨-1, u, rfl, q⟩
  · exact ⟨r, s9, rfl, q⟩
