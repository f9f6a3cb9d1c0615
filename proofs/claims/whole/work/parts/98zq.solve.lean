/-! SOLVE, NEXT, CHECK. -/
theorem IWd.cong {s s2 : zS} (h : zeq 96 s s2) (hI : IWd s) : IWd s2 := by
  intro k k0 k1 hk
  rw [h.ia (c := 5) rfl rfl] at hk ⊢
  rw [h.ja (c := 6) rfl rfl]
  exact hI k k0 k1 hk
/-- what a search leaves -/
def PEv (s s2 : zS) (D : Int → Dn) : Prop := IWd s2 ∧ (∀ i, act s i → CK s2 D i) ∧ IS s2 ∧ IC s2 ∧ zfr 24530806961244000418280013365398312673666825576029367399005075623978786190097082010218402228069734151845351098367352843794622255952822336 s s2
theorem all_bits {k : Int} (k0 : 0 ≤ k) (k16 : k ≤ 16) : ∃ v : Int, (1 : Int) * 2 ^ zsh k - 1 = v ∧ 0 ≤ v ∧ v < 65536 ∧ ∀ i : Nat, v.toNat.testBit i = decide ((i : Int) < k) := by
  obtain ⟨h1, h2⟩ := zpow_b k0 (by omega)
  have hle : 2 ^ k.toNat ≤ 2 ^ 16 := Nat.pow_le_pow_right (by decide) (by omega)
  have hge : 1 ≤ 2 ^ k.toNat := Nat.one_le_two_pow
  refine ⟨_, rfl, by rw [h1]; omega, by rw [h1]; omega, fun i => ?_⟩
  rw [h1, show (((2 ^ k.toNat : Nat) : Int) - 1).toNat = 2 ^ k.toNat - 1 by omega, Nat.testBit_two_pow_sub_one]
  apply decide_eq_decide.mpr
  omega
theorem b65535 (i : Nat) (h : i < 16) : Nat.testBit (65535 : Int).toNat i = true := by
  have : (65535 : Int).toNat = 2 ^ 16 - 1 := by decide
  rw [this, Nat.testBit_two_pow_sub_one, decide_eq_true h]
theorem ok_all {s : zS} {D : Int → Dn} {v1 : Int} (k0 : 0 ≤ gI s 0 10) (k16 : gI s 0 10 ≤ 16) (hv : ∀ i : Nat, v1.toNat.testBit i = decide ((i : Int) < gI s 0 10)) (a : Int) : okn v1 D (zAb s a) 17 = mok s D 65535 0 a := by
  unfold mok
  rw [decide_eq_true rfl, Bool.true_or, Bool.and_true, Bool.eq_iff_iff, okn_iff, okn_iff]
  constructor
  · intro h j hj _
    exact h j (by omega) (by rw [hv, decide_eq_true (by omega)])
  · intro h j hj hb
    rw [hv, decide_eq_true_iff] at hb
    exact h j (by omega) (b65535 j (by omega))
theorem srch {s : zS} {D : Int → Dn} {v1 set ag lo : Int} (hW : IW s) (hw : IWd s) (hF : IFm s D) (hk : 0 ≤ gI s 0 10 ∧ gI s 0 10 ≤ 16 ∧ gI s 177 18 = gI s 0 10) (v0 : 0 ≤ v1) (vR : zR v1) (hv : ∀ i : Nat, i < 17 → v1.toNat.testBit i = true → act s i) (hag : ag = 0 ∨ (ag = 1 ∧ gI s 0 11 ≠ 0)) (s0 : 0 ≤ set) (sR : zR set) (l0 : 0 ≤ lo) (l1 : lo ≤ 2 ^ (gI s 1 8).toNat) (heq : ∀ a, okn v1 D (zAb s a) 17 = mok s D set ag a) : ∃ r s5, f_25 lo v1 s = some (r, s5) ∧ IWd s5 ∧ (∀ i, act s i → CK s5 D i) ∧ zfr 19239260838083241802870625048898248928261591440656956380834163556656095378008990142613071030139516279435820793920 s s5 ∧ zR r ∧ (r = -1 ∨ (0 ≤ r ∧ r < 2 ^ (gI s 1 8).toNat)) ∧ ∀ s6, zeq 679570700416131733539748249079163353548276425533964694321087143757051692575080467399339847745085972146352382554695653792940220 s s6 → ∃ s7, f_193 lo set ag s6 = some (r, s7) ∧ zfr 24530806944997886347040966471386614324292444596471493484355151221363684735301571491048834072563042713556657598108014237679876279447322624 s6 s7 := by
  have hp := pow2_b hW.2.2.2.2.2.1.1 hW.2.2.2.2.2.1.2
  obtain ⟨r, s5, e5, x1, x2, x3⟩ := c_firstFrom hW hw hF hk.2.1 v0 vR hv l0 l1
  have hr : r = -1 ∨ (0 ≤ r ∧ r < 2 ^ (gI s 1 8).toNat) := by
    rcases x3 with ⟨h, -⟩ | ⟨h1, h2, -, -⟩
    · exact Or.inl h
    · exact Or.inr ⟨by omega, h2⟩
  refine ⟨r, s5, e5, x1, x2, zfr_sub rfl (fr_25 e5), ⟨by omega, by omega⟩, hr, fun s6 hz => ?_⟩
  have F8 : gI s6 1 8 = gI s 1 8 := hz.i rfl
  have F10 : gI s6 0 10 = gI s 0 10 := hz.i rfl
  have F11 : gI s6 0 11 = gI s 0 11 := hz.i rfl
  have F18 : gI s6 177 18 = gI s 177 18 := hz.i rfl
  obtain ⟨r', s7, e7, y⟩ := m_firstFrom (s := s6) (D := D) (lo := lo) (set := set) (ag := ag) (IW.cong (hz.sub rfl) hW) (by rw [F10, F18]; exact hk) (fun i hi => by
    rw [hz.pa (c := 28) rfl rfl]
    exact (hF i ((act_cong (hz.sub rfl)).mp hi)).1.eq (hz.sub rfl)) (by rw [F11]; exact hag) s0 sR l0 (by rw [F8]; exact l1)
  rw [F8] at y
  have hm : ∀ a, mok s6 D set ag a = mok s D set ag a := fun a => by unfold mok; rw [F10, zAb_cong (hz.sub rfl)]
  have := fst_un x3 y l0 (fun a _ _ => by rw [hm a]; exact heq a)
  rw [this] at e7
  exact ⟨s7, e7, zfr_sub rfl (fr_193 e7)⟩
theorem m_found {s : zS} {r : Int} (hr : zR r) : f_222 r s = some (if r = -1 then 0 else 1, sI (sI s 177 21 (if r = -1 then 0 else 1)) 177 22 r) := by
  unfold f_222
  rw [zg_pos hr]
  by_cases h : r = -1
  · rw [if_pos h, if_pos h, gI_same (by decide), if_pos rfl]
  · rw [if_neg h, if_neg h, gI_same (by decide), if_neg (by decide)]
/-- a new present one in both -/
theorem IS.found {s s2 : zS} {r : Int} (hS : IS s) (hz : zeq 2030763936123643695980283826823491573323131466700654479087001234030977698512156905237585860296754021510997057117111446363176960 s s2) (h12 : gI s2 0 12 = r) (h21 : gI s2 177 21 = if r = -1 then 0 else 1) (h22 : gI s2 177 22 = r) (hr : r = -1 ∨ (0 ≤ r ∧ r < 2 ^ (gI s 1 8).toNat)) : IS s2 := by
  obtain ⟨h1, h2, -⟩ := hS
  refine ⟨?_, ?_, ?_⟩
  · rw [hz.i (c := 0) (i := 10) rfl, hz.i (c := 177) (i := 18) rfl]; exact h1
  · rw [hz.i (c := 0) (i := 11) rfl, hz.i (c := 177) (i := 19) rfl]; exact h2
  · rw [hz.i (c := 1) (i := 8) rfl, h12, h21, h22]
    rcases hr with h | ⟨h, h'⟩
    · exact Or.inl ⟨h, by rw [if_pos h]⟩
    · exact Or.inr ⟨h, h', by rw [if_neg (by omega)], rfl⟩
theorem PEv.of {s s5 s2 : zS} {D : Int → Dn} (x1 : IWd s5) (x2 : ∀ i, act s i → CK s5 D i) (x3 : zfr 19239260838083241802870625048898248928261591440656956380834163556656095378008990142613071030139516279435820793920 s s5) (hC : IC s) (hz : zfr 24530806961244000418279994126137474590425006018005600368646128651280266083514805450059015713304984165032110079127116874638744889170329600 s5 s2) (hS : IS s2) : PEv s s2 D := by
  refine ⟨IWd.cong (hz.eq rfl) x1, fun i hi => (x2 i hi).eq (hz.eq rfl), hS, IC.cong ?_ hC, zfr_tr (zfr_sub rfl x3) (zfr_sub rfl hz)⟩
  exact (x3.eq rfl).tr (hz.eq rfl)
theorem op_solve {s : zS} {D : Int → Dn} (hW : IW s) (hw : IWd s) (hF : IFm s D) (hS : IS s) (hC : IC s) : zturnQ s f_23 f_192 (fun s2 => PEv s s2 D) := by
  have hk := hS.1
  have hp := pow2_b hW.2.2.2.2.2.1.1 hW.2.2.2.2.2.1.2
  obtain ⟨v, ev, v0, v1, v2⟩ := all_bits hk.1 hk.2.1
  obtain ⟨r, s5, e5, x1, x2, x3, x4, x5, x6⟩ := srch (lo := 0) (ag := 0) (set := 65535) hW hw hF hk v0 ⟨by omega, by omega⟩ (fun i hi hb => by rw [v2, decide_eq_true_iff] at hb; exact Or.inl ⟨by omega, hb⟩) (Or.inl rfl) (by decide) (by decide) (by decide) (by omega) (ok_all hk.1 hk.2.1 v2)
  have z6 : zfr 2582249897326169427739160983217336282294009730446368493212428685041625719128611455244266776448754665406046599935763939392 s (sI (sI s5 0 12 r) 177 0 0) := zfr_tr (zfr_sub rfl x3) (zfr_tr (zfr_I rfl) (zfr_I rfl))
  obtain ⟨s7, e7, z7⟩ := x6 _ (z6.eq rfl)
  refine ⟨if r = -1 then 0 else 1, sI s5 0 12 r, sI (sI s7 177 21 (if r = -1 then 0 else 1)) 177 22 r, ?_, ?_, by split <;> decide, ?_⟩
  · unfold f_23 f_24
    rw [ev, zo_of rfl, zb_of e5, gI_same x4]
    by_cases h : r = -1
    · rw [if_pos h, if_pos h]
    · rw [if_neg h, if_neg h]
  · unfold f_192
    rw [zb_of e7, zb_of (m_found x4)]
  · have zz : zfr 24530806961244000418279994126137474590425006018005600368646128651280266083514805450059015713304984165032110079127116874638744889170329600 s5 (sI (sI s7 177 21 (if r = -1 then 0 else 1)) 177 22 r) := zfr_tr (zfr_tr (zfr_I rfl) (zfr_I rfl)) (zfr_tr (zfr_sub rfl z7) (zfr_tr (zfr_I rfl) (zfr_I rfl)))
    refine PEv.of x1 x2 x3 hC zz (hS.found (r := r) ((x3.eq rfl).tr (zz.eq rfl)) ?_ ?_ ?_ x5)
    · rw [gI_nc (by decide), gI_nc (by decide), z7.i rfl, gI_nc (by decide), gI_same x4]
    · rw [gI_ni (by decide), gI_same (by split <;> decide)]
    · rw [gI_same x4]
theorem op_next {s : zS} {D : Int → Dn} (hW : IW s) (hw : IWd s) (hF : IFm s D) (hS : IS s) (hC : IC s) : zturn s f_7 f_223 (fun s2 => zeq MK s s2 ∨ PEv s s2 D) := by
  have hk := hS.1
  have hp := pow2_b hW.2.2.2.2.2.1.1 hW.2.2.2.2.2.1.2
  rcases hS.2.2 with ⟨p1, p2⟩ | ⟨p1, p2, p3, p4⟩
  · refine ⟨1, s, 0, sI s 177 0 1, ?_, ?_, gI_same (by decide), by decide, fun h => absurd h (by decide), Or.inl (zeq_th _ _)⟩
    · unfold f_7 f_38
      rw [if_pos p1, zb_of rfl]
      rfl
    · unfold f_223 j_223_13
      rw [if_pos p2, gI_same (by decide), if_pos (by decide)]
  obtain ⟨v, ev, v0, v1, v2⟩ := all_bits hk.1 hk.2.1
  obtain ⟨r, s5, e5, x1, x2, x3, x4, x5, x6⟩ := srch (lo := gI s 0 12 + 1) (ag := 0) (set := 65535) hW hw hF hk v0 ⟨by omega, by omega⟩ (fun i hi hb => by rw [v2, decide_eq_true_iff] at hb; exact Or.inl ⟨by omega, hb⟩) (Or.inl rfl) (by decide) (by decide) (by omega) (by omega) (ok_all hk.1 hk.2.1 v2)
  obtain ⟨b, hb⟩ : ∃ b : Int, b = if r = -1 then 0 else 1 := ⟨_, rfl⟩
  have hbR : zR b := by rw [hb]; split <;> decide
  have z1 : zfr 8343699359066055009355553539724864369684230828144492225392586197758826514326428197897925296128 s5 (sJ (sI s5 0 12 r) 205 0 (BitVec.ofInt 64 b)) := zfr_tr (zfr_I rfl) (zfr_JA rfl rfl)
  have z6 : zfr 2582249897326169427739160983217336282294009730446368493212480107059042006817428798031221693652035375901847649306493583424 s (sI (sJ (sI s5 0 12 r) 205 0 (BitVec.ofInt 64 b)) 177 0 0) := zfr_tr (zfr_sub rfl x3) (zfr_tr (zfr_sub rfl z1) (zfr_I rfl))
  obtain ⟨s7, e7, z7⟩ := x6 _ (z6.eq rfl)
  refine ⟨0, sJ (sI s5 0 12 r) 205 0 (BitVec.ofInt 64 b), b, sI (sI s7 177 21 b) 177 22 r, ?_, ?_, ?_, by decide, fun _ => ⟨hbR, ?_⟩, Or.inr ?_⟩
  · have h38 : f_38 s = some (Sum.inl b, sI s5 0 12 r) := by
      unfold f_38 f_24
      rw [if_neg (by omega), ev, zo_of rfl, zb_of e5, gI_same x4, hb]
      by_cases h : r = -1
      · rw [if_pos h, if_pos h]
      · rw [if_neg h, if_neg h]
    unfold f_7
    rw [zb_of h38]
    show zg (zR b) _ = _
    rw [zg_pos hbR]
  · unfold f_223 j_223_13
    have u1 : gI (sJ (sI s5 0 12 r) 205 0 (BitVec.ofInt 64 b)) 177 21 = 1 := by rw [gI_sJ, gI_nc (by decide), x3.i rfl]; exact p3
    have u2 : gI (sJ (sI s5 0 12 r) 205 0 (BitVec.ofInt 64 b)) 177 22 = gI s 0 12 := by rw [gI_sJ, gI_nc (by decide), x3.i rfl]; exact p4
    rw [u1, if_neg (by decide), gI_same (by decide), if_neg (by decide), u2, zb_of e7, zb_of (m_found x4), ← hb]
  · rw [gI_ni (by decide), gI_ni (by decide), z7.i rfl, gI_same (by decide)]
  · rw [gJ_sI, gJ_sI, z7.ja (c := 205) rfl rfl, gJ_sI, gJ_same]
  · have zz : zfr 24530806961244000418279994126137474590425006018005600368646128651280266083514805450059015713304984165032110079127116874638744889170329600 s5 (sI (sI s7 177 21 b) 177 22 r) := zfr_tr (zfr_tr (zfr_sub rfl z1) (zfr_I rfl)) (zfr_tr (zfr_sub rfl z7) (zfr_tr (zfr_I rfl) (zfr_I rfl)))
    refine PEv.of x1 x2 x3 hC zz (hS.found (r := r) ((x3.eq rfl).tr (zz.eq rfl)) ?_ ?_ ?_ x5)
    · rw [gI_nc (by decide), gI_nc (by decide), z7.i rfl, gI_nc (by decide), gI_sJ, gI_same x4]
    · rw [gI_ni (by decide), gI_same hbR, hb]
    · rw [gI_same x4]
theorem ok_chk {s : zS} {D : Int → Dn} {v1 : Int} (k0 : 0 ≤ gI s 0 10) (k16 : gI s 0 10 ≤ 16) (hv : ∀ i : Nat, i < 17 → v1.toNat.testBit i = (decide ((i : Int) < gI s 0 10) || decide (i = 16))) (a : Int) : okn v1 D (zAb s a) 17 = mok s D 65535 1 a := by
  unfold mok
  rw [decide_eq_false (by decide), Bool.false_or, Bool.eq_iff_iff, Bool.and_eq_true, okn_iff, okn_iff]
  constructor
  · intro h
    refine ⟨fun j hj _ => h j (by omega) (by rw [hv j (by omega), decide_eq_true (by omega)]; rfl), ?_⟩
    exact h 16 (by decide) (by rw [hv 16 (by decide), decide_eq_true rfl, Bool.or_true])
  · rintro ⟨h1, h2⟩ j hj hb
    rw [hv j hj, Bool.or_eq_true, decide_eq_true_iff, decide_eq_true_iff] at hb
    by_cases e : j = 16
    · subst e
      exact h2
    · exact h1 j (by omega) (b65535 j (by omega))
theorem op_check {s : zS} {D : Int → Dn} (hW : IW s) (hw : IWd s) (hF : IFm s D) (hS : IS s) (hC : IC s) : zturn s f_8 f_224 (fun s2 => zeq MK s s2 ∨ PEv s s2 D) := by
  have hk := hS.1
  have hp := pow2_b hW.2.2.2.2.2.1.1 hW.2.2.2.2.2.1.2
  obtain ⟨c1, c2⟩ := hS.2.1
  by_cases p1 : gI s 0 11 = 0
  · refine ⟨1, s, 0, sI s 177 0 1, ?_, ?_, gI_same (by decide), by decide, fun h => absurd h (by decide), Or.inl (zeq_th _ _)⟩
    · unfold f_8 f_39
      rw [if_pos p1, zb_of rfl]
      rfl
    · unfold f_224 j_224_13
      rw [if_pos (by omega), gI_same (by decide), if_pos (by decide)]
  obtain ⟨v, ev, v0, v1, v2⟩ := all_bits hk.1 hk.2.1
  obtain ⟨u, hu⟩ : ∃ u : Int, u = zor v 65536 := ⟨_, rfl⟩
  have hun : u = ((v.toNat ||| 65536 : Nat) : Int) := by
    rw [hu, zor_nat v0 ⟨by omega, by omega⟩ (by decide) (by decide)]
    rfl
  have hub : v.toNat ||| 65536 < 2 ^ 17 := Nat.or_lt_two_pow (by omega) (by decide)
  have hut : ∀ i : Nat, i < 17 → u.toNat.testBit i = (decide ((i : Int) < gI s 0 10) || decide (i = 16)) := by
    intro i hi
    rw [hun, show (((v.toNat ||| 65536 : Nat) : Int)).toNat = v.toNat ||| 65536 from rfl, Nat.testBit_or, v2, show (65536 : Nat) = 2 ^ 16 by decide, Nat.testBit_two_pow]
    congr 1
    apply decide_eq_decide.mpr
    omega
  obtain ⟨r, s5, e5, x1, x2, x3, x4, x5, x6⟩ := srch (v1 := u) (lo := 0) (ag := 1) (set := 65535) hW hw hF hk (by omega) ⟨by omega, by omega⟩ (fun i hi hb => by
    rw [hut i hi, Bool.or_eq_true, decide_eq_true_iff, decide_eq_true_iff] at hb
    rcases hb with hb | hb
    · exact Or.inl ⟨by omega, hb⟩
    · exact Or.inr ⟨by omega, p1⟩) (Or.inr ⟨rfl, p1⟩) (by decide) (by decide) (by decide) (by omega) (ok_chk hk.1 hk.2.1 hut)
  obtain ⟨b, hb⟩ : ∃ b : Int, b = if r = -1 then 0 else 1 := ⟨_, rfl⟩
  have hbR : zR b := by rw [hb]; split <;> decide
  have z1 : zfr 8343699359066055009355553539724864369684230828144492225392586197758826514326428197897925296128 s5 (sJ (sI s5 0 12 r) 205 0 (BitVec.ofInt 64 b)) := zfr_tr (zfr_I rfl) (zfr_JA rfl rfl)
  have z6 : zfr 2582249897326169427739160983217336282294009730446368493212480107059042006817428798031221693652035375901847649306493583424 s (sI (sJ (sI s5 0 12 r) 205 0 (BitVec.ofInt 64 b)) 177 0 0) := zfr_tr (zfr_sub rfl x3) (zfr_tr (zfr_sub rfl z1) (zfr_I rfl))
  obtain ⟨s7, e7, z7⟩ := x6 _ (z6.eq rfl)
  refine ⟨0, sJ (sI s5 0 12 r) 205 0 (BitVec.ofInt 64 b), b, sI (sI s7 177 21 b) 177 22 r, ?_, ?_, ?_, by decide, fun _ => ⟨hbR, ?_⟩, Or.inr ?_⟩
  · have h38 : f_39 s = some (Sum.inl b, sI s5 0 12 r) := by
      unfold f_39 f_24
      rw [if_neg p1, ev, zo_of rfl, ← hu, zb_of e5, gI_same x4, hb]
      by_cases h : r = -1
      · rw [if_pos h, if_pos h]
      · rw [if_neg h, if_neg h]
    unfold f_8
    rw [zb_of h38]
    show zg (zR b) _ = _
    rw [zg_pos hbR]
  · unfold f_224 j_224_13
    have u1 : gI (sJ (sI s5 0 12 r) 205 0 (BitVec.ofInt 64 b)) 177 19 = gI s 0 11 := by rw [gI_sJ, gI_nc (by decide), x3.i rfl]; exact c1.symm
    rw [u1, if_neg p1, gI_same (by decide), if_neg (by decide), zb_of e7, zb_of (m_found x4), ← hb]
  · rw [gI_ni (by decide), gI_ni (by decide), z7.i rfl, gI_same (by decide)]
  · rw [gJ_sI, gJ_sI, z7.ja (c := 205) rfl rfl, gJ_sI, gJ_same]
  · have zz : zfr 24530806961244000418279994126137474590425006018005600368646128651280266083514805450059015713304984165032110079127116874638744889170329600 s5 (sI (sI s7 177 21 b) 177 22 r) := zfr_tr (zfr_tr (zfr_sub rfl z1) (zfr_I rfl)) (zfr_tr (zfr_sub rfl z7) (zfr_tr (zfr_I rfl) (zfr_I rfl)))
    refine PEv.of x1 x2 x3 hC zz (hS.found (r := r) ((x3.eq rfl).tr (zz.eq rfl)) ?_ ?_ ?_ x5)
    · rw [gI_nc (by decide), gI_nc (by decide), z7.i rfl, gI_nc (by decide), gI_sJ, gI_same x4]
    · rw [gI_ni (by decide), gI_same hbR, hb]
    · rw [gI_same x4]
