/-! CORE. -/
def wo (x i : Nat) : Nat := x ^^^ (x &&& 2 ^ i)
theorem wo_bit (x i j : Nat) : (wo x i).testBit j = (x.testBit j && !decide (i = j)) := by
  unfold wo
  rw [Nat.testBit_xor, Nat.testBit_and, Nat.testBit_two_pow]
  cases x.testBit j <;> cases decide (i = j) <;> rfl
theorem wo_le (x i : Nat) : wo x i ≤ x := by
  apply Nat.le_of_testBit
  intro j h
  rw [wo_bit, Bool.and_eq_true] at h
  exact h.1
theorem zand_wo {x i : Int} (x0 : 0 ≤ x) (x1 : x < 65536) (i0 : 0 ≤ i) (i1 : i < 16) : zand x (zxor (1 * 2 ^ zsh i) (-1)) = ((wo x.toNat i.toNat : Nat) : Int) := by
  obtain ⟨h1, h2⟩ := zpow_b i0 (by omega)
  have hb : 0 ≤ (1 : Int) * 2 ^ zsh i ∧ zR (1 * 2 ^ zsh i) := by
    rw [h1]
    generalize 2 ^ i.toNat = p at h2
    exact ⟨by omega, by omega, by omega⟩
  obtain ⟨c, c1, c2, c3⟩ := zandn_spec (a := x) (b := 1 * 2 ^ zsh i) x0 ⟨by omega, by omega⟩ hb.1 hb.2
  rw [c1]
  congr 1
  apply Nat.eq_of_testBit_eq
  intro j
  rw [c3 j, wo_bit, h1, show (((2 ^ i.toNat : Nat) : Int)).toNat = 2 ^ i.toNat from rfl, Nat.testBit_two_pow]
/-- no assignment for these -/
def emp (s : zS) (D : Int → Dn) (w : Nat) : Bool := decide (nbt (fun a => okn (w : Int) D (zAb s a) 17) (2 ^ (gI s 1 8).toNat) = 0)
/-- the core after i steps -/
def cor (s : zS) (D : Int → Dn) : Nat → Nat
  | 0 => 2 ^ (gI s 0 10).toNat - 1
  | i + 1 => if emp s D (wo (cor s D i) i) = true then wo (cor s D i) i else cor s D i
theorem cor_le (s : zS) (D : Int → Dn) : ∀ i, cor s D i ≤ 2 ^ (gI s 0 10).toNat - 1
  | 0 => Nat.le_refl _
  | i + 1 => by
    have h := cor_le s D i
    have h2 := wo_le (cor s D i) i
    rw [cor]
    split <;> omega
theorem cor_b {s : zS} (D : Int → Dn) (k0 : 0 ≤ gI s 0 10) (k16 : gI s 0 10 ≤ 16) (i : Nat) : cor s D i < 65536 := by
  have h := cor_le s D i
  have hle : 2 ^ (gI s 0 10).toNat ≤ 2 ^ 16 := Nat.pow_le_pow_right (by decide) (by omega)
  have hge : 1 ≤ 2 ^ (gI s 0 10).toNat := Nat.one_le_two_pow
  omega
theorem cor_bit {s : zS} {D : Int → Dn} {x j : Nat} (h : x ≤ 2 ^ (gI s 0 10).toNat - 1) (hb : x.testBit j = true) : j < (gI s 0 10).toNat := by
  by_cases hj : j < (gI s 0 10).toNat
  · exact hj
  · have hge : 1 ≤ 2 ^ (gI s 0 10).toNat := Nat.one_le_two_pow
    have : x < 2 ^ j := Nat.lt_of_lt_of_le (by omega) (Nat.pow_le_pow_right (by decide : 0 < 2) (show (gI s 0 10).toNat ≤ j by omega))
    rw [Nat.testBit_lt_two_pow this] at hb
    cases hb
theorem nbt_pos {f : Nat → Bool} {i : Nat} (hf : f i = true) : ∀ k : Nat, i < k → 1 ≤ nbt f k
  | 0, h => by omega
  | k + 1, h => by
    rw [nbt]
    by_cases e : i = k
    · rw [← e, hf, if_pos rfl]; omega
    · have := nbt_pos hf k (by omega)
      omega
theorem fst_emp {P : Int → Bool} {N : Nat} {r : Int} (h : fst P 0 N r) : r = -1 ↔ nbt (fun a => P a) N = 0 := by
  rcases h with ⟨h1, h2⟩ | ⟨h1, h2, h3, h4⟩
  · refine ⟨fun _ => nbt_zero N (fun i hi => h2 i (by omega) (by omega)), fun _ => h1⟩
  · have := nbt_pos (f := fun a : Nat => P a) (i := r.toNat) (by rw [show ((r.toNat : Nat) : Int) = r by omega]; exact h3) N (by omega)
    constructor
    · intro h; omega
    · intro h; omega
theorem ok_sub {s : zS} {D : Int → Dn} {w : Nat} (k16 : gI s 0 10 ≤ 16) (hw : ∀ j, w.testBit j = true → j < (gI s 0 10).toNat) (a : Int) : mok s D w 0 a = okn w D (zAb s a) 17 := by
  unfold mok
  rw [decide_eq_true rfl, Bool.true_or, Bool.and_true, Bool.eq_iff_iff, okn_iff, okn_iff]
  constructor
  · intro h j hj hb
    exact h j (hw j hb) hb
  · intro h j hj hb
    exact h j (by omega) hb
theorem emp_cong {s s2 : zS} {D : Int → Dn} (h : zeq 546812681195752981093125556779405341338292357723303109106442651602488249799843980805878294255763616 s s2) (w : Nat) : emp s2 D w = emp s D w := by
  unfold emp
  rw [h.i (c := 1) (i := 8) rfl]
  simp only [zAb_cong h]
theorem c_core {s s5 : zS} {D : Int → Dn} (hW : IW s) (hF : IFm s D) (hk : 0 ≤ gI s 0 10 ∧ gI s 0 10 ≤ 16) (x1 : IWd s5) (x2 : ∀ i, act s i → CK s5 D i) (x3 : zfr 19239260838083241802870625048898248928261591440656956380834163556656095378008990142613071030139516279435820793920 s s5) : ∃ t, zlp (fun (q : Int × Int × zS) => b_41_27 q.1 q.2.1 q.2.2) zF ((cor s D 0 : Nat), 0, s5) = some t ∧ t.1 = (cor s D (gI s 0 10).toNat : Nat) ∧ IWd t.2 ∧ (∀ i, act s i → CK t.2 D i) ∧ zfr 19239260838083241802870625048898248928261591440656956380834163556656095378008990142613071030139516279435820793920 s t.2 := by
  have f0 := hW.2.2.2.2.2.1.1
  have f12 := hW.2.2.2.2.2.1.2
  have hp := pow2_b f0 f12
  have hcast : (2 : Int) ^ (gI s 1 8).toNat = ((2 ^ (gI s 1 8).toNat : Nat) : Int) := by rw [Int.natCast_pow]; rfl
  refine zlp_F (I := fun (q : Int × Int × zS) => 0 ≤ q.2.1 ∧ q.2.1 ≤ gI s 0 10 ∧ zfr 19239260838083241802870625048898248928261591440656956380834163556656095378008990142613071030139516279435820793920 s q.2.2 ∧ IWd q.2.2 ∧ (∀ i, act s i → CK q.2.2 D i) ∧ q.1 = (cor s D q.2.1.toNat : Nat)) (μ := fun q => (gI s 0 10 - q.2.1).toNat) (Q := fun (t : Int × zS) => t.1 = (cor s D (gI s 0 10).toNat : Nat) ∧ IWd t.2 ∧ (∀ i, act s i → CK t.2 D i) ∧ zfr 19239260838083241802870625048898248928261591440656956380834163556656095378008990142613071030139516279435820793920 s t.2) ?_ ⟨by dsimp only; omega, by dsimp only; omega, x3, x1, x2, rfl⟩ (by dsimp only; omega)
  rintro ⟨left, i, σ⟩ ⟨a1, a2, a3, a4, a5, a6⟩
  dsimp only at a1 a2 a3 a4 a5 a6 ⊢
  have hz : zeq 2649388374917168212986973653605808763990030178540725773606777396060162349097649274346096254817520462418981441071734889382076 s σ := a3.eq rfl
  have F2 : gI σ 1 8 = gI s 1 8 := hz.i rfl
  have K2 : gI σ 0 10 = gI s 0 10 := hz.i rfl
  unfold b_41_27
  rw [zg_pos ⟨by omega, by omega⟩, K2]
  by_cases hc : i < gI s 0 10
  · left
    have hb := cor_b D hk.1 hk.2 i.toNat
    have hwo := wo_le (cor s D i.toNat) i.toNat
    have hle := cor_le s D i.toNat
    rw [if_pos hc, a6, zand_wo (by omega) (by omega) a1 (by omega), show (((cor s D i.toNat : Nat) : Int)).toNat = cor s D i.toNat from rfl]
    obtain ⟨r, s6, e6, y1, y2, y3⟩ := c_firstFrom (lo := 0) (v1 := ((wo (cor s D i.toNat) i.toNat : Nat) : Int)) (IW.cong (hz.sub rfl) hW) a4 (hF.fr a3 a5) (by rw [K2]; exact hk.2) (by omega) ⟨by omega, by omega⟩ (fun j hj hb => (act_cong (hz.sub rfl)).mpr (Or.inl ⟨by omega, by
      have := cor_bit (D := D) (s := s) (x := wo (cor s D i.toNat) i.toNat) (by omega) hb
      omega⟩)) (by decide) (by rw [F2]; omega)
    rw [F2, hcast] at y3
    simp only [zAb_cong (hz.sub rfl)] at y3
    have hr : zR r := by
      rcases y3 with ⟨h, -⟩ | ⟨h1, h2, -, -⟩
      · rw [h]; decide
      · exact ⟨by omega, by omega⟩
    have hE := fst_emp y3
    have hact : ∀ j, act s j → CK s6 D j := fun j hj => y2 j ((act_cong (hz.sub rfl)).mpr hj)
    have z6 : zfr 19239260838083241802870625048898248928261591440656956380834163556656095378008990142613071030139516279435820793920 s s6 := zfr_tr a3 (zfr_sub rfl (fr_25 e6))
    rw [zb_of e6, zg_pos hr]
    have hs : cor s D (i + 1).toNat = if emp s D (wo (cor s D i.toNat) i.toNat) = true then wo (cor s D i.toNat) i.toNat else cor s D i.toNat := by
      rw [show (i + 1).toNat = i.toNat + 1 by omega, cor]
    by_cases h1 : r = -1
    · rw [if_pos h1]
      refine ⟨_, rfl, ⟨by dsimp only; omega, by dsimp only; omega, z6, y1, hact, ?_⟩, by dsimp only; omega⟩
      dsimp only
      rw [hs, if_pos (by unfold emp; exact decide_eq_true (hE.mp h1))]
    · rw [if_neg h1]
      refine ⟨_, rfl, ⟨by dsimp only; omega, by dsimp only; omega, z6, y1, hact, ?_⟩, by dsimp only; omega⟩
      dsimp only
      rw [hs, if_neg (by unfold emp; rw [decide_eq_true_iff]; exact fun h => h1 (hE.mpr h))]
  · right
    rw [if_neg hc]
    have : i = gI s 0 10 := by omega
    rw [this] at a6
    exact ⟨_, rfl, a6, a4, a5, a3⟩
theorem m_core {s s5 : zS} {D : Int → Dn} (hW : IW s) (hF : ∀ i, act s i → FOR s (gP s 28 i) i 0 (D i)) (hk : 0 ≤ gI s 0 10 ∧ gI s 0 10 ≤ 16 ∧ gI s 177 18 = gI s 0 10) (x3 : zfr 24530806944997888929290844558295203980211616599483367814060944050587197565960928031696456089404237343202010878245845673583048252194816000 s s5) : ∃ t, zlp (fun (q : Int × Int × zS) => b_236_42 q.1 q.2.1 q.2.2) zF ((cor s D 0 : Nat), 0, s5) = some t ∧ t.1 = (cor s D (gI s 0 10).toNat : Nat) ∧ zfr 24530806944997886347040966471386614324292444596471493484355151221363684735301571491048834072563042713556657598108014237679876279447322624 s5 t.2 := by
  have f0 := hW.2.2.2.2.2.1.1
  have f12 := hW.2.2.2.2.2.1.2
  have hp := pow2_b f0 f12
  have hcast : (2 : Int) ^ (gI s 1 8).toNat = ((2 ^ (gI s 1 8).toNat : Nat) : Int) := by rw [Int.natCast_pow]; rfl
  refine zlp_F (I := fun (q : Int × Int × zS) => 0 ≤ q.2.1 ∧ q.2.1 ≤ gI s 0 10 ∧ zfr 24530806944997886347040966471386614324292444596471493484355151221363684735301571491048834072563042713556657598108014237679876279447322624 s5 q.2.2 ∧ q.1 = (cor s D q.2.1.toNat : Nat)) (μ := fun q => (gI s 0 10 - q.2.1).toNat) (Q := fun (t : Int × zS) => t.1 = (cor s D (gI s 0 10).toNat : Nat) ∧ zfr 24530806944997886347040966471386614324292444596471493484355151221363684735301571491048834072563042713556657598108014237679876279447322624 s5 t.2) ?_ ⟨by dsimp only; omega, by dsimp only; omega, zfr_rf _ _, rfl⟩ (by dsimp only; omega)
  rintro ⟨left, i, σ⟩ ⟨a1, a2, a3, a6⟩
  dsimp only at a1 a2 a3 a6 ⊢
  have hz : zeq 679570700416131733539748249079163353548276425533964694321087143757051692575080467399339847745085972146352382554695653792940220 s σ := (x3.eq rfl).tr (a3.eq rfl)
  have F2 : gI σ 1 8 = gI s 1 8 := hz.i rfl
  have K2 : gI σ 0 10 = gI s 0 10 := hz.i rfl
  have K3 : gI σ 177 18 = gI s 177 18 := hz.i rfl
  unfold b_236_42
  rw [zg_pos ⟨by omega, by omega⟩, K3, hk.2.2]
  by_cases hc : i < gI s 0 10
  · left
    have hb := cor_b D hk.1 hk.2.1 i.toNat
    have hwo := wo_le (cor s D i.toNat) i.toNat
    have hle := cor_le s D i.toNat
    rw [if_pos hc, a6, zand_wo (by omega) (by omega) a1 (by omega), show (((cor s D i.toNat : Nat) : Int)).toNat = cor s D i.toNat from rfl]
    obtain ⟨r, s6, e6, y3⟩ := m_firstFrom (s := σ) (D := D) (lo := 0) (ag := 0) (set := ((wo (cor s D i.toNat) i.toNat : Nat) : Int)) (IW.cong (hz.sub rfl) hW) (by rw [K2, K3]; exact hk) (fun j hj => by
      rw [hz.pa (c := 28) rfl rfl]
      exact (hF j ((act_cong (hz.sub rfl)).mp hj)).eq (hz.sub rfl)) (Or.inl rfl) (by omega) ⟨by omega, by omega⟩ (by decide) (by rw [F2]; omega)
    rw [F2, hcast] at y3
    have hm : mok σ D ((wo (cor s D i.toNat) i.toNat : Nat) : Int) 0 = fun a => okn ((wo (cor s D i.toNat) i.toNat : Nat) : Int) D (zAb s a) 17 := by
      funext a
      rw [← ok_sub (s := s) hk.2.1 (fun j hj => cor_bit (D := D) (s := s) (by omega) hj)]
      unfold mok
      rw [K2, zAb_cong (hz.sub rfl)]
    rw [hm] at y3
    have hr : zR r := by
      rcases y3 with ⟨h, -⟩ | ⟨h1, h2, -, -⟩
      · rw [h]; decide
      · exact ⟨by omega, by omega⟩
    have hE := fst_emp y3
    have z6 : zfr 24530806944997886347040966471386614324292444596471493484355151221363684735301571491048834072563042713556657598108014237679876279447322624 s5 s6 := zfr_tr a3 (zfr_sub rfl (fr_193 e6))
    rw [zb_of e6, zg_pos hr]
    have hs : cor s D (i + 1).toNat = if emp s D (wo (cor s D i.toNat) i.toNat) = true then wo (cor s D i.toNat) i.toNat else cor s D i.toNat := by
      rw [show (i + 1).toNat = i.toNat + 1 by omega, cor]
    by_cases h1 : r = -1
    · rw [if_pos h1]
      refine ⟨_, rfl, ⟨by dsimp only; omega, by dsimp only; omega, z6, ?_⟩, by dsimp only; omega⟩
      dsimp only
      rw [hs, if_pos (by unfold emp; exact decide_eq_true (hE.mp h1))]
    · rw [if_neg h1]
      refine ⟨_, rfl, ⟨by dsimp only; omega, by dsimp only; omega, z6, ?_⟩, by dsimp only; omega⟩
      dsimp only
      rw [hs, if_neg (by unfold emp; rw [decide_eq_true_iff]; exact fun h => h1 (hE.mpr h))]
  · right
    rw [if_neg hc]
    have : i = gI s 0 10 := by omega
    rw [this] at a6
    exact ⟨_, rfl, a6, a3⟩
/-- the reference marks the core -/
theorem m_mark {s : zS} {c : Nat} (hc : c < 65536) : ∃ t, zlp (fun (q : Int × Int × zS) => b_236_89 (c : Int) q.1 q.2.1 q.2.2) zF (0, 0, s) = some t ∧ t.1 = (nbt (fun i => c.testBit i) 16 : Nat) ∧ (∀ f, 0 ≤ f → f < 16 → gI t.2 188 f = if c.testBit f.toNat then 1 else 0) ∧ zfr 392318858461667547739736838950479151006397215279002157056 s t.2 := by
  refine zlp_F (I := fun (q : Int × Int × zS) => 0 ≤ q.2.1 ∧ q.2.1 ≤ 16 ∧ q.1 = (nbt (fun i => c.testBit i) q.2.1.toNat : Nat) ∧ (∀ f, 0 ≤ f → f < q.2.1 → gI q.2.2 188 f = if c.testBit f.toNat then 1 else 0) ∧ zfr 392318858461667547739736838950479151006397215279002157056 s q.2.2) (μ := fun q => (16 - q.2.1).toNat) (Q := fun (t : Int × zS) => t.1 = (nbt (fun i => c.testBit i) 16 : Nat) ∧ (∀ f, 0 ≤ f → f < 16 → gI t.2 188 f = if c.testBit f.toNat then 1 else 0) ∧ zfr 392318858461667547739736838950479151006397215279002157056 s t.2) ?_ ⟨by dsimp only; omega, by dsimp only; omega, rfl, fun f h1 h2 => by dsimp only at h2; omega, zfr_rf _ _⟩ (by dsimp only; decide)
  rintro ⟨n, i, σ⟩ ⟨a1, a2, a3, a4, a5⟩
  dsimp only at a1 a2 a3 a4 a5 ⊢
  unfold b_236_89 j_236_89_114
  rw [zg_pos ⟨by omega, by omega⟩]
  by_cases h16 : i < 16
  · left
    rw [if_pos h16, zg_pos ⟨by omega, ⟨by omega, by omega⟩⟩, ztest (by omega) ⟨by omega, by omega⟩ a1 (by omega), show ((c : Int)).toNat = c from rfl]
    have hs : nbt (fun i => c.testBit i) (i + 1).toNat = nbt (fun i => c.testBit i) i.toNat + (if c.testBit i.toNat = true then 1 else 0) := by
      rw [show (i + 1).toNat = i.toNat + 1 by omega, nbt]
    have hset : ∀ x : Int, zR x → (x = if c.testBit i.toNat then 1 else 0) → ∀ f, 0 ≤ f → f < i + 1 → gI (sI σ 188 i x) 188 f = if c.testBit f.toNat then 1 else 0 := by
      intro x hx he f f0 f1
      by_cases e : f = i
      · rw [e, gI_same hx, he]
      · rw [gI_ni e]
        exact a4 f f0 (by omega)
    by_cases hb : c.testBit i.toNat = true
    · rw [if_pos hb] at hs
      rw [if_pos hb, if_pos rfl, zg_pos ⟨a1, h16⟩, zg_pos (Or.inr rfl), zg_pos ⟨a1, h16⟩, gI_same (by decide), if_neg (by decide)]
      refine ⟨_, rfl, ⟨by dsimp only; omega, by dsimp only; omega, by dsimp only; rw [hs, a3]; rfl, hset 1 (by decide) (by rw [if_pos hb]), zfr_tr a5 (zfr_IA rfl rfl)⟩, by dsimp only; omega⟩
    · rw [if_neg hb] at hs
      rw [if_neg hb, if_neg (by decide), zg_pos ⟨a1, h16⟩, zg_pos (Or.inl rfl), zg_pos ⟨a1, h16⟩, gI_same (by decide), if_pos rfl]
      refine ⟨_, rfl, ⟨by dsimp only; omega, by dsimp only; omega, by dsimp only; rw [hs, a3]; rfl, hset 0 (by decide) (by rw [if_neg hb]), zfr_tr a5 (zfr_IA rfl rfl)⟩, by dsimp only; omega⟩
  · right
    rw [if_neg h16]
    have : i = 16 := by omega
    rw [this] at a3 a4
    exact ⟨_, rfl, a3, a4, a5⟩
theorem op_core {s : zS} {D : Int → Dn} (hW : IW s) (hw : IWd s) (hF : IFm s D) (hS : IS s) (hC : IC s) : zturn s f_10 f_236 (fun s2 => PEv s s2 D) := by
  have hk := hS.1
  have hp := pow2_b hW.2.2.2.2.2.1.1 hW.2.2.2.2.2.1.2
  obtain ⟨v, ev, v0, v1, v2⟩ := all_bits hk.1 hk.2.1
  have hv : v = (cor s D 0 : Nat) := by
    rw [cor]
    have h1 := (zpow_b hk.1 (by omega)).1
    have hge : 1 ≤ 2 ^ (gI s 0 10).toNat := Nat.one_le_two_pow
    omega
  obtain ⟨r, s5, e5, x1, x2, x3, x4, x5, x6⟩ := srch (lo := 0) (ag := 0) (set := 65535) hW hw hF hk v0 ⟨by omega, by omega⟩ (fun i hi hb => by rw [v2, decide_eq_true_iff] at hb; exact Or.inl ⟨by omega, hb⟩) (Or.inl rfl) (by decide) (by decide) (by decide) (by omega) (ok_all hk.1 hk.2.1 v2)
  by_cases hr : r = -1
  · -- there is none
    obtain ⟨t, et, t1, t2, t3, t4⟩ := c_core hW hF ⟨hk.1, hk.2.1⟩ x1 x2 x3
    obtain ⟨c, hc⟩ : ∃ c, c = cor s D (gI s 0 10).toNat := ⟨_, rfl⟩
    have hcb : c < 65536 := by rw [hc]; exact cor_b D hk.1 hk.2.1 _
    rw [← hc] at t1
    obtain ⟨n, hn⟩ : ∃ n, n = nbt (fun i => c.testBit i) 16 := ⟨_, rfl⟩
    have hnb : n ≤ 16 := by rw [hn]; exact nbt_b _ _
    have hn32 : nbt (fun i => c.testBit i) 32 = n := by
      have h0 : nbt (fun i => c.testBit (16 + i)) 16 = 0 := nbt_zero 16 (fun i _ => Nat.testBit_lt_two_pow (Nat.lt_of_lt_of_le hcb (by rw [show 65536 = 2 ^ 16 by decide]; exact Nat.pow_le_pow_right (by decide) (by omega))))
      rw [show 32 = 16 + 16 by decide, nbt_add, h0, hn]
      rfl
    obtain ⟨s1, hs1⟩ : ∃ s1, s1 = sJ (sI t.2 0 13 (c : Int)) 205 0 (BitVec.ofInt 64 (n : Int)) := ⟨_, rfl⟩
    have z1 : zfr 16687398718132110018711107079449677317351045368600167107998217478314372318157055346425120948224 t.2 s1 := by rw [hs1]; exact zfr_tr (zfr_I rfl) (zfr_JA rfl rfl)
    have z1s : zfr 19239260838083241819558023767030358946972698520106633698185208925256262486007207620927443348296571625860941742144 s s1 := zfr_tr (zfr_sub rfl t4) (zfr_sub rfl z1)
    obtain ⟨s7, e7, z7⟩ := x6 s1 (z1s.eq rfl)
    have hz1 : zeq 679570700416131733539748249079163353548276425533964694321087143757051692575080467399339847745085972146352382554695653792940220 s s1 := z1s.eq rfl
    have K2 : gI s1 0 10 = gI s 0 10 := hz1.i rfl
    have K3 : gI s1 177 18 = gI s 177 18 := hz1.i rfl
    have hcor : ∀ i, cor s1 D i = cor s D i := by
      intro i
      induction i with
      | zero => rw [cor, cor, K2]
      | succ i ih => rw [cor, cor, ih, emp_cong (hz1.sub rfl)]
    have z70 : zfr 24530806944997888929290844558295203980211616599483367814060944050587197565960928031696456089404237343202010878245845673583048252194816000 s1 (sI s7 177 0 0) := zfr_tr (zfr_sub rfl z7) (zfr_I rfl)
    obtain ⟨u, eu, u1, u2⟩ := m_core (D := D) (s := s1) (IW.cong (hz1.sub rfl) hW) (fun i hi => by
      rw [hz1.pa (c := 28) rfl rfl]
      exact (hF i ((act_cong (hz1.sub rfl)).mp hi)).1.eq (hz1.sub rfl)) (by rw [K2, K3]; exact hk) z70
    rw [hcor] at eu
    rw [K2, hcor, ← hc] at u1
    obtain ⟨m, em, m1, m2, m3⟩ := m_mark (s := u.2) (c := c) hcb
    have zz : zfr 24530806944997888929290844558295203980211616599483367814060944050587197565960928424015314551071785082938849828724996679980263531196973056 s1 m.2 := zfr_tr (zfr_sub rfl z70) (zfr_tr (zfr_sub rfl u2) (zfr_sub rfl m3))
    refine ⟨0, s1, (n : Int), m.2, ?_, ?_, ?_, by decide, fun _ => ⟨⟨by omega, by omega⟩, ?_⟩, ?_⟩
    · have h41 : f_41 s = some (Sum.inl (n : Int), sI t.2 0 13 (c : Int)) := by
        unfold f_41 f_24
        rw [ev, zo_of rfl, zb_of e5, zg_pos x4, if_pos hr, hv, zo_of et, t1, i_bitCount c (by omega), zo_of rfl, hn32]
      unfold f_10
      rw [zb_of h41, ze_l, zg_pos ⟨by omega, by omega⟩, hs1]
    · unfold f_236 j_236_19
      have h18 : gI s7 177 18 = gI s 0 10 := by rw [z7.i rfl, K3]; exact hk.2.2
      rw [zb_of e7, zg_pos x4, if_pos hr, gI_same (by decide), if_neg (by decide), h18, ev, hv, zo_of eu, u1, zo_of em, m1, ← hn]
    · rw [m3.i rfl, u2.i rfl, gI_same (by decide)]
    · rw [m3.ja (c := 205) rfl rfl, u2.ja (c := 205) rfl rfl, gJ_sI, z7.ja (c := 205) rfl rfl, hs1, gJ_same]
    · have zt : zfr 24530806944997888929290844558295203980211633286882085946170962761694277015638245775060683151238893081156328143097314837035609956317921280 t.2 m.2 := zfr_tr (zfr_sub rfl z1) (zfr_sub rfl zz)
      have h13 : gI m.2 0 13 = (c : Int) := by
        rw [zz.i rfl, hs1, gI_sJ, gI_same ⟨by omega, by omega⟩]
      refine ⟨IWd.cong (zt.eq rfl) t2, fun i hi => (t3 i hi).eq (zt.eq rfl), IS.cong ((t4.eq rfl).tr (zt.eq rfl)) hS, ⟨by omega, by omega, fun f f0 f1 => ⟨fun _ => ?_, fun hf => ?_⟩⟩, zfr_tr (zfr_sub rfl t4) (zfr_sub rfl zt)⟩
      · rw [h13, show ((c : Int)).toNat = c from rfl]
        exact m2 f f0 f1
      · have k10 : gI m.2 0 10 = gI s 0 10 := by rw [zz.i rfl]; exact K2
        rw [h13, show ((c : Int)).toNat = c from rfl]
        cases hb : c.testBit f.toNat
        · rfl
        · have := cor_bit (D := D) (s := s) (x := c) (by rw [hc]; exact cor_le _ _ _) hb
          omega
  · obtain ⟨s7, e7, z7⟩ := x6 s5 (x3.eq rfl)
    refine ⟨1, s5, 0, sI s7 177 0 1, ?_, ?_, gI_same (by decide), by decide, fun h => absurd h (by decide), ?_⟩
    · have h41 : f_41 s = some (Sum.inr 11, s5) := by
        unfold f_41 f_24
        rw [ev, zo_of rfl, zb_of e5, zg_pos x4, if_neg hr]
      unfold f_10
      rw [zb_of h41]
      rfl
    · unfold f_236 j_236_19
      rw [zb_of e7, zg_pos x4, if_neg hr, gI_same (by decide), if_pos (by decide)]
    · have zz : zfr 24530806944997888929290844558295203980211616599483367814060944050587197565960928031696456089404237343202010878245845673583048252194816000 s5 (sI s7 177 0 1) := zfr_tr (zfr_sub rfl z7) (zfr_I rfl)
      exact PEv.of x1 x2 x3 hC (zfr_sub rfl zz) (IS.cong ((x3.eq rfl).tr (zz.eq rfl)) hS)
