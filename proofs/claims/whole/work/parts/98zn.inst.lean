/-! THE CLASS'S TRUTHS: a block of assignments. -/
theorem zAb_cong {s s2 : zS} (h : zeq 546812681195752981093125556779405341338292357723303109106442651602488249799843980805878294255763616 s s2) (a : Int) : zAb s2 a = zAb s a := by
  funext k
  have e1 : gI s2 1 8 = gI s 1 8 := h.i rfl
  have e2 := h.ia (c := 5) rfl rfl
  have e3 := h.ia (c := 7) rfl rfl
  unfold zAb
  simp only [e1, e2, e3]
/-- formula i is there -/
def act (s : zS) (i : Int) : Prop := (0 ≤ i ∧ i < gI s 0 10) ∨ (i = 16 ∧ gI s 0 11 ≠ 0)
/-- what is known of formula i is right -/
def CK (s : zS) (D : Int → Dn) (i : Int) : Prop := ∀ b : Nat, b < 64 → (gJ s 174 i).getLsbD b = true → ∀ β : Nat, β < 64 → 64 * (b : Int) + β < 2 ^ (gI s 1 8).toNat → gb s 173 (i * 64 + b) β = D i e0 (zAb s (64 * b + β)) 0
def IFm (s : zS) (D : Int → Dn) : Prop := ∀ i, act s i → FOR s (gP s 28 i) i 0 (D i) ∧ CK s D i
/-- the chosen of the first n are as they must be -/
def okn (v : Int) (D : Int → Dn) (A : Int → Bool) : Nat → Bool
  | 0 => true
  | n + 1 => okn v D A n && (!(v.toNat.testBit n) || (if n = 16 then !(D n e0 A 0) else D n e0 A 0))
theorem okn_iff {v : Int} {D : Int → Dn} {A : Int → Bool} : ∀ n, okn v D A n = true ↔ ∀ j : Nat, j < n → v.toNat.testBit j = true → (if j = 16 then !(D j e0 A 0) else D j e0 A 0) = true
  | 0 => by simp [okn]
  | n + 1 => by
    rw [okn, Bool.and_eq_true, okn_iff n, Bool.or_eq_true]
    constructor
    · rintro ⟨h1, h2⟩ j hj hv
      by_cases e : j = n
      · subst e
        rcases h2 with h2 | h2
        · rw [hv] at h2; cases h2
        · exact h2
      · exact h1 j (by omega) hv
    · intro h
      refine ⟨fun j hj hv => h j (by omega) hv, ?_⟩
      cases hv : v.toNat.testBit n
      · exact Or.inl rfl
      · exact Or.inr (h n (by omega) hv)
theorem okn_le {v : Int} {D : Int → Dn} {A : Int → Bool} {m n : Nat} (h : okn v D A m = false) (hn : m ≤ n) : okn v D A n = false := by
  cases h2 : okn v D A n
  · rfl
  · have := (okn_iff m).mpr (fun j hj hv => (okn_iff n).mp h2 j (by omega) hv)
    rw [h] at this
    cases this
theorem act_cong {s s2 : zS} (h : zeq 6257774519299541257016665154793609710750110905341756161954223460416659352872970361395396739072 s s2) {i : Int} : act s2 i ↔ act s i := by
  have e1 : gI s2 0 10 = gI s 0 10 := h.i rfl
  have e2 : gI s2 0 11 = gI s 0 11 := h.i rfl
  unfold act
  rw [e1, e2]
theorem CK.eq {s s2 : zS} {D : Int → Dn} {i : Int} (h : CK s D i) (hz : zeq 546812681195752981093125556779405341338292357759220973345486921720262008248679352296942492431941792 s s2) : CK s2 D i := by
  intro b hb hk β hβ hlt
  rw [hz.ja (c := 174) rfl rfl] at hk
  rw [hz.i (c := 1) (i := 8) rfl] at hlt
  rw [zAb_cong (hz.sub rfl)]
  show (gJ s2 173 _).getLsbD β = _
  rw [hz.ja (c := 173) rfl rfl]
  exact h b hb hk β hβ hlt
theorem blk_in {F v2 : Int} {β : Nat} (f0 : 0 ≤ F) (f12 : F ≤ 12) (b0 : 0 ≤ v2) (b1 : 64 * v2 < 2 ^ F.toNat) (hβ : β < 64) : decide ((β : Int) < 2 ^ F.toNat) = decide (64 * v2 + β < 2 ^ F.toNat) := by
  have hF : F = 0 ∨ F = 1 ∨ F = 2 ∨ F = 3 ∨ F = 4 ∨ F = 5 ∨ F = 6 ∨ F = 7 ∨ F = 8 ∨ F = 9 ∨ F = 10 ∨ F = 11 ∨ F = 12 := by omega
  apply decide_eq_decide.mpr
  rcases hF with rfl | rfl | rfl | rfl | rfl | rfl | rfl | rfl | rfl | rfl | rfl | rfl | rfl <;> simp at b1 ⊢ <;> omega
theorem act_b {s : zS} {i : Int} (h : act s i) (k16 : gI s 0 10 ≤ 16) : 0 ≤ i ∧ i ≤ 16 := by
  rcases h with h | h <;> omega
theorem bv_ones_xor (x : BitVec 64) {β : Nat} (hβ : β < 64) : (x ^^^ 18446744073709551615#64).getLsbD β = !(x.getLsbD β) := by
  rw [BitVec.getLsbD_xor, gb_ones hβ]
  cases x.getLsbD β <;> rfl
theorem c_inst {s : zS} {D : Int → Dn} {v1 v2 : Int} (hW : IW s) (hw : IWd s) (hF : IFm s D) (k16 : gI s 0 10 ≤ 16) (v0 : 0 ≤ v1) (vR : zR v1) (hv : ∀ i : Nat, i < 17 → v1.toNat.testBit i = true → act s i) (b0 : 0 ≤ v2) (b1 : 64 * v2 < 2 ^ (gI s 1 8).toNat) : ∃ w s', f_26 v1 v2 s = some (w, s') ∧ IWd s' ∧ (∀ i, act s i → CK s' D i) ∧ ∀ β : Nat, β < 64 → w.getLsbD β = (decide (64 * v2 + β < 2 ^ (gI s 1 8).toNat) && okn v1 D (zAb s (64 * v2 + β)) 17) := by
  have f0 := hW.2.2.2.2.2.1.1
  have f12 := hW.2.2.2.2.2.1.2
  have hp := pow2_b f0 f12
  obtain ⟨w0, ew, hw0⟩ := c_whole f0 f12
  have hl := zlp_F (B := fun (q : BitVec 64 × Int × zS) => b_26_11 v1 v2 q.1 q.2.1 q.2.2) (I := fun q => 0 ≤ q.2.1 ∧ q.2.1 ≤ 17 ∧ zfr 19239260838083241802870625048898248928261591440656956380834163556656095378008990142613071030139516279435820793920 s q.2.2 ∧ IWd q.2.2 ∧ (∀ i, act s i → CK q.2.2 D i) ∧ ∀ β : Nat, β < 64 → q.1.getLsbD β = (decide (64 * v2 + β < 2 ^ (gI s 1 8).toNat) && okn v1 D (zAb s (64 * v2 + β)) q.2.1.toNat)) (μ := fun q => (17 - q.2.1).toNat) (Q := fun t => IWd t.2 ∧ (∀ i, act s i → CK t.2 D i) ∧ ∀ β : Nat, β < 64 → t.1.getLsbD β = (decide (64 * v2 + β < 2 ^ (gI s 1 8).toNat) && okn v1 D (zAb s (64 * v2 + β)) 17)) (by
    rintro ⟨w, i, σ⟩ ⟨a1, a2, a3, a4, a5, a6⟩
    dsimp only at a1 a2 a3 a4 a5 a6 ⊢
    have hz : zeq 2649388374917168212986973653605808763990030178540725773606777396060162349097649274346096254817520462418981441071734889382076 s σ := a3.eq rfl
    unfold b_26_11
    rw [zg_pos ⟨by omega, by omega⟩]
    by_cases h16 : 16 < i
    · right
      have : i = 17 := by omega
      rw [if_pos h16]
      refine ⟨_, rfl, a4, a5, fun β hb => ?_⟩
      have := a6 β hb
      rw [show i.toNat = 17 by omega] at this
      exact this
    rw [if_neg h16]
    by_cases hw1 : w = 0#64
    · right
      rw [if_pos hw1]
      refine ⟨_, rfl, a4, a5, fun β hb => ?_⟩
      have := a6 β hb
      rw [hw1, gb_zero] at this ⊢
      cases hd : decide (64 * v2 + (β : Int) < 2 ^ (gI s 1 8).toNat)
      · rfl
      · rw [hd, Bool.true_and] at this
        rw [okn_le this.symm (by omega)]
        rfl
    rw [if_neg hw1, zg_pos ⟨v0, vR⟩, ztest v0 vR a1 (by omega)]
    left
    by_cases hc : v1.toNat.testBit i.toNat = true
    · rw [if_pos hc, if_neg (by decide), zg_pos ⟨by omega, by omega⟩, zg_pos ⟨by omega, by omega⟩]
      have hact : act s i := by
        have := hv i.toNat (by omega) hc
        rw [show ((i.toNat : Nat) : Int) = i by omega] at this
        exact this
      obtain ⟨hFOR, -⟩ := hF i hact
      -- the join
      have hjoin : ∀ τ : zS, zfr 19239260838083241802870625048898248928261591440656956380834163556656095378008990142613071030139516279435820793920 s τ → IWd τ → (∀ i, act s i → CK τ D i) → (∀ β : Nat, β < 64 → 64 * v2 + β < 2 ^ (gI s 1 8).toNat → gb τ 173 (i * 64 + v2) β = D i e0 (zAb s (64 * v2 + β)) 0) → ∃ s', j_26_11_112 v1 v2 w i (i * 64 + v2) τ = some (Sum.inl s') ∧ (0 ≤ s'.2.1 ∧ s'.2.1 ≤ 17 ∧ zfr 19239260838083241802870625048898248928261591440656956380834163556656095378008990142613071030139516279435820793920 s s'.2.2 ∧ IWd s'.2.2 ∧ (∀ i, act s i → CK s'.2.2 D i) ∧ ∀ β : Nat, β < 64 → s'.1.getLsbD β = (decide (64 * v2 + β < 2 ^ (gI s 1 8).toNat) && okn v1 D (zAb s (64 * v2 + β)) s'.2.1.toNat)) ∧ (17 - s'.2.1).toNat < (17 - i).toNat := by
        intro τ t1 t2 t3 t4
        have hb : ∀ (x : BitVec 64) (β : Nat), β < 64 → (64 * v2 + β < 2 ^ (gI s 1 8).toNat → x.getLsbD β = (if i.toNat = 16 then !(D i e0 (zAb s (64 * v2 + β)) 0) else D i e0 (zAb s (64 * v2 + β)) 0)) → (w &&& x).getLsbD β = (decide (64 * v2 + β < 2 ^ (gI s 1 8).toNat) && okn v1 D (zAb s (64 * v2 + β)) (i + 1).toNat) := by
          intro x β hβ hx
          rw [BitVec.getLsbD_and, a6 β hβ, show (i + 1).toNat = i.toNat + 1 by omega, okn, hc, show ((i.toNat : Nat) : Int) = i by omega, Bool.not_true, Bool.false_or]
          by_cases hd : 64 * v2 + (β : Int) < 2 ^ (gI s 1 8).toNat
          · rw [hx hd, Bool.and_assoc]
          · rw [decide_eq_false hd, Bool.false_and, Bool.false_and, Bool.false_and]
        unfold j_26_11_112
        rw [zg_pos ⟨by omega, by omega⟩]
        by_cases e16 : i = 16
        · rw [if_pos e16, zg_pos ⟨by omega, by omega⟩]
          refine ⟨_, rfl, ⟨by dsimp only; omega, by dsimp only; omega, t1, t2, t3, fun β hβ => hb _ β hβ (fun hd => ?_)⟩, by dsimp only; omega⟩
          rw [bv_ones_xor _ hβ, if_pos (by omega)]
          congr 1
          exact t4 β hβ hd
        · rw [if_neg e16, zg_pos ⟨by omega, by omega⟩]
          refine ⟨_, rfl, ⟨by dsimp only; omega, by dsimp only; omega, t1, t2, t3, fun β hβ => hb _ β hβ (fun hd => ?_)⟩, by dsimp only; omega⟩
          rw [if_neg (by omega)]
          exact t4 β hβ hd
      have hv2 : zshl v2 = v2.toNat := zshl_eq b0 (by omega)
      have F2 : gI σ 1 8 = gI s 1 8 := hz.i rfl
      by_cases hk : (gJ σ 174 i).getLsbD v2.toNat = true
      · have h1 := (bv_bit1 (gJ σ 174 i) v2.toNat).mpr hk
        rw [hv2, h1, if_neg (by decide)]
        refine hjoin σ a3 a4 a5 (fun β hβ hd => ?_)
        have := a5 i hact v2.toNat (by omega) hk β hβ (by rw [F2]; omega)
        rw [show ((v2.toNat : Nat) : Int) = v2 by omega, zAb_cong (hz.sub rfl)] at this
        exact this
      · have h0 : ((gJ σ 174 i) >>> v2.toNat) &&& (1#64) = (0#64) := by
          apply BitVec.eq_of_getLsbD_eq
          intro j hj
          rw [BitVec.getLsbD_and, BitVec.getLsbD_ushiftRight, gb_zero]
          by_cases e : j = 0
          · subst e
            rw [Nat.add_zero]
            cases h : (gJ σ 174 i).getLsbD v2.toNat
            · rfl
            · exact absurd h hk
          · have : (1#64).getLsbD j = false := by rw [BitVec.getLsbD_one]; simp [e]
            rw [this, Bool.and_false]
        obtain ⟨w1, ew1, hw1'⟩ := c_whole (s := σ) (by omega) (by omega)
        have hFσ : FOR σ (gP s 28 i) i 0 (D i) := hFOR.eq (hz.sub rfl)
        obtain ⟨s13, e13, x1, x2, x3⟩ := hFσ.c (w := w1) (block := v2) (IW.cong (hz.sub rfl) hW) a4 b0 ⟨by omega, by omega⟩
        have z13 : zfr 19239260838083241802870625048898248928261591440656956380834127638791856333738872368854622194768025215237644615744 σ s13 := zfr_sub rfl (fr_102 e13)
        rw [hv2, h0, if_pos rfl, zo_of ew1, hz.pa (c := 28) rfl rfl, zb_of e13, zg_pos ⟨by omega, by omega⟩]
        have hT : ∀ β : Nat, β < 64 → 64 * v2 + β < 2 ^ (gI s 1 8).toNat → gb s13 18 0 β = D i e0 (zAb s (64 * v2 + β)) 0 := by
          intro β hβ hd
          have := x3 β hβ (by
            rw [hw1' β hβ, F2, blk_in f0 f12 b0 b1 hβ, decide_eq_true hd]) 0 (by decide) (by rw [show ((0 : Int).toNat) = 0 from rfl, Int.pow_zero]; decide)
          rw [zAb_cong (hz.sub rfl)] at this
          exact this
        refine hjoin _ (zfr_tr a3 (zfr_tr (zfr_sub rfl z13) (zfr_tr (zfr_JA rfl rfl) (zfr_JA rfl rfl)))) ?_ ?_ ?_
        · intro k k0 k1 hk5
          exact x1 k k0 k1 hk5
        · intro j hj b hb hkb β hβ hlt
          have hjb := act_b hj k16
          have z8 : gI (sJ (sJ s13 173 (i * 64 + v2) (gJ s13 18 0)) 174 i ((gJ s13 174 i) ||| ((1#64) <<< v2.toNat))) 1 8 = gI s 1 8 := by
            rw [gI_sJ, gI_sJ, z13.i rfl, F2]
          have zA : zAb (sJ (sJ s13 173 (i * 64 + v2) (gJ s13 18 0)) 174 i ((gJ s13 174 i) ||| ((1#64) <<< v2.toNat))) (64 * (b : Int) + β) = zAb s (64 * (b : Int) + β) := by
            refine zAb_cong ((hz.sub rfl).tr ?_) _
            exact (zfr_tr (zfr_sub rfl z13) (zfr_tr (zfr_JA rfl rfl) (zfr_JA rfl rfl) : zfr 19239260838083241802870625048898248928261591440656956380834163556656095378008990142613071030139516279435820793920 s13 _)).eq rfl
          rw [z8] at hlt
          rw [zA]
          have hold := a5 j hj b hb
          rw [F2] at hold
          simp only [zAb_cong (hz.sub rfl)] at hold
          have h173 : gJ (sJ (sJ s13 173 (i * 64 + v2) (gJ s13 18 0)) 174 i ((gJ s13 174 i) ||| ((1#64) <<< v2.toNat))) 173 (j * 64 + b) = if j * 64 + (b : Int) = i * 64 + v2 then gJ s13 18 0 else gJ σ 173 (j * 64 + b) := by
            rw [gJ_nc (by decide), gJ_if]
            by_cases e : j * 64 + (b : Int) = i * 64 + v2
            · rw [if_pos e, if_pos e]
            · rw [if_neg e, if_neg e, z13.ja (c := 173) rfl rfl]
          show (gJ _ 173 (j * 64 + b)).getLsbD β = _
          rw [h173]
          by_cases ej : j * 64 + (b : Int) = i * 64 + v2
          · rw [if_pos ej]
            have e1 : j = i := by omega
            have e2 : (b : Int) = v2 := by omega
            rw [e1, e2]
            exact hT β hβ (by omega)
          · rw [if_neg ej]
            refine hold ?_ β hβ hlt
            rw [gJ_if] at hkb
            by_cases e1 : j = i
            · rw [if_pos e1, bv_setbit _ _ _ (by omega), decide_eq_false (by rw [e1] at ej; omega), Bool.or_false, z13.ja (c := 174) rfl rfl] at hkb
              rw [e1]
              exact hkb
            · rw [if_neg e1, gJ_nc (by decide), z13.ja (c := 174) rfl rfl] at hkb
              exact hkb
        · intro β hβ hd
          show (gJ _ 173 (i * 64 + v2)).getLsbD β = _
          rw [gJ_nc (by decide), gJ_same]
          exact hT β hβ hd
    · rw [if_neg hc, if_pos rfl]
      refine ⟨_, rfl, ⟨by dsimp only; omega, by dsimp only; omega, a3, a4, a5, fun β hb => ?_⟩, by dsimp only; omega⟩
      dsimp only
      rw [show (i + 1).toNat = i.toNat + 1 by omega, okn, a6 β hb]
      cases hcc : v1.toNat.testBit i.toNat
      · rw [Bool.not_false, Bool.true_or, Bool.and_true]
      · exact absurd hcc hc) (s := (w0, 0, s)) ⟨by dsimp only; decide, by dsimp only; decide, zfr_rf _ _, hw, fun i hi => (hF i hi).2, fun β hb => by
        dsimp only
        rw [hw0 β hb, show (0 : Int).toNat = 0 from rfl, okn, Bool.and_true]
        exact blk_in f0 f12 b0 b1 hb⟩ (by dsimp only; decide)
  obtain ⟨t, e, q1, q2, q3⟩ := hl
  exact ⟨t.1, t.2, by unfold f_26; rw [zo_of ew, zo_of e], q1, q2, q3⟩
