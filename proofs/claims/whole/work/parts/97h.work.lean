/-! THE CLASS'S MACHINE on a whole code: other memos, show, work. -/
theorem MI.le {σ : zS} {K K' : Int} {W W' : Int → Int} {F F' : Int → Int → (Int → Bool) → Vl} {A : Nat → Int → Bool} (h : MI σ K' W' F' A) (hK : K ≤ K') (hW : ∀ k, 0 ≤ k → k < K → W' k = W k ∧ F' k = F k) : MI σ K W F A := by
  intro p p0 p1 β hb hk i i0 i5 i1
  obtain ⟨w1, w2⟩ := hW (p / 25) (by omega) (by omega)
  rw [← w2]
  exact h p p0 (by omega) β hb hk i i0 i5 (by rw [w1]; exact i1)
theorem CSeg.mono {v v' : Wd} {cd cd' : Cd} {a b L r : Int} {m m' : Nat} {D : Dn} (h : CSeg v cd a b L m r D) (hn : v'.n = v.n) (hR : v.R ≤ v'.R) (hra : ∀ r, 0 ≤ r → r < v.R → v'.ra r = v.ra r) (hsl : ∀ j, 0 ≤ j → j < L → v'.sl j = v.sl j) (hK0 : 0 ≤ v.K) (hK : v.K ≤ v'.K) (hW : ∀ k, 0 ≤ k → k < v.K → v'.W k = v.W k ∧ v'.F k = v.F k) (hcd : ∀ k, a ≤ k → k < b → cd'.op k = cd.op k ∧ cd'.arg k = cd.arg k ∧ cd'.sg k = cd.sg k ∧ cd'.md k = cd.md k ∧ cd'.en k = cd.en k ∧ cd'.us k = cd.us k ∧ cd'.mm k = cd.mm k) (hm : m ≤ m') : CSeg v' cd' a b L m' r D := by
  obtain ⟨a0, ab, r0, r3, h⟩ := h
  refine ⟨a0, ab, r0, r3, fun σ c k d w e A H to i hC hS hk d0 hd hH hto hto2 i0 i1 => ?_⟩
  have hC' : CC σ c a b cd := ⟨hC.1, hC.2.1, hC.2.2.1, fun k k0 k1 => by
    obtain ⟨c1, c2, c3, c4, c5, c6, c7⟩ := hcd k k0 k1
    rw [← c1, ← c2, ← c3, ← c4, ← c5, ← c6, ← c7]
    exact hC.2.2.2 k k0 k1⟩
  obtain ⟨s1, ⟨s2, s2'⟩, s3, s4, ⟨s5, s5'⟩, s6, s7, s8⟩ := hS
  have hS' : CS σ v L H e A := ⟨by rw [← hn]; exact s1, ⟨by omega, fun r r0 r1 => by
    rw [← hra r r0 r1, ← hn]
    exact s2' r r0 (by omega)⟩, s3, s4, ⟨s5, fun j j0 j1 => by rw [← hsl j j0 j1, ← hn]; exact s5' j j0 j1⟩, hK0, by omega, s8.le hK hW⟩
  obtain ⟨τ, i', g1, g2, g3, p1, p2, p3, p4, p5, p6⟩ := h σ c k d w e A H to i hC' hS' (by omega) d0 (by omega) (by omega) hto hto2 i0 i1
  refine ⟨τ, i', g1, g2, g3, p1, by rw [hn]; exact p2, fun j j0 j1 => by rw [hsl j j0 j1]; exact p3 j j0 j1, ?_, fun p hp => p5 p (by omega), fun p hp => p6 p (by omega)⟩
  intro p q0 q1 β hb hk i i0 i5 i1
  by_cases hp : p < 25 * v.K
  · obtain ⟨w1, w2⟩ := hW (p / 25) (by omega) (by omega)
    rw [w2]
    exact p4 p q0 hp β hb hk i i0 i5 (by rw [← w1]; exact i1)
  · have hk' : gb σ 23 p β = true := by show (gJ σ 23 p).getLsbD β = true; rw [← p5 p (by omega)]; exact hk
    show (gJ τ 24 _).getLsbD β = _
    rw [p6 _ (by omega)]
    exact s8 p q0 q1 β hb hk' i i0 i5 i1
/-- in assignment a the tuple with key k is there, as a Bool -/
def zAb (s : zS) (a k : Int) : Bool := decide (gI s 5 k = 2) || (List.range 12).any (fun i => decide ((i : Int) < gI s 1 8) && decide (gI s 7 i = k) && a.toNat.testBit (gI s 1 8 - 1 - i).toNat)
theorem zAb_iff {s : zS} (hF : gI s 1 8 ≤ 12) (a k : Int) : zAb s a k = true ↔ zin s a k := by
  unfold zAb zin
  rw [Bool.or_eq_true, decide_eq_true_iff, List.any_eq_true]
  refine or_congr Iff.rfl ⟨?_, ?_⟩
  · rintro ⟨i, -, hi⟩
    rw [Bool.and_eq_true, Bool.and_eq_true, decide_eq_true_iff, decide_eq_true_iff] at hi
    exact ⟨i, by omega, hi.1.1, hi.1.2, hi.2⟩
  · rintro ⟨i, i0, i1, i2, i3⟩
    refine ⟨i.toNat, List.mem_range.mpr (by omega), ?_⟩
    rw [Bool.and_eq_true, Bool.and_eq_true, decide_eq_true_iff, decide_eq_true_iff, show ((i.toNat : Nat) : Int) = i by omega]
    exact ⟨⟨i1, i2⟩, i3⟩
/-- the class's words of tuples that are not FREE -/
def IWd (s : zS) : Prop := ∀ k, 0 ≤ k → k < 1000 → gI s 5 k ≠ 1 → gJ s 6 k = if gI s 5 k = 2 then 18446744073709551615#64 else 0#64
theorem zstp_bit : ∀ b : Fin 6, ∀ β : Fin 64, (zstp (b.val : Int)).getLsbD β.val = Nat.testBit β.val b.val := by decide
theorem blk_bit {block : Int} {β b : Nat} (b0 : 0 ≤ block) (hβ : β < 64) : (64 * block + β).toNat.testBit b = if b < 6 then β.testBit b else block.toNat.testBit (b - 6) := by
  have : (64 * block + β).toNat = 2 ^ 6 * block.toNat + β := by omega
  rw [this, Nat.testBit_two_pow_mul_add _ (by omega)]
theorem c_show {s : zS} {block : Int} (hW : IW s) (hw : IWd s) (b0 : 0 ≤ block) (bR : zR block) : ∃ s', f_51 block s = some ((), s') ∧ IWd s' ∧ ∀ k, 0 ≤ k → k < 1000 → ∀ β : Nat, β < 64 → gb s' 6 k β = zAb s (64 * block + β) k := by
  obtain ⟨-, -, -, -, hst, ⟨f0, f12⟩, hfr, hinc, hall⟩ := id hW
  have hl := zlp_F (B := fun (q : Int × zS) => b_51_2 block q.1 q.2) (I := fun q => 0 ≤ q.1 ∧ q.1 ≤ gI s 1 8 ∧ zfr 64 s q.2 ∧ (∀ j, 0 ≤ j → j < q.1 → ∀ β : Nat, β < 64 → gb q.2 6 (gI s 7 j) β = (64 * block + β).toNat.testBit (gI s 1 8 - 1 - j).toNat) ∧ ∀ k, (∀ j, 0 ≤ j → j < q.1 → gI s 7 j ≠ k) → gJ q.2 6 k = gJ s 6 k) (μ := fun q => (gI s 1 8 - q.1).toNat) (Q := fun t => zfr 64 s t ∧ (∀ j, 0 ≤ j → j < gI s 1 8 → ∀ β : Nat, β < 64 → gb t 6 (gI s 7 j) β = (64 * block + β).toNat.testBit (gI s 1 8 - 1 - j).toNat) ∧ ∀ k, (∀ j, 0 ≤ j → j < gI s 1 8 → gI s 7 j ≠ k) → gJ t 6 k = gJ s 6 k) (by
    rintro ⟨i, σ⟩ ⟨a1, a2, a3, a4, a5⟩
    dsimp only at a1 a2 a3 a4 a5 ⊢
    have e1 : gI σ 1 8 = gI s 1 8 := a3.i rfl
    have e2 : gI σ 7 i = gI s 7 i := a3.ia (c := 7) rfl rfl i
    unfold b_51_2
    rw [zg_pos ⟨by omega, by omega⟩, e1, e2]
    by_cases hc : i < gI s 1 8
    · left
      obtain ⟨k0, k1, -⟩ := hfr i a1 hc
      rw [if_pos hc, zg_pos ⟨by omega, by omega⟩]
      have key : ∀ x : BitVec 64, (∀ β : Nat, β < 64 → x.getLsbD β = (64 * block + β).toNat.testBit (gI s 1 8 - 1 - i).toNat) → (zfr 64 s (sJ σ 6 (gI s 7 i) x) ∧ (∀ j, 0 ≤ j → j < i + 1 → ∀ β : Nat, β < 64 → gb (sJ σ 6 (gI s 7 i) x) 6 (gI s 7 j) β = (64 * block + β).toNat.testBit (gI s 1 8 - 1 - j).toNat) ∧ ∀ k, (∀ j, 0 ≤ j → j < i + 1 → gI s 7 j ≠ k) → gJ (sJ σ 6 (gI s 7 i) x) 6 k = gJ s 6 k) := by
        intro x hx
        refine ⟨zfr_tr a3 (zfr_JA rfl rfl), fun j j0 j1 β hb => ?_, fun k hk => ?_⟩
        · rw [gb_set]
          by_cases hj : j = i
          · rw [hj, if_pos rfl]
            exact hx β hb
          · rw [if_neg (by have := hinc j i j0 (by omega) hc; omega)]
            exact a4 j j0 (by omega) β hb
        · rw [gJ_ni (fun h => hk i a1 (by omega) h.symm)]
          exact a5 k (fun j j0 j1 => hk j j0 (by omega))
      by_cases h6 : gI s 1 8 - 1 - i < 6
      · rw [if_pos h6, zg_pos ⟨by omega, by omega⟩, zg_pos ⟨by omega, by omega⟩, zg_pos ⟨k0, k1⟩]
        refine ⟨_, rfl, ⟨by omega, by omega, key _ (fun β hb => ?_)⟩, by omega⟩
        rw [blk_bit b0 hb, if_pos (by omega)]
        have := zstp_bit ⟨(gI s 1 8 - 1 - i).toNat, by omega⟩ ⟨β, hb⟩
        dsimp only at this
        rw [show (((gI s 1 8 - 1 - i).toNat : Nat) : Int) = gI s 1 8 - 1 - i by omega] at this
        exact this
      · rw [if_neg h6, zg_pos ⟨by omega, by omega⟩, zg_pos ⟨b0, bR⟩, ztest b0 bR (by omega) (by omega)]
        by_cases ht : block.toNat.testBit (gI s 1 8 - 1 - i - 6).toNat = true
        · rw [if_pos ht, if_neg (by decide), zg_pos ⟨k0, k1⟩]
          refine ⟨_, rfl, ⟨by omega, by omega, key _ (fun β hb => ?_)⟩, by omega⟩
          rw [blk_bit b0 hb, if_neg (by omega), gb_ones hb, show (gI s 1 8 - 1 - i).toNat - 6 = (gI s 1 8 - 1 - i - 6).toNat by omega, ht]
        · rw [if_neg ht, if_pos rfl, zg_pos ⟨k0, k1⟩]
          refine ⟨_, rfl, ⟨by omega, by omega, key _ (fun β hb => ?_)⟩, by omega⟩
          rw [blk_bit b0 hb, if_neg (by omega), gb_zero, show (gI s 1 8 - 1 - i).toNat - 6 = (gI s 1 8 - 1 - i - 6).toNat by omega]
          cases hq : block.toNat.testBit (gI s 1 8 - 1 - i - 6).toNat
          · rfl
          · exact absurd hq ht
    · right
      rw [if_neg hc]
      have : i = gI s 1 8 := by omega
      rw [this] at a4 a5
      exact ⟨σ, rfl, a3, a4, a5⟩) (s := (0, s)) ⟨by dsimp only; omega, by dsimp only; omega, zfr_rf _ _, fun j j0 j1 => by dsimp only at j1; omega, fun _ _ => rfl⟩ (by dsimp only; omega)
  obtain ⟨t, e, q1, q2, q3⟩ := hl
  have hnf : ∀ k, gI s 5 k ≠ 1 → gJ t 6 k = gJ s 6 k := fun k hk => q3 k (fun j j0 j1 h => hk (by rw [← h]; exact (hfr j j0 j1).2.2))
  refine ⟨t, by unfold f_51; rw [zo_of e], fun k k0 k1 hk => ?_, fun k k0 k1 β hb => ?_⟩
  · rw [q1.ia (c := 5) rfl rfl] at hk ⊢
    rw [hnf k hk]
    exact hw k k0 k1 hk
  · by_cases h1 : gI s 5 k = 1
    · obtain ⟨i, i0, i1, i2⟩ := hall k k0 k1 h1
      have hq := q2 i i0 i1 β hb
      rw [i2] at hq
      rw [hq]
      cases hz : zAb s (64 * block + β) k
      · cases ht : (64 * block + β).toNat.testBit (gI s 1 8 - 1 - i).toNat
        · rfl
        · have := (zAb_iff f12 (64 * block + β) k).mpr (Or.inr ⟨i, i0, i1, i2, ht⟩)
          rw [hz] at this
          cases this
      · rcases (zAb_iff f12 _ _).mp hz with h | ⟨j, j0, j1, j2, j3⟩
        · omega
        · have : j = i := by
            by_cases hlt : j < i
            · have := hinc j i j0 hlt i1; omega
            · by_cases hgt : i < j
              · have := hinc i j i0 hgt j1; omega
              · omega
          rw [this] at j3
          exact j3
    · show (gJ t 6 k).getLsbD β = _
      rw [hnf k h1, hw k k0 k1 h1]
      by_cases h2 : gI s 5 k = 2
      · rw [if_pos h2, gb_ones hb]
        exact ((zAb_iff f12 _ _).mpr (Or.inl h2)).symm
      · rw [if_neg h2, gb_zero]
        cases hz : zAb s (64 * block + β) k
        · rfl
        · rcases (zAb_iff f12 _ _).mp hz with h | ⟨j, j0, j1, j2, j3⟩
          · exact absurd h h2
          · exact absurd (by rw [← j2]; exact (hfr j j0 j1).2.2) h1
theorem c_whole {s : zS} (f0 : 0 ≤ gI s 1 8) (f12 : gI s 1 8 ≤ 12) : ∃ w, f_50 s = some w ∧ ∀ β : Nat, β < 64 → w.getLsbD β = decide ((β : Int) < 2 ^ (gI s 1 8).toNat) := by
  unfold f_50
  by_cases h : gI s 1 8 < 6
  · have hp : (1 : Int) * 2 ^ zsh (gI s 1 8) = 2 ^ (gI s 1 8).toNat := by
      rw [Int.one_mul, show zsh (gI s 1 8) = (gI s 1 8).toNat by unfold zsh; omega]
    have hb : (2 : Int) ^ (gI s 1 8).toNat ≤ 32 ∧ 1 ≤ (2 : Int) ^ (gI s 1 8).toNat := by
      have : gI s 1 8 = 0 ∨ gI s 1 8 = 1 ∨ gI s 1 8 = 2 ∨ gI s 1 8 = 3 ∨ gI s 1 8 = 4 ∨ gI s 1 8 = 5 := by omega
      rcases this with h | h | h | h | h | h <;> rw [h] <;> decide
    rw [if_pos h, hp, zg_pos ⟨by omega, by omega⟩]
    refine ⟨_, rfl, fun β hβ => ?_⟩
    rw [zshl_eq (by omega) (by omega), bv_mask _ _ (by omega) (by omega)]
    apply decide_eq_decide.mpr
    omega
  · rw [if_neg h]
    refine ⟨_, rfl, fun β hβ => ?_⟩
    rw [gb_ones hβ]
    have : (64 : Int) ≤ 2 ^ (gI s 1 8).toNat := by
      have : gI s 1 8 = 6 ∨ gI s 1 8 = 7 ∨ gI s 1 8 = 8 ∨ gI s 1 8 = 9 ∨ gI s 1 8 = 10 ∨ gI s 1 8 = 11 ∨ gI s 1 8 = 12 := by omega
      rcases this with h | h | h | h | h | h | h <;> rw [h] <;> decide
    rw [decide_eq_true (by omega)]
/-- a whole code, worked out for a block -/
theorem c_work {s : zS} {c : Nat} {v : Wd} {cd : Cd} {len r block : Int} {D : Dn} {w : BitVec 64} {e : Int → Int} (h : CSeg v cd 0 len 0 20 r D) (hC : CC s c 0 len cd) (hlen : gI s c 0 = len) (hK : gI s c 8 = v.K) (K0 : 0 ≤ v.K) (K40 : v.K ≤ 40) (hW : IW s) (hw : IWd s) (hn : v.n = gI s 1 0) (hR : v.R ≤ gI s 1 4) (hra : ∀ r, 0 ≤ r → r < v.R → v.ra r = gI s 4 r) (b0 : 0 ≤ block) (bR : zR block) : ∃ s', f_102 c block w s = some ((), s') ∧ IWd s' ∧ gI s' 19 0 = r ∧ ∀ β, β < 64 → w.getLsbD β = true → ∀ t, 0 ≤ t → t < v.n ^ r.toNat → gb s' 18 t β = D e (zAb s (64 * block + β)) t := by
  obtain ⟨⟨n1, n5, -⟩, hsz, ⟨r0, r8, -⟩, har, -, -, -, -, -⟩ := id hW
  obtain ⟨s1, e1, w1, w2⟩ := c_show hW hw b0 bR
  have z1 : zfr 64 s s1 := fr_51 e1
  have hcb := zC_b hC.1
  have k8 : gI s1 c 8 = v.K := by
    obtain ⟨x1, x2⟩ := zC_out (x := c) (by omega) (by omega)
    have x3 : Nat.testBit 64 c = false := by
      rw [show 64 = 2 ^ 6 by decide, Nat.testBit_two_pow]
      exact decide_eq_false (by omega)
    rw [z1.ia x1 x3]
    exact hK
  have hl := zlp_F (B := fun (q : Int × zS) => b_102_20 c w (v.K * 25) q.1 q.2) (I := fun q => 0 ≤ q.1 ∧ q.1 ≤ v.K * 25 ∧ zfr 8388608 s1 q.2 ∧ ∀ p, 0 ≤ p → p < q.1 → gJ q.2 23 p = 0#64) (μ := fun q => (v.K * 25 - q.1).toNat) (Q := fun t => zfr 8388608 s1 t ∧ ∀ p, 0 ≤ p → p < v.K * 25 → gJ t 23 p = 0#64) (by
    rintro ⟨i, σ⟩ ⟨a1, a2, a3, a4⟩
    dsimp only at a1 a2 a3 a4 ⊢
    unfold b_102_20
    rw [zg_pos ⟨by omega, by omega⟩, zg_pos ⟨by omega, by omega⟩]
    by_cases hc : i < v.K * 25
    · left
      rw [if_pos hc, zg_pos ⟨a1, by omega⟩]
      refine ⟨_, rfl, ⟨by omega, by omega, zfr_tr a3 (zfr_JA rfl rfl), fun p p0 p1 => ?_⟩, by omega⟩
      rw [gJ_if]
      by_cases hp : p = i
      · rw [if_pos hp]
      · rw [if_neg hp]
        exact a4 p p0 (by omega)
    · right
      rw [if_neg hc]
      exact ⟨σ, rfl, a3, fun p p0 p1 => a4 p p0 (by omega)⟩) (s := (0, s1)) ⟨by dsimp only; omega, by dsimp only; omega, zfr_rf _ _, fun p p0 p1 => by dsimp only at p1; omega⟩ (by dsimp only; omega)
  obtain ⟨t, e2, z2, z3⟩ := hl
  have zt : zfr 19239260838083241802870625048898248928261591440656956380834127638791856333738872368854622194768025215237619712064 s (sI t 17 3 0) := zfr_sI (zfr_tr (zfr_sub rfl z1) (zfr_sub rfl z2)) rfl
  have zC6 : ∀ x : Nat, 29 ≤ x → x < 173 → Nat.testBit 19239260838083241802870625048898248928261591440656956380834127638791856333738872368854622194768025215237619712064 x = false := by
    intro x x1 x2
    obtain ⟨-, h2⟩ := zC_out x1 x2
    rw [show 19239260838083241802870625048898248928261591440656956380834127638791856333738872368854622194768025215237619712064 = 19239260838083241802870625048898248928261591440656956380834127638791856333738872368854622194768025215237619712000 ^^^ 2 ^ 6 by decide, Nat.testBit_xor, Nat.testBit_two_pow, decide_eq_false (show ¬ 6 = x by omega)]
    rw [show 19239260838083241802870625048898248928261591440656956380834127638791856333738872368854622194768025215237619712000 = 19239260838083241802870625048898248928261591440656956380834127638791856333738872368854622194768025215237644615680 &&& 19239260838083241802870625048898248928261591440656956380834127638791856333738872368854622194768025215237619712000 by decide, Nat.testBit_and, h2]
    rfl
  have hCt : CC (sI t 17 3 0) c 0 len cd := by
    obtain ⟨h1, h2, h3, h4⟩ := hC
    refine ⟨h1, h2, h3, fun k k0 k1 => ?_⟩
    have hg : ∀ j, j ≤ 7 → gI (sI t 17 3 0) (c + j) k = gI s (c + j) k := fun j hj => zt.ia (zC_out (by omega) (by omega)).1 (zC6 _ (by omega) (by omega)) k
    rw [hg 1 (by omega), hg 2 (by omega), hg 3 (by omega), hg 4 (by omega), hg 5 (by omega), hg 6 (by omega), hg 7 (by omega)]
    exact h4 k k0 k1
  have hl0 : gI (sI t 17 3 0) c 0 = len := by
    rw [zt.ia (zC_out (by omega) (by omega)).1 (zC6 _ (by omega) (by omega)) 0]
    exact hlen
  have hS : CS (sI t 17 3 0) v 0 0 e (fun β => zAb s (64 * block + β)) := by
    refine ⟨⟨by rw [zt.i rfl, hn], by omega, by omega, fun a a0 a3 => by rw [zt.ia (c := 2) rfl rfl, hn]; exact hsz a a0 a3⟩, ⟨by omega, fun r q0 q1 => ?_⟩, gI_same ⟨by omega, by omega⟩, by omega, ⟨by omega, fun j j0 j1 => by omega⟩, K0, K40, ?_⟩
    · obtain ⟨-, -, y1, y2⟩ := har r q0 (by omega)
      rw [hra r q0 q1]
      refine ⟨zt.ia (c := 4) rfl rfl r, y1, y2, fun u u0 u1 β hb => ?_⟩
      have hu := npw_b n1 n5 (a := gI s 4 r) (by omega) y2
      rw [hn] at u1
      have := w2 (125 * r + u) (by omega) (by omega) β hb
      dsimp only
      rw [← this]
      show (gJ (sI t 17 3 0) 6 _).getLsbD β = (gJ s1 6 _).getLsbD β
      rw [gJ_sI, z2.ja (c := 6) rfl rfl]
    · intro p p0 p1 β hb hk
      have : gb (sI t 17 3 0) 23 p β = false := by
        show (gJ (sI t 17 3 0) 23 p).getLsbD β = false
        rw [gJ_sI, z3 p p0 (by omega), gb_zero]
      rw [this] at hk
      cases hk
  obtain ⟨τ, g1, g2⟩ := c_run (k := 24) (d := 0) (w := w) h hCt hS (by decide) (by decide) (by decide) (by decide)
  refine ⟨τ, ?_, fun k k0 k1 hk => ?_, g2.2.1.2.1, fun β hb hw' u u0 u1 => ?_⟩
  · unfold f_102
    rw [zb_of e1, zg_pos hC.1, k8, zo_of e2, hl0]
    have : f_103 c 0 len w 0 (sI t 17 3 0) = some ((), τ) := g1
    rw [zb_of this]
  · have y5 : gI τ 5 k = gI s1 5 k := by rw [g2.1.ia (c := 5) rfl rfl, gI_nc (by decide), z2.ia (c := 5) rfl rfl]
    have y6 : gJ τ 6 k = gJ s1 6 k := by rw [g2.1.ja (c := 6) rfl rfl, gJ_sI, z2.ja (c := 6) rfl rfl]
    rw [y5] at hk ⊢
    rw [y6]
    exact w1 k k0 k1 hk
  · have := g2.2.1.2.2.1 β hb hw' u u0 u1
    rw [show (0 : Int) * 125 + u = u by omega] at this
    exact this
