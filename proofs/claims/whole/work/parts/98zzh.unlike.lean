/-! UNLIKE. -/
theorem c_fillSeen {s : zS} : ∃ s', f_270_175 (0#64) s = some ((), s') ∧ ∀ i, 0 ≤ i → i < 64 → gJ s' 175 i = 0#64 := by
  have hloop := zlp_F (B := fun (q : Int × zS) => b_270_175_6 (0#64) 64 q.1 q.2) (I := fun q => 0 ≤ q.1 ∧ q.1 ≤ 64 ∧ ∀ i, 0 ≤ i → i < q.1 → gJ q.2 175 i = 0#64) (μ := fun q => (64 - q.1).toNat) (Q := fun t => ∀ i, 0 ≤ i → i < 64 → gJ t 175 i = 0#64) (by
    rintro ⟨k, σ⟩ ⟨a1, a2, a3⟩
    dsimp only at a1 a2 a3 ⊢
    unfold b_270_175_6
    rw [zg_pos ⟨by omega, by omega⟩, zg_pos (by decide)]
    by_cases hc : k < 64
    · left
      rw [if_pos hc, zg_pos ⟨by omega, by omega⟩]
      refine ⟨_, rfl, ⟨by dsimp only; omega, by dsimp only; omega, fun i hi hi2 => ?_⟩, by dsimp only; omega⟩
      dsimp only at hi2 ⊢
      rw [gJ_if]
      by_cases e : i = k
      · rw [if_pos e]
      · rw [if_neg e]
        exact a3 i hi (by omega)
    · right
      rw [if_neg hc]
      exact ⟨_, rfl, fun i hi hi2 => a3 i hi (by omega)⟩) (s := (0, s)) ⟨by dsimp only; omega, by dsimp only; omega, fun i hi hi2 => by dsimp only at hi2; omega⟩ (by dsimp only; omega)
  obtain ⟨t, ht, hq⟩ := hloop
  exact ⟨t, by unfold f_270_175; rw [zo_of ht], hq⟩
/-- no alike one is less -/
def lsw (s : zS) (a : Nat) : Bool := (fps s).all (fun c => decide (a ≤ imgv s c (a : Int)))
theorem lsw_iff {s : zS} {a : Nat} : lsw s a = true ↔ ∀ x, alk s a x → a ≤ x := by
  unfold lsw
  rw [List.all_eq_true]
  constructor
  · rintro h x ⟨c, hc, hx⟩
    rw [hx]
    exact of_decide_eq_true (h c hc)
  · intro h c hc
    exact decide_eq_true (h _ ⟨c, hc, rfl⟩)
/-- what is seen behind the first m -/
def SEE (s σ : zS) (ok : Nat → Bool) (m : Nat) : Prop := ∀ x : Nat, x < 2 ^ (gI s 1 8).toNat → ((gJ σ 175 ((x : Int) / 64)).getLsbD ((x : Int) % 64).toNat = true ↔ ∃ y, y < m ∧ y < 2 ^ (gI s 1 8).toNat ∧ ok y = true ∧ alk s y x)
theorem SEE.un {s σ : zS} {ok : Nat → Bool} {m : Nat} (hW : IW s) (hok : ∀ x y, alk s y x → ok x = ok y) (h : SEE s σ ok m) (hm : m < 2 ^ (gI s 1 8).toNat) (ho : ok m = true) : ((gJ σ 175 ((m : Int) / 64)).getLsbD ((m : Int) % 64).toNat = true ↔ lsw s m = false) := by
  rw [h m hm]
  constructor
  · rintro ⟨y, y1, y2, y3, y4⟩
    cases hl : lsw s m
    · rfl
    · have := lsw_iff.mp hl y (y4.sy hW y2)
      omega
  · intro hl
    have hn : ¬ ∀ x, alk s m x → m ≤ x := fun h => by rw [lsw_iff.mpr h] at hl; cases hl
    have : ∃ x, alk s m x ∧ x < m := by
      apply Classical.byContradiction
      intro hx
      exact hn (fun x ha => by
        by_cases hlt : x < m
        · exact absurd ⟨x, ha, hlt⟩ hx
        · omega)
    obtain ⟨x, x1, x2⟩ := this
    exact ⟨x, x2, by omega, by rw [hok x m x1]; exact ho, x1.sy hW hm⟩
theorem SEE.skip {s σ : zS} {ok : Nat → Bool} {m : Nat} (h : SEE s σ ok m) (hno : m < 2 ^ (gI s 1 8).toNat → ok m = false) : SEE s σ ok (m + 1) := by
  intro x hx
  rw [h x hx]
  constructor
  · rintro ⟨y, y1, y2⟩
    exact ⟨y, by omega, y2⟩
  · rintro ⟨y, y1, y2, y3, y4⟩
    by_cases e : y = m
    · rw [e] at y2 y3
      rw [hno y2] at y3
      cases y3
    · exact ⟨y, by omega, y2, y3, y4⟩
theorem SEE.old {s σ : zS} {ok : Nat → Bool} {m : Nat} (hW : IW s) (h : SEE s σ ok m) (hm : m < 2 ^ (gI s 1 8).toNat) (hs : (gJ σ 175 ((m : Int) / 64)).getLsbD ((m : Int) % 64).toNat = true) : SEE s σ ok (m + 1) := by
  obtain ⟨z, z1, z2, z3, z4⟩ := (h m hm).mp hs
  intro x hx
  rw [h x hx]
  constructor
  · rintro ⟨y, y1, y2⟩
    exact ⟨y, by omega, y2⟩
  · rintro ⟨y, y1, y2, y3, y4⟩
    by_cases e : y = m
    · rw [e] at y4
      exact ⟨z, z1, z2, z3, z4.tr hW y4⟩
    · exact ⟨y, by omega, y2, y3, y4⟩
theorem SEE.new {s σ σ' : zS} {ok : Nat → Bool} {m : Nat} (h : SEE s σ ok m) (hm : m < 2 ^ (gI s 1 8).toNat) (ho : ok m = true) (h' : ∀ x : Nat, x < 2 ^ (gI s 1 8).toNat → ((gJ σ' 175 ((x : Int) / 64)).getLsbD ((x : Int) % 64).toNat = true ↔ (gJ σ 175 ((x : Int) / 64)).getLsbD ((x : Int) % 64).toNat = true ∨ alk s m x)) : SEE s σ' ok (m + 1) := by
  intro x hx
  rw [h' x hx, h x hx]
  constructor
  · rintro (⟨y, y1, y2⟩ | ha)
    · exact ⟨y, by omega, y2⟩
    · exact ⟨m, by omega, hm, ho, ha⟩
  · rintro ⟨y, y1, y2, y3, y4⟩
    by_cases e : y = m
    · rw [e] at y4
      exact Or.inr y4
    · exact Or.inl ⟨y, by omega, y2, y3, y4⟩
theorem IRk.cong {s s2 : zS} (hW : IW s) (h : zeq 9850501549098620386194220831444355945110860601904088953525407954427636638416661588319551701836099066470306865479856 s s2) (hk : IRk s) : IRk s2 := by
  have hfp := (fps_of (s2 := s2) hW (h.i rfl) (fun q _ _ => h.ia (c := 4) rfl rfl q) (fun k => h.ia (c := 5) rfl rfl k)).2
  have e0 : gI s2 1 0 = gI s 1 0 := h.i rfl
  have e4 := h.ia (c := 4) rfl rfl
  have hki : ∀ c k, kim s2 c k = kim s c k := fun c k => by
    unfold kim
    rw [e0, e4]
  unfold IRk at hk ⊢
  rw [hfp, h.i (c := 1) (i := 8) rfl, h.i (c := 25) (i := 2) rfl]
  simp only [hki, h.ia (c := 7) rfl rfl, h.ia (c := 27) rfl rfl]
  exact hk
theorem alk_cong {s s2 : zS} (hW : IW s) (h : zeq 583124460806408452493840925784287727286538334603366206195542358935465985138114870156268649733685424 s s2) {x y : Nat} : alk s2 y x ↔ alk s y x := by
  have hfp := (fps_of (s2 := s2) hW (h.i rfl) (fun q _ _ => h.ia (c := 4) rfl rfl q) (fun k => h.ia (c := 5) rfl rfl k)).2
  unfold alk
  rw [hfp]
  simp only [imgv_cong (h.sub rfl)]
/-- the class counts -/
theorem c_unlike {s : zS} {D : Int → Dn} {v : Int} (hW : IW s) (hw : IWd s) (hF : IFm s D) (hIk : IRk s) (hk : 0 ≤ gI s 0 10 ∧ gI s 0 10 ≤ 16) (ev : (1 : Int) * 2 ^ zsh (gI s 0 10) - 1 = v) (v0 : 0 ≤ v) (v1 : v < 65536) (v2 : ∀ i : Nat, v.toNat.testBit i = decide ((i : Int) < gI s 0 10)) (h0 : ∀ i, 0 ≤ i → i < 64 → gJ s 175 i = 0#64) : ∃ t, zlp (fun (q : Int × Int × zS) => b_28_19 q.1 q.2.1 q.2.2) zF (0, 0, s) = some t ∧ t.1 = ((nbt (fun a => okn v D (zAb s a) 17 && lsw s a) (2 ^ (gI s 1 8).toNat) : Nat) : Int) ∧ IWd t.2 ∧ (∀ i, act s i → CK t.2 D i) ∧ zfr 19239260838083241802870625048898248928261591440656956380834211447141747437035813840957669477301504365033389031488 s t.2 := by
  have f0 := hW.2.2.2.2.2.1.1
  have f12 := hW.2.2.2.2.2.1.2
  have hp := pow2_b f0 f12
  obtain ⟨nb, eb, n1, n64, hnb⟩ := c_blocks f0 f12
  have hcast : (2 : Int) ^ (gI s 1 8).toNat = ((2 ^ (gI s 1 8).toNat : Nat) : Int) := by rw [Int.natCast_pow]; rfl
  obtain ⟨N, hN⟩ : ∃ N : Nat, N = 2 ^ (gI s 1 8).toNat := ⟨_, rfl⟩
  rw [← hN] at hcast
  rw [hcast] at hp hnb
  obtain ⟨ok, hok⟩ : ∃ ok : Nat → Bool, ok = fun a : Nat => okn v D (zAb s (a : Int)) 17 := ⟨_, rfl⟩
  have hoki : ∀ a : Nat, okn v D (zAb s a) 17 = ok a := fun a => by rw [hok]
  have hvact : ∀ i : Nat, i < 17 → v.toNat.testBit i = true → act s i := fun i hi hb => by
    rw [v2, decide_eq_true_iff] at hb
    exact Or.inl ⟨by omega, hb⟩
  have hoka : ∀ x y, alk s y x → ok x = ok y := fun x y h => by
    rw [hok]
    exact okn_alike hW (fun i hi => (hF i hi).1) hvact h
  rw [← hN]
  simp only [hoki]
  have hLS : ∀ a, N ≤ a → (decide (a < N) && (ok a && lsw s a)) = false := fun a h => by rw [decide_eq_false (by omega), Bool.false_and]
  refine zlp_F (I := fun (q : Int × Int × zS) => 0 ≤ q.2.1 ∧ q.2.1 ≤ nb ∧ zfr 19239260838083241802870625048898248928261591440656956380834211447141747437035813840957669477301504365033389031488 s q.2.2 ∧ IWd q.2.2 ∧ (∀ i, act s i → CK q.2.2 D i) ∧ SEE s q.2.2 ok (64 * q.2.1.toNat) ∧ q.1 = ((nbt (fun a => decide (a < N) && (ok a && lsw s a)) (64 * q.2.1.toNat) : Nat) : Int)) (μ := fun q => (64 - q.2.1).toNat) (Q := fun (t : Int × zS) => t.1 = ((nbt (fun a => ok a && lsw s a) N : Nat) : Int) ∧ IWd t.2 ∧ (∀ i, act s i → CK t.2 D i) ∧ zfr 19239260838083241802870625048898248928261591440656956380834211447141747437035813840957669477301504365033389031488 s t.2) ?_ ⟨by dsimp only; omega, by dsimp only; omega, zfr_rf _ _, hw, fun i hi => (hF i hi).2, fun x hx => by
    dsimp only
    rw [h0 _ (by omega) (by omega), BitVec.getLsbD_zero]
    exact ⟨fun h => absurd h (by decide), fun ⟨y, y1, _⟩ => by omega⟩, rfl⟩ (by dsimp only; decide)
  rintro ⟨tot, b, σ⟩ ⟨a1, a2, a3, a4, a5, a6, a7⟩
  dsimp only at a1 a2 a3 a4 a5 a6 a7 ⊢
  have hz : zeq 2649388374917168212986973653605808763990030178540725773606777396060162349097649274346096254817520462418981441071734889382076 s σ := a3.eq rfl
  have F2 : gI σ 1 8 = gI s 1 8 := hz.i rfl
  have K2 : gI σ 0 10 = gI s 0 10 := hz.i rfl
  have eb2 : f_49 σ = some nb := by unfold f_49 at eb ⊢; rw [F2]; exact eb
  have hFσ : IFm σ D := by
    intro i hi
    have hi' := (act_cong (hz.sub rfl)).mp hi
    refine ⟨?_, a5 i hi'⟩
    rw [hz.pa (c := 28) rfl rfl]
    exact (hF i hi').1.eq (hz.sub rfl)
  unfold b_28_19 f_24
  rw [zo_of eb2, zg_pos ⟨by omega, by omega⟩, zg_pos ⟨by omega, by omega⟩]
  by_cases hc : b < nb
  · left
    have hb := (hnb b a1).mp hc
    obtain ⟨w, s8, e8, x1, x2, x3⟩ := c_inst (v1 := v) (v2 := b) (IW.cong (hz.sub rfl) hW) a4 hFσ (by rw [K2]; exact hk.2) v0 ⟨by omega, by omega⟩ (fun i hi hb => (act_cong (hz.sub rfl)).mpr (hvact i hi hb)) a1 (by rw [F2, hcast]; exact hb)
    rw [F2, hcast] at x3
    simp only [zAb_cong (hz.sub rfl)] at x3
    have z8 : zfr 19239260838083241802870625048898248928261591440656956380834163556656095378008990142613071030139516279435820793920 σ s8 := zfr_sub rfl (fr_26 e8)
    have zs8 : zfr 19239260838083241802870625048898248928261591440656956380834211447141747437035813840957669477301504365033389031488 s s8 := zfr_tr a3 (zfr_sub rfl z8)
    obtain ⟨B, hB⟩ : ∃ B : Nat, b = (B : Int) := ⟨b.toNat, by omega⟩
    have hB2 : b.toNat = B := by omega
    rw [hB2] at a6 a7
    have x4 : ∀ β : Nat, β < 64 → w.getLsbD β = (decide (64 * B + β < N) && ok (64 * B + β)) := by
      intro β hβ
      rw [x3 β hβ, ← hoki, show ((64 * B + β : Nat) : Int) = 64 * b + β by omega]
      congr 1
      apply decide_eq_decide.mpr
      omega
    have hS8 : SEE s s8 ok (64 * B) := by
      intro x hx
      rw [z8.ja (c := 175) rfl rfl]
      exact a6 x hx
    -- the bits
    have hin := zlp_F (B := fun (q : Int × Int × zS) => b_28_43 b w q.1 q.2.1 q.2.2) (I := fun q => 0 ≤ q.2.1 ∧ q.2.1 ≤ 64 ∧ zfr 47890485652059026823698344598447161988085597568237568 s8 q.2.2 ∧ SEE s q.2.2 ok (64 * B + q.2.1.toNat) ∧ q.1 = ((nbt (fun a => decide (a < N) && (ok a && lsw s a)) (64 * B + q.2.1.toNat) : Nat) : Int)) (μ := fun q => (64 - q.2.1).toNat) (Q := fun (t : Int × zS) => zfr 47890485652059026823698344598447161988085597568237568 s8 t.2 ∧ SEE s t.2 ok (64 * B + 64) ∧ t.1 = ((nbt (fun a => decide (a < N) && (ok a && lsw s a)) (64 * B + 64) : Nat) : Int)) (by
      rintro ⟨tt, q, τ⟩ ⟨y1, y2, y3, y4, y5⟩
      dsimp only at y1 y2 y3 y4 y5 ⊢
      unfold b_28_43
      rw [zg_pos ⟨by omega, by omega⟩]
      by_cases h64 : q < 64
      · rw [if_pos h64]
        by_cases hw0 : w = 0#64
        · right
          rw [if_pos hw0]
          have hno : ∀ β : Nat, β < 64 → 64 * B + β < N → ok (64 * B + β) = false := by
            intro β hβ hlt
            have := x4 β hβ
            rw [hw0, BitVec.getLsbD_zero, decide_eq_true hlt, Bool.true_and] at this
            exact this.symm
          have hskip : ∀ j : Nat, q.toNat + j ≤ 64 → SEE s τ ok (64 * B + q.toNat + j) := by
            intro j
            induction j with
            | zero => intro _; exact y4
            | succ j ih =>
              intro hj
              refine (ih (by omega)).skip (fun hlt => ?_)
              rw [← hN] at hlt
              have := hno (q.toNat + j) (by omega) (by omega)
              rw [← Nat.add_assoc] at this
              exact this
          have hS := hskip (64 - q.toNat) (by omega)
          rw [show 64 * B + q.toNat + (64 - q.toNat) = 64 * B + 64 by omega] at hS
          have hz0 : nbt (fun i => decide (64 * B + q.toNat + i < N) && (ok (64 * B + q.toNat + i) && lsw s (64 * B + q.toNat + i))) (64 - q.toNat) = 0 := nbt_zero _ (fun i hi => by
            by_cases hlt : 64 * B + q.toNat + i < N
            · have := hno (q.toNat + i) (by omega) (by omega)
              rw [← Nat.add_assoc] at this
              rw [this, Bool.false_and, Bool.and_false]
            · rw [decide_eq_false hlt, Bool.false_and])
          have hadd := nbt_add (fun a => decide (a < N) && (ok a && lsw s a)) (64 * B + q.toNat) (64 - q.toNat)
          rw [hz0, Nat.add_zero, show 64 * B + q.toNat + (64 - q.toNat) = 64 * B + 64 by omega] at hadd
          exact ⟨_, rfl, y3, hS, by dsimp only; rw [y5, hadd]⟩
        · rw [if_neg hw0, zg_pos ⟨a1, by omega⟩, zshl_eq y1 h64]
          obtain ⟨Q, hQ⟩ : ∃ Q : Nat, q = (Q : Int) := ⟨q.toNat, by omega⟩
          have hQ2 : q.toNat = Q := by omega
          have hQ64 : Q < 64 := by omega
          rw [hQ2] at y4 y5 ⊢
          obtain ⟨m, hm⟩ : ∃ m : Nat, m = 64 * B + Q := ⟨_, rfl⟩
          rw [← hm] at y4 y5
          have hwb := x4 Q hQ64
          rw [← hm] at hwb
          have hmd : (m : Int) / 64 = b ∧ ((m : Int) % 64).toNat = Q := by omega
          have hbit : (w &&& (gJ τ 175 b ^^^ 18446744073709551615#64)).getLsbD Q = (w.getLsbD Q && !((gJ τ 175 b).getLsbD Q)) := by rw [BitVec.getLsbD_and, bv_ones_xor _ hQ64]
          have hnx : ∀ (f : Nat → Bool), nbt f (m + 1) = nbt f m + (if f m then 1 else 0) := fun f => rfl
          have hgo : ∀ (t2 : Int) (τ2 : zS), zfr 47890485652059026823698344598447161988085597568237568 s8 τ2 → SEE s τ2 ok (m + 1) → t2 = tt + (if (decide (m < N) && (ok m && lsw s m)) = true then 1 else 0) → ∃ s', (some (Sum.inl (t2, q + 1, τ2)) : Option ((Int × Int × zS) ⊕ (Int × zS))) = some (Sum.inl s') ∧ (0 ≤ s'.2.1 ∧ s'.2.1 ≤ 64 ∧ zfr 47890485652059026823698344598447161988085597568237568 s8 s'.2.2 ∧ SEE s s'.2.2 ok (64 * B + s'.2.1.toNat) ∧ s'.1 = ((nbt (fun a => decide (a < N) && (ok a && lsw s a)) (64 * B + s'.2.1.toNat) : Nat) : Int)) ∧ (64 - s'.2.1).toNat < (64 - q).toNat := by
            intro t2 τ2 h1 h2 h3
            have e : 64 * B + (q + 1).toNat = m + 1 := by omega
            refine ⟨_, rfl, ⟨by dsimp only; omega, by dsimp only; omega, h1, by dsimp only; rw [e]; exact h2, ?_⟩, by dsimp only; omega⟩
            dsimp only
            rw [e, hnx, h3, y5]
            cases (decide (m < N) && (ok m && lsw s m))
            · rfl
            · rfl
          left
          cases hcase : (w.getLsbD Q && !((gJ τ 175 b).getLsbD Q))
          · rw [if_pos ((bv_t0 _ _).mpr (by rw [hbit]; exact hcase))]
            cases hwq : w.getLsbD Q
            · have hno : m < N → ok m = false := fun hlt => by
                rw [hwq, decide_eq_true hlt, Bool.true_and] at hwb
                exact hwb.symm
              refine hgo tt τ y3 (y4.skip (fun hlt => hno (by rw [hN]; exact hlt))) ?_
              rw [if_neg, Int.add_zero]
              by_cases hlt : m < N
              · rw [hno hlt, Bool.false_and, Bool.and_false]; decide
              · rw [decide_eq_false hlt, Bool.false_and]; decide
            · rw [hwq] at hwb
              have hwb2 := hwb.symm
              rw [Bool.and_eq_true, decide_eq_true_iff] at hwb2
              obtain ⟨hlt, hokm⟩ := hwb2
              rw [hwq, Bool.true_and] at hcase
              have hsn : (gJ τ 175 ((m : Int) / 64)).getLsbD ((m : Int) % 64).toNat = true := by
                rw [hmd.1, hmd.2]
                cases h : (gJ τ 175 b).getLsbD Q
                · rw [h] at hcase; cases hcase
                · rfl
              refine hgo tt τ y3 (y4.old hW (by rw [← hN]; exact hlt) hsn) ?_
              have hl := (y4.un hW hoka (by rw [← hN]; exact hlt) hokm).mp hsn
              rw [hl, Bool.and_false, Bool.and_false, if_neg (by decide), Int.add_zero]
          · rw [Bool.and_eq_true] at hcase
            have hwq := hcase.1
            have hsq : (gJ τ 175 b).getLsbD Q = false := by
              cases h : (gJ τ 175 b).getLsbD Q
              · rfl
              · have := hcase.2
                rw [h] at this; cases this
            rw [if_neg (fun h => by
              have := (bv_t0 _ _).mp h
              rw [hbit, hwq, hsq] at this
              cases this)]
            rw [hwq] at hwb
            have hwb2 := hwb.symm
            rw [Bool.and_eq_true, decide_eq_true_iff] at hwb2
            obtain ⟨hlt, hokm⟩ := hwb2
            have zsτ : zfr 19239260838083241802870625048898248928261591440656956380834211447141747437035813840957669477301504365033389031488 s τ := zfr_tr zs8 (zfr_sub rfl y3)
            have hzτ : zeq 2649388384767669762085593456669311014506634088553643926068345453336117778351308734717681974999568142971478386501273436291260 s τ := zsτ.eq rfl
            obtain ⟨τ2, e136, hmk⟩ := c_mark (s := τ) (a := (m : Int)) (IW.cong (hzτ.sub rfl) hW) (IRk.cong hW (hzτ.sub rfl) hIk) (by omega) (by rw [zsτ.i rfl, hcast]; omega)
            rw [show b * 64 + q = (m : Int) by omega, zb_of e136]
            have z136 : zfr 47890485652059026823698344598447161988085597568237568 τ τ2 := zfr_sub rfl (fr_136 e136)
            refine hgo (tt + 1) τ2 (zfr_tr y3 z136) (y4.new (by rw [← hN]; exact hlt) hokm (fun x hx => ?_)) ?_
            · rw [hmk (x : Int) (by omega) (by omega)]
              refine or_congr Iff.rfl ?_
              rw [← alk_cong hW (hzτ.sub rfl)]
              constructor
              · rintro ⟨c, h1, h2⟩
                exact ⟨c, h1, by omega⟩
              · rintro ⟨c, h1, h2⟩
                exact ⟨c, h1, by omega⟩
            · have hl : lsw s m = true := by
                cases h : lsw s m
                · have := (y4.un hW hoka (by rw [← hN]; exact hlt) hokm).mpr h
                  rw [hmd.1, hmd.2, hsq] at this
                  cases this
                · rfl
              rw [decide_eq_true hlt, hokm, hl]
              rfl
      · right
        rw [if_neg h64]
        have e : q.toNat = 64 := by omega
        rw [e] at y4 y5
        exact ⟨_, rfl, y3, y4, y5⟩) (s := (tot, 0, s8)) ⟨by dsimp only; omega, by dsimp only; omega, zfr_rf _ _, by dsimp only; exact hS8, by dsimp only; exact a7⟩ (by dsimp only; decide)
    obtain ⟨t, et, t1, t2, t3⟩ := hin
    have zt : zfr 19239260838083241802870625048898248928261591440656956380834211447141747437035813840957669477301504365033389031488 s t.2 := zfr_tr zs8 (zfr_sub rfl t1)
    rw [if_pos hc, K2, ev, zo_of rfl, zb_of e8, zo_of et]
    refine ⟨_, rfl, ⟨by dsimp only; omega, by dsimp only; omega, zt, IWd.cong (t1.eq rfl) x1, fun i hi => (x2 i ((act_cong (hz.sub rfl)).mpr hi)).eq (t1.eq rfl), ?_, ?_⟩, by dsimp only; omega⟩
    · dsimp only
      rw [show 64 * (b + 1).toNat = 64 * B + 64 by omega]
      exact t2
    · dsimp only
      rw [show 64 * (b + 1).toNat = 64 * B + 64 by omega]
      exact t3
  · right
    rw [if_neg hc]
    have hbn : b = nb := by omega
    have hnn := hnb nb (by omega)
    refine ⟨_, rfl, ?_, a4, a5, a3⟩
    dsimp only
    rw [a7, hbn, nbt_cut (by omega)]
