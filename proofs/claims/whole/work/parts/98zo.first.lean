/-! THE FIRST ASSIGNMENT from one on: in the class and in the reference. -/
theorem bv_t0 (w : BitVec 64) (k : Nat) : ((w >>> k) &&& (1#64) = (0#64)) ↔ w.getLsbD k = false := by
  constructor
  · intro h
    have := congrArg (fun b : BitVec 64 => b.getLsbD 0) h
    simpa using this
  · intro h
    apply BitVec.eq_of_getLsbD_eq
    intro i hi
    rw [BitVec.getLsbD_and, BitVec.getLsbD_ushiftRight, BitVec.getLsbD_zero]
    by_cases e : i = 0
    · subst e
      rw [Nat.add_zero, h]
      rfl
    · have : (1#64).getLsbD i = false := by
        rw [BitVec.getLsbD_one]
        simp [e]
      rw [this, Bool.and_false]
/-- r is the first from lo on, below N, at which P -/
def fst (P : Int → Bool) (lo N r : Int) : Prop := (r = -1 ∧ ∀ a, lo ≤ a → a < N → P a = false) ∨ (lo ≤ r ∧ r < N ∧ P r = true ∧ ∀ a, lo ≤ a → a < r → P a = false)
theorem fst_un {P P' : Int → Bool} {lo N r r' : Int} (h : fst P lo N r) (h' : fst P' lo N r') (l0 : 0 ≤ lo) (hP : ∀ a, lo ≤ a → a < N → P a = P' a) : r' = r := by
  rcases h with ⟨h1, h2⟩ | ⟨h1, h2, h3, h4⟩
  · rcases h' with ⟨g1, -⟩ | ⟨g1, g2, g3, g4⟩
    · omega
    · have := h2 r' g1 g2
      rw [hP r' g1 g2, g3] at this
      cases this
  · rcases h' with ⟨g1, g2⟩ | ⟨g1, g2, g3, g4⟩
    · have := g2 r h1 h2
      rw [← hP r h1 h2, h3] at this
      cases this
    · by_cases e1 : r' < r
      · have := h4 r' g1 e1
        rw [hP r' g1 g2, g3] at this
        cases this
      · by_cases e2 : r < r'
        · have := g4 r h1 e2
          rw [← hP r h1 h2, h3] at this
          cases this
        · omega
theorem c_blocks {s : zS} (f0 : 0 ≤ gI s 1 8) (f12 : gI s 1 8 ≤ 12) : ∃ nb, f_49 s = some nb ∧ 1 ≤ nb ∧ nb ≤ 64 ∧ ∀ b, 0 ≤ b → (b < nb ↔ 64 * b < 2 ^ (gI s 1 8).toNat) := by
  unfold f_49
  have hF : gI s 1 8 = 0 ∨ gI s 1 8 = 1 ∨ gI s 1 8 = 2 ∨ gI s 1 8 = 3 ∨ gI s 1 8 = 4 ∨ gI s 1 8 = 5 ∨ gI s 1 8 = 6 ∨ gI s 1 8 = 7 ∨ gI s 1 8 = 8 ∨ gI s 1 8 = 9 ∨ gI s 1 8 = 10 ∨ gI s 1 8 = 11 ∨ gI s 1 8 = 12 := by omega
  rcases hF with h | h | h | h | h | h | h | h | h | h | h | h | h <;> rw [h]
  · exact ⟨1, by rw [if_neg (by decide)], by decide, by decide, fun b b0 => by simp; omega⟩
  · exact ⟨1, by rw [if_neg (by decide)], by decide, by decide, fun b b0 => by simp; omega⟩
  · exact ⟨1, by rw [if_neg (by decide)], by decide, by decide, fun b b0 => by simp; omega⟩
  · exact ⟨1, by rw [if_neg (by decide)], by decide, by decide, fun b b0 => by simp; omega⟩
  · exact ⟨1, by rw [if_neg (by decide)], by decide, by decide, fun b b0 => by simp; omega⟩
  · exact ⟨1, by rw [if_neg (by decide)], by decide, by decide, fun b b0 => by simp; omega⟩
  · exact ⟨1, by rw [if_neg (by decide)], by decide, by decide, fun b b0 => by simp; omega⟩
  · exact ⟨2, by rw [if_pos (by decide)]; rfl, by decide, by decide, fun b b0 => by simp; omega⟩
  · exact ⟨4, by rw [if_pos (by decide)]; rfl, by decide, by decide, fun b b0 => by simp; omega⟩
  · exact ⟨8, by rw [if_pos (by decide)]; rfl, by decide, by decide, fun b b0 => by simp; omega⟩
  · exact ⟨16, by rw [if_pos (by decide)]; rfl, by decide, by decide, fun b b0 => by simp; omega⟩
  · exact ⟨32, by rw [if_pos (by decide)]; rfl, by decide, by decide, fun b b0 => by simp; omega⟩
  · exact ⟨64, by rw [if_pos (by decide)]; rfl, by decide, by decide, fun b b0 => by simp; omega⟩
theorem IFm.fr {s σ : zS} {D : Int → Dn} (hF : IFm s D) (hz : zfr 19239260838083241802870625048898248928261591440656956380834163556656095378008990142613071030139516279435820793920 s σ) (hC : ∀ i, act s i → CK σ D i) : IFm σ D := by
  have hq : zeq 36318037385174770941972385670037179557957094801870868071602424265649254221439621315162474062807056 s σ := hz.eq rfl
  intro i hi
  have hi' := (act_cong (hq.sub rfl)).mp hi
  refine ⟨?_, hC i hi'⟩
  rw [hq.pa (c := 28) rfl rfl]
  exact (hF i hi').1.eq (hq.sub rfl)
theorem c_firstFrom {s : zS} {D : Int → Dn} {v1 lo : Int} (hW : IW s) (hw : IWd s) (hF : IFm s D) (k16 : gI s 0 10 ≤ 16) (v0 : 0 ≤ v1) (vR : zR v1) (hv : ∀ i : Nat, i < 17 → v1.toNat.testBit i = true → act s i) (l0 : 0 ≤ lo) (l1 : lo ≤ 2 ^ (gI s 1 8).toNat) : ∃ r s', f_25 lo v1 s = some (r, s') ∧ IWd s' ∧ (∀ i, act s i → CK s' D i) ∧ fst (fun a => okn v1 D (zAb s a) 17) lo (2 ^ (gI s 1 8).toNat) r := by
  have f0 := hW.2.2.2.2.2.1.1
  have f12 := hW.2.2.2.2.2.1.2
  have hp := pow2_b f0 f12
  obtain ⟨nb, eb, n1, n64, hnb⟩ := c_blocks f0 f12
  have hn := hnb nb (by omega)
  have hl := zlp_F (B := fun (q : Int × zS) => b_25_5 lo v1 q.1 q.2) (I := fun q => 0 ≤ q.1 ∧ q.1 ≤ 64 ∧ zfr 19239260838083241802870625048898248928261591440656956380834163556656095378008990142613071030139516279435820793920 s q.2 ∧ IWd q.2 ∧ (∀ i, act s i → CK q.2 D i) ∧ ∀ a, lo ≤ a → a < 64 * q.1 → a < 2 ^ (gI s 1 8).toNat → okn v1 D (zAb s a) 17 = false) (μ := fun q => (64 - q.1).toNat) (Q := fun t => IWd (Sum.elim id Prod.snd t) ∧ (∀ i, act s i → CK (Sum.elim id Prod.snd t) D i) ∧ fst (fun a => okn v1 D (zAb s a) 17) lo (2 ^ (gI s 1 8).toNat) (Sum.elim (fun _ => -1) Prod.fst t)) (by
    rintro ⟨b, σ⟩ ⟨a1, a2, a3, a4, a5, a6⟩
    dsimp only at a1 a2 a3 a4 a5 a6 ⊢
    have hz : zeq 2649388374917168212986973653605808763990030178540725773606777396060162349097649274346096254817520462418981441071734889382076 s σ := a3.eq rfl
    have F2 : gI σ 1 8 = gI s 1 8 := hz.i rfl
    have eb2 : f_49 σ = some nb := by unfold f_49 at eb ⊢; rw [F2]; exact eb
    unfold b_25_5
    rw [zo_of eb2, zg_pos ⟨by omega, by omega⟩, zg_pos ⟨by omega, by omega⟩]
    by_cases hc : b < nb
    · rw [if_pos hc]
      have hb := (hnb b a1).mp hc
      obtain ⟨w, s8, e8, x1, x2, x3⟩ := c_inst (v2 := b) (IW.cong (hz.sub rfl) hW) a4 (hF.fr a3 a5) (by rw [hz.i (c := 0) (i := 10) rfl]; exact k16) v0 vR (fun i hi hb => (act_cong (hz.sub rfl)).mpr (hv i hi hb)) a1 (by rw [F2]; exact hb)
      rw [F2] at x3
      simp only [zAb_cong (hz.sub rfl)] at x3
      have x2' : ∀ i, act s i → CK s8 D i := fun i hi => x2 i ((act_cong (hz.sub rfl)).mpr hi)
      have z8 : zfr 19239260838083241802870625048898248928261591440656956380834163556656095378008990142613071030139516279435820793920 s s8 := zfr_tr a3 (zfr_sub rfl (fr_26 e8))
      -- the bits
      have hi := zlp_F (B := fun (q : Int) => b_25_27 lo v1 b w s8 q) (I := fun q => 0 ≤ q ∧ q ≤ 64 ∧ ∀ β : Nat, (β : Int) < q → lo ≤ 64 * b + β → w.getLsbD β = false) (μ := fun q => (64 - q).toNat) (Q := fun t => Sum.elim (fun _ => ∀ β : Nat, β < 64 → lo ≤ 64 * b + β → w.getLsbD β = false) (fun p => p.2 = s8 ∧ ∃ β : Nat, β < 64 ∧ p.1 = 64 * b + β ∧ lo ≤ 64 * b + β ∧ w.getLsbD β = true ∧ ∀ γ : Nat, γ < β → lo ≤ 64 * b + γ → w.getLsbD γ = false) t) (by
        rintro q ⟨q1, q2, q3⟩
        unfold b_25_27
        rw [zg_pos ⟨by omega, by omega⟩]
        by_cases h64 : q < 64
        · rw [if_pos h64]
          by_cases hw0 : w = 0#64
          · right
            rw [if_pos hw0]
            exact ⟨_, rfl, fun β _ _ => by rw [hw0, gb_zero]⟩
          · rw [if_neg hw0, zg_pos ⟨by omega, by omega⟩, zg_pos ⟨by omega, by omega⟩]
            by_cases hlo : b * 64 + q < lo
            · left
              rw [if_pos hlo]
              refine ⟨_, rfl, ⟨by omega, by omega, fun β hβ hlo2 => ?_⟩, by omega⟩
              exact q3 β (by omega) hlo2
            · rw [if_neg hlo, zshl_eq q1 h64]
              cases hb : w.getLsbD q.toNat
              · left
                rw [if_pos ((bv_t0 w q.toNat).mpr hb)]
                refine ⟨_, rfl, ⟨by omega, by omega, fun β hβ hlo2 => ?_⟩, by omega⟩
                by_cases e : (β : Int) = q
                · have : β = q.toNat := by omega
                  rw [this]; exact hb
                · exact q3 β (by omega) hlo2
              · right
                rw [if_neg (fun h => by have := (bv_t0 w q.toNat).mp h; rw [hb] at this; cases this)]
                exact ⟨_, rfl, rfl, q.toNat, by omega, by dsimp only; omega, by omega, hb, fun γ hγ h => q3 γ (by omega) h⟩
        · right
          rw [if_neg h64]
          exact ⟨_, rfl, fun β hβ h => q3 β (by omega) h⟩) (s := 0) ⟨by decide, by decide, fun β hβ => by omega⟩ (by decide)
      obtain ⟨t, et, ht⟩ := hi
      rw [zb_of e8, zo_of et]
      rcases t with u | ⟨r, s9⟩
      · left
        refine ⟨_, rfl, ⟨by dsimp only; omega, by dsimp only; omega, z8, x1, x2', fun a h1 h2 h3 => ?_⟩, by dsimp only; omega⟩
        dsimp only at h2
        by_cases hab : a < 64 * b
        · exact a6 a h1 hab h3
        · have h4 := ht (a - 64 * b).toNat (by omega) (by omega)
          rw [x3 _ (by omega), show 64 * b + (((a - 64 * b).toNat : Nat) : Int) = a by omega, decide_eq_true h3, Bool.true_and] at h4
          exact h4
      · right
        obtain ⟨e9, β, h1, h2, h3, h4, h5⟩ := ht
        dsimp only at e9 h2
        refine ⟨_, rfl, ?_, ?_, ?_⟩
        · show IWd s9
          rw [e9]; exact x1
        · show ∀ i, act s i → CK s9 D i
          rw [e9]; exact x2'
        · show fst _ _ _ r
          have h6 := h4
          rw [x3 β h1, Bool.and_eq_true, decide_eq_true_iff] at h6
          right
          refine ⟨by omega, by omega, by rw [h2]; exact h6.2, fun a g1 g2 => ?_⟩
          by_cases hab : a < 64 * b
          · exact a6 a g1 hab (by omega)
          · have h4 := h5 (a - 64 * b).toNat (by omega) (by omega)
            rw [x3 _ (by omega), show 64 * b + (((a - 64 * b).toNat : Nat) : Int) = a by omega, decide_eq_true (show a < 2 ^ (gI s 1 8).toNat by omega), Bool.true_and] at h4
            exact h4
    · right
      rw [if_neg hc]
      refine ⟨_, rfl, a4, a5, Or.inl ⟨rfl, fun a h1 h2 => a6 a h1 ?_ h2⟩⟩
      have := hnb b a1
      omega) (s := (lo / 64, s)) ⟨by dsimp only; omega, by dsimp only; omega, zfr_rf _ _, hw, fun i hi => (hF i hi).2, fun a h1 h2 => by dsimp only at h2; omega⟩ (by dsimp only; omega)
  obtain ⟨t, et, q1, q2, q3⟩ := hl
  unfold f_25
  rw [zg_pos ⟨l0, ⟨by omega, by omega⟩, by decide, by decide⟩, zo_of et]
  rcases t with u | ⟨r, s9⟩
  · exact ⟨-1, u, rfl, q1, q2, q3⟩
  · exact ⟨r, s9, rfl, q1, q2, q3⟩
