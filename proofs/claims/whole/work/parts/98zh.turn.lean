/-! BOTH PARSERS: a token where an operand is awaited, whole. -/
/-- what both make of a token -/
def TR (q k pl : Int) (τ : zS) (C : Option (Unit × zS)) (c : Nat) (fm : Int) (v : Wd) (tk : Int) : Prop := ∃ σ', C = some ((), σ') ∧ ((k ≠ 0 ∧ f_165 q τ = some 1 ∧ gI σ' 10 15 = 6 ∧ gI σ' 10 16 = pl) ∨ ((k ≠ 0 → f_165 q τ = some 0) ∧ ∃ τ' q', f_170 q τ = some (q', τ') ∧ OUT k pl q' σ' τ' c fm v tk))
section TURN
variable {σ τ : zS} {c : Nat} {fm : Int} {v : Wd} {S : List Fr} {len len' r tk pl k q : Int} {D : Dn} {w : BitVec 64} {nm : Int → BitVec 64} {B : Int → Int} {l cur : Int}
theorem t01 (h : JA σ τ c fm v S len len' tk) (hq : q = 0 ∨ q = 1) (hqA : q = 0 ↔ AW fm S) (hV : WV σ τ v nm) (hB : TB B l) (hCT : CT σ B l) (hMT : MT τ B l) (hcc : gI σ 8 2 = cur) (hmc : gI τ 177 26 = cur) (cur0 : 0 ≤ cur) (curl : cur ≤ l) (k0 : 0 ≤ k) (k42 : k ≤ 42) (htk : k ≠ 0 → tk < 200) (hkc : gI σ 8 4 = k) (hpc : gI σ 8 5 = pl) (hkm : gI τ 177 27 = km k) (hpm : gI τ 177 28 = pl) (hwc : k = 2 → gJ σ 8 6 = w) (hwm : k = 2 → gJ τ 177 29 = w) : TR q k pl τ (f_75 k σ) c fm v tk := by
  obtain ⟨t75, t82⟩ := t75_eq k0 k42
  have hkz : zR k := ⟨by omega, by omega⟩
  have hl20 := h.1.2.2.2.1.2
  have K0 := h.2.2.2.2.2.2.1.1
  have e165 := opens_01 (q := q) (n := S.length) h.2.1.1.1 (by omega) (by omega) hkm k0 k42 hq
  obtain ⟨kl, kj, kv⟩ := kt_all k0 k42
  -- something without a left operand, in both
  have prefixed : ∀ (C : Option (Unit × zS)) (what word : Int), ((28 ≤ k ∧ k ≤ 30 ∨ k = 35) ∨ ((5 ≤ k ∧ k ≤ 9 ∨ k = 31 ∨ k = 37) ∧ AW fm S)) → (what = if 5 ≤ k ∧ k ≤ 8 then 106 else if k = 31 then 66 else km k) → (5 ≤ k → k ≤ 8 → word = k - 4) → zR word → C = zb (f_76 k σ) (fun _ s5 => some ((), s5)) → ∀ (τ1 : zS) (q' : Int), zfr 10917387003232704608371080719052805586377350962842863135268915759251170808785374795258817452183700893722888499109428067204505534464 τ τ1 → gI τ1 177 28 = pl → (∀ τ', f_158 what word τ1 = some ((), τ') → f_170 q τ = some (q', τ')) → (q' = if k = 9 ∨ k = 37 then 0 else 1) → TR q k pl τ C c fm v tk := by
    intro C what word hk1 hwh hwo hwz hC τ1 q' z1 hp1 hM hq'
    have hcond : ((28 ≤ k ∧ k ≤ 30) ∨ k = 35 ∨ k = 39) ∨ (q = 0 ∧ ((4 ≤ k ∧ k ≤ 9) ∨ k = 31 ∨ k = 37)) := by
      rcases hk1 with hk1 | ⟨hk1, hA⟩
      · left; omega
      · right
        exact ⟨hqA.mpr hA, by omega⟩
    by_cases hfull : S.length = 20
    · obtain ⟨σ', b1, b2, b3⟩ := c_openFull (k := k) h.1 hfull hpc
      refine ⟨σ', by rw [hC, zb_of b1], Or.inl ⟨by omega, ?_, b2, b3⟩⟩
      rw [e165, if_pos ⟨by omega, hcond⟩]
    · have hJ1 := h.fr (zfr_rf _ σ) z1
      obtain ⟨σ', τ', f, b1, b2, b3, b4, b5, b6⟩ := opened_prefix hJ1 (by omega) (htk (by omega)) hpc hp1 hk1 hwh hwo hwz
      refine ⟨σ', by rw [hC, zb_of b1], Or.inr ⟨fun _ => by rw [e165, if_neg (by omega)], τ', q', hM τ' b2, Or.inl ⟨v, vLe.rf K0, Or.inl ⟨?_, _, _, _, b3, b4, ?_⟩, by omega⟩⟩⟩
      · rw [hq']; split <;> omega
      · show q' = 0 ↔ (f.p = 2 ∨ (f.p = 0 ∧ (9 ≤ f.k ∧ f.k ≤ 13 ∨ f.k = 37)))
        rw [hq', b5, b6]
        by_cases h9 : k = 9 ∨ k = 37
        · rw [if_pos h9]
          exact ⟨fun _ => Or.inr ⟨rfl, by omega⟩, fun _ => rfl⟩
        · rw [if_neg h9]
          refine ⟨fun h => by omega, fun h => ?_⟩
          exfalso
          rcases h with h | ⟨-, h⟩
          · omega
          · have hk1' : (28 ≤ k ∧ k ≤ 30 ∨ k = 35) ∨ (5 ≤ k ∧ k ≤ 9 ∨ k = 31 ∨ k = 37) := by
              rcases hk1 with hk1 | hk1
              · exact Or.inl hk1
              · exact Or.inr hk1.1
            omega
  -- a binder, in both
  have binder : ∀ (C : Option (Unit × zS)) (what word : Int), bk k → (k ≠ 39 → AW fm S) → (what = if k = 39 then 64 else 62) → (word = if k = 39 then 5 else k - 4) → C = zb (f_77 k σ) (fun _ s5 => some ((), s5)) → ∀ (τ1 : zS), zfr 10917387003232704608371080719052805586377350962842863135268915759251170808785374795258817452183700893722888499109428067204505534464 τ τ1 → gI τ1 177 28 = pl → (∀ τ', f_158 what word τ1 = some ((), τ') → f_170 q τ = some (4, τ')) → TR q k pl τ C c fm v tk := by
    intro C what word hk1 hA hwh hwo hC τ1 z1 hp1 hM
    have hcond : ((28 ≤ k ∧ k ≤ 30) ∨ k = 35 ∨ k = 39) ∨ (q = 0 ∧ ((4 ≤ k ∧ k ≤ 9) ∨ k = 31 ∨ k = 37)) := by
      by_cases h39 : k = 39
      · left; omega
      · right
        exact ⟨hqA.mpr (hA h39), by omega⟩
    by_cases hfull : S.length = 20
    · obtain ⟨σ', b1, b2, b3⟩ := c_openFull (k := k) h.1 hfull hpc
      have e77 : f_77 k σ = some ((), σ') := by
        unfold f_77
        rw [zb_of b1, zg_pos (by decide), if_pos rfl]
      refine ⟨σ', by rw [hC, zb_of e77], Or.inl ⟨by omega, ?_, b2, b3⟩⟩
      rw [e165, if_pos ⟨by omega, hcond⟩]
    · have hJ1 := h.fr (zfr_rf _ σ) z1
      obtain ⟨σ', τ', b1, b2, b3, b4⟩ := opened_binder hJ1 (by omega) (htk (by omega)) hpc hp1 hk1 hA hwh hwo
      exact ⟨σ', by rw [hC, zb_of b1], Or.inr ⟨fun _ => by rw [e165, if_neg (by omega)], τ', 4, hM τ' b2, Or.inl ⟨v, vLe.rf K0, Or.inr (Or.inr (Or.inr (Or.inl ⟨rfl, _, _, _, _, _, b3, b4⟩))), by omega⟩⟩⟩
  have noOpen : ¬ (((28 ≤ k ∧ k ≤ 30) ∨ k = 35 ∨ k = 39) ∨ (q = 0 ∧ ((4 ≤ k ∧ k ≤ 9) ∨ k = 31 ∨ k = 37))) → f_165 q τ = some 0 := fun hn => by rw [e165, if_neg (fun hh => hn hh.2)]
  by_cases cA : (28 ≤ k ∧ k ≤ 30) ∨ k = 35
  · -- ~ ^ * (
    rw [if_pos cA] at t75
    refine prefixed _ (km k) 0 (Or.inl (by omega)) (by rw [if_neg (by omega), if_neg (by omega)]) (fun h1 h2 => by omega) (by decide) (by unfold f_75; rw [zg_pos hkz, t75, if_pos rfl]) τ 1 (zfr_rf _ _) hpm (fun τ' h158 => ?_) (by rw [if_neg (by omega)])
    refine m170 hq hkm k0 k42 (Or.inl (by omega)) ?_
    unfold f_174
    rw [hkm, zo_of kv]
    by_cases c35 : k = 35
    · have i45 : km k = 45 := (km_inj (m := 35) k0 k42 (by decide) (by decide)).mpr c35
      rw [if_neg (by omega), if_neg (by omega), zg_pos (by decide), if_neg (by decide), if_pos i45, zb_of h158]
    · have hs12 : stg k = 12 := by
        have : k = 28 ∨ k = 29 ∨ k = 30 := by omega
        rcases this with e | e | e <;> rw [e] <;> decide
      rw [if_pos (by omega), hs12, zg_pos (by decide), if_pos (by decide), zb_of h158]
  · rw [if_neg cA] at t75
    by_cases c39 : k = 39
    · -- {
      rw [if_pos c39] at t75
      refine binder _ 64 5 (Or.inr c39) (fun h => absurd c39 h) (by rw [if_pos c39]) (by rw [if_pos c39]) (by unfold f_75; rw [zg_pos hkz, t75, if_neg (by decide), if_pos rfl]) τ (zfr_rf _ _) hpm (fun τ' h158 => ?_)
      refine m170 hq hkm k0 k42 (Or.inl (by omega)) ?_
      have i45 : km k ≠ 45 := fun h => by have := (km_inj (m := 35) k0 k42 (by decide) (by decide)).mp h; omega
      have i49 : km k = 49 := (km_inj (m := 39) k0 k42 (by decide) (by decide)).mpr c39
      unfold f_174
      rw [hkm, zo_of kv, if_neg (by omega), if_neg (by omega), zg_pos (by decide), if_neg (by decide), if_neg i45, if_pos i49, zb_of h158]
    · rw [if_neg c39] at t75
      by_cases c2 : k = 2
      · -- a name
        rw [if_pos c2] at t75
        have e75 : f_75 k σ = zb (f_78 σ) (fun _ s13 => some ((), s13)) := by
          unfold f_75
          rw [zg_pos hkz, t75, if_neg (by decide), if_neg (by decide), if_pos rfl]
        have e165' := noOpen (by omega)
        have hk1 : km k = 1 := (km_1 k0).mpr c2
        have e174 : ∀ (x : Int) (τ' : zS), f_175 τ = some (x, τ') → zR x → f_174 τ = some (if x = 0 then 104 else 2, τ') := by
          intro x τ' h175 hx
          unfold f_174
          rw [hkm, zo_of kv, if_neg (by omega), if_neg (by omega), zg_pos (by decide), if_neg (by decide), if_neg (by omega), if_neg (by omega), if_pos hk1, zb_of h175, zg_pos hx]
          by_cases hx0 : x = 0
          · rw [if_pos hx0, if_pos hx0]
          · rw [if_neg hx0, if_neg hx0]
        rcases leaf_name h (htk (by omega)) hV (hwc c2) (hwm c2) hpc with ⟨σ', τ', r, D, a1, a2, a3, a4, a5⟩ | ⟨σ', τ', a1, a2, a3, a4⟩
        · exact ⟨σ', by rw [e75, zb_of a1], Or.inr ⟨fun _ => e165', τ', 2, m170 hq hkm k0 k42 (Or.inl (by omega)) (e174 1 τ' a2 (by decide)), Or.inl ⟨v, vLe.rf K0, Or.inr (Or.inl ⟨rfl, _, _, _, _, _, a3, a4, a5⟩), by omega⟩⟩⟩
        · exact ⟨σ', by rw [e75, zb_of a1], Or.inr ⟨fun _ => e165', τ', 104, m170 hq hkm k0 k42 (Or.inl (by omega)) (e174 0 τ' a2 (by decide)), Or.inr (Or.inl ⟨4, by decide, by decide, by decide, by decide, by rw [a3, if_neg (by omega)], by rw [if_neg (by decide)]; exact a4⟩)⟩⟩
      · rw [if_neg c2] at t75
        by_cases c15 : k = 15 ∨ k = 16 ∨ k = 17
        · -- none, univ, iden
          have e165' := noOpen (by omega)
          have hk6 : km k = k + 6 := km_lo (by omega) (by omega)
          obtain ⟨σ', τ', r, D, a1, a2, a3, a4, a5⟩ := leaf_const h (htk (by omega)) c15 (by rw [hkm, hk6])
          have e75 : f_75 k σ = some ((), σ') := by
            unfold f_75
            by_cases c17 : k = 17
            · rw [if_neg (by omega), if_pos c17] at t75
              rw [if_pos c17] at a1
              rw [zg_pos hkz, t75, if_neg (by decide), if_neg (by decide), if_neg (by decide), if_neg (by decide), if_pos rfl, zb_of a1]
            · rw [if_pos (by omega)] at t75
              rw [if_neg c17] at a1
              rw [zg_pos hkz, t75, if_neg (by decide), if_neg (by decide), if_neg (by decide), if_pos rfl, zb_of a1]
          have e174 : f_174 τ = some (2, τ') := by
            unfold f_174
            rw [hkm, zo_of kv, if_neg (by omega), if_neg (by omega), zg_pos (by decide), if_neg (by decide), if_neg (by omega), if_neg (by omega), if_neg (by omega)]
            by_cases d1 : km k = 21
            · rw [if_pos d1, a2]
            · rw [if_neg d1]
              by_cases d2 : km k = 22
              · rw [if_pos d2, a2]
              · rw [if_neg d2, if_pos (by omega), a2]
          exact ⟨σ', e75, Or.inr ⟨fun _ => e165', τ', 2, m170 hq hkm k0 k42 (Or.inl (by omega)) e174, Or.inl ⟨v, vLe.rf K0, Or.inr (Or.inl ⟨rfl, _, _, _, _, _, a3, a4, a5⟩), by omega⟩⟩⟩
        · rw [if_neg (by omega), if_neg (by omega)] at t75
          have e75 : ∀ x, f_81 σ = some x → zR x → f_75 k σ = if x = 0 then (zb (f_83 σ) (fun _ s29 => some ((), s29))) else (zb (f_82 k σ) (fun _ s32 => some ((), s32))) := by
            intro x hx hxz
            unfold f_75
            rw [zg_pos hkz, t75, if_neg (by decide), if_neg (by decide), if_neg (by decide), if_neg (by decide), if_neg (by decide), if_pos rfl, zo_of hx, zg_pos hxz]
          obtain ⟨w1, w2⟩ := c_awaits h.1 h.2.2.1
          have hn174 := m174n hkm k0 k42 (by omega)
          obtain ⟨σr, rf1, rf2, rf3⟩ := c_refuseToken (σ := σ) hkc hpc
          by_cases hA : AW fm S
          · have q0 : q = 0 := hqA.mpr hA
            have e75' := e75 1 (w1 hA) (by decide)
            rw [if_neg (by decide)] at e75'
            by_cases c9 : k = 9 ∨ k = 31 ∨ k = 37
            · -- not, #, [
              rw [if_pos c9] at t82
              have e82 : f_82 k σ = zb (f_76 k σ) (fun _ s5 => some ((), s5)) := by
                unfold f_82
                rw [zg_pos hkz, t82, if_pos rfl]
              refine prefixed _ (if k = 31 then 66 else km k) 0 (Or.inr ⟨by omega, hA⟩) (if_neg (show ¬ (5 ≤ k ∧ k ≤ 8) by omega)).symm (fun h1 h2 => by omega) (by decide) (by
                rw [e75', e82]
                cases hf : f_76 k σ with
                | none => rfl
                | some x => rfl) τ (if k = 31 then 1 else 0) (zfr_rf _ _) hpm (fun τ' h158 => ?_) (by by_cases h31 : k = 31 <;> (repeat' split) <;> omega)
              rw [q0]
              refine m170_0 ?_
              unfold f_171
              rw [hkm]
              by_cases h31 : k = 31
              · have hk41 : km k = 41 := (km_inj (m := 31) k0 k42 (by decide) (by decide)).mpr h31
                rw [if_pos h31] at h158 ⊢
                rw [if_neg (by omega), if_neg (by omega), if_neg (by omega), if_neg (by omega), if_neg (by omega), if_pos (by omega)]
                unfold j_171_81 j_171_82
                rw [hkm, if_neg (by omega), zg_pos (by decide), if_pos rfl]
                unfold j_171_118
                rw [zg_pos (by decide), if_pos rfl, hkm, if_pos hk41, zb_of h158]
              · rw [if_neg h31] at h158 ⊢
                by_cases h9 : k = 9
                · have : km k = 15 := by rw [h9]; rfl
                  rw [if_pos this, zb_of h158]
                · have : km k = 47 := (km_inj (m := 37) k0 k42 (by decide) (by decide)).mpr (by omega)
                  rw [if_neg (by omega), if_pos this, zb_of h158]
            · rw [if_neg c9] at t82
              by_cases c18 : k = 18 ∨ k = 19
              · -- true, false
                rw [if_pos c18] at t82
                have hk6 : km k = k + 6 := km_lo (by omega) (by omega)
                obtain ⟨σ', τ', D, a1, a2, a3, a4⟩ := leaf_truth h (htk (by omega)) hA c18
                have e82 : f_82 k σ = some ((), σ') := by
                  unfold f_82
                  rw [zg_pos hkz, t82, if_neg (by decide), if_pos rfl, zb_of a1]
                refine ⟨σ', by rw [e75', zb_of e82], Or.inr ⟨fun _ => noOpen (by omega), τ', 3, ?_, Or.inl ⟨v, vLe.rf K0, Or.inr (Or.inr (Or.inl ⟨rfl, _, _, _, _, a3, a4⟩)), by omega⟩⟩⟩
                rw [q0]
                refine m170_0 ?_
                unfold f_171
                rw [hkm, hk6, if_neg (by omega), if_neg (by omega)]
                by_cases h18 : k = 18
                · rw [if_pos (by omega), zb_of a2]
                · rw [if_neg (by omega), if_pos (by omega), zb_of a2]
              · rw [if_neg c18] at t82
                by_cases c4 : k = 4
                · -- all
                  rw [if_pos c4] at t82
                  have hk10 : km k = 10 := by rw [c4]; rfl
                  have e82 : f_82 k σ = zb (f_77 k σ) (fun _ s5 => some ((), s5)) := by
                    unfold f_82
                    rw [zg_pos hkz, t82, if_neg (by decide), if_neg (by decide), if_pos rfl]
                  refine binder _ 62 0 (Or.inl (by omega)) (fun _ => hA) (by rw [if_neg c39]) (by rw [if_neg c39]; omega) (by
                    rw [e75', e82]
                    cases hf : f_77 k σ with
                    | none => rfl
                    | some x => rfl) τ (zfr_rf _ _) hpm (fun τ' h158 => ?_)
                  rw [q0]
                  refine m170_0 ?_
                  unfold f_171 j_171_82
                  rw [hkm, hk10, if_neg (by decide), if_neg (by decide), if_neg (by decide), if_neg (by decide), if_neg (by decide), if_neg (by decide), if_pos rfl]
                  unfold j_171_103
                  rw [hkm, hk10, show (10 : Int) - 10 = 0 from rfl, zb_of h158]
                · rw [if_neg c4] at t82
                  by_cases c5 : 5 ≤ k ∧ k ≤ 8
                  · -- some, no, lone, one
                    rw [if_pos c5] at t82
                    have hk6 : km k = k + 6 := km_lo (by omega) (by omega)
                    have e69 := c_isBinderNext hB hCT hcc cur0 curl
                    obtain ⟨τ1, m1, m2, m3, m4⟩ := m_beginsLine hB hMT hmc cur0 curl
                    have z1 : zfr 10917387003232704608371080719052805586377350962842863135268915759251170808785374795258817452183700893722888499109428067204505534464 τ τ1 := zfr_sub rfl (fr_173 m1)
                    have hbz : zR (bnx B l cur) ∧ (bnx B l cur = 0 ∨ bnx B l cur = 1) := by
                      unfold bnx
                      split
                      · exact ⟨by decide, Or.inr rfl⟩
                      · exact ⟨by decide, Or.inl rfl⟩
                    have e82 : f_82 k σ = if bnx B l cur = 0 then (zb (f_76 k σ) (fun _ s21 => some ((), s21))) else (zb (f_77 k σ) (fun _ s24 => some ((), s24))) := by
                      unfold f_82
                      rw [zg_pos hkz, t82, if_neg (by decide), if_neg (by decide), if_neg (by decide), if_pos rfl, zo_of e69, zg_pos hbz.1]
                    have e171 : f_171 τ = if bnx B l cur = 0 then j_171_118 1 τ1 else j_171_103 τ1 := by
                      unfold f_171 j_171_82
                      rw [hkm, hk6, if_neg (by omega), if_neg (by omega), if_neg (by omega), if_neg (by omega), if_neg (by omega), if_neg (by omega), if_neg (by omega), zg_pos (by decide), if_neg (by decide), zb_of m1, zg_pos hbz.1]
                    rcases hbz.2 with hb0 | hb0
                    · rw [if_pos hb0] at e82 e171
                      refine prefixed _ 106 (k - 4) (Or.inr ⟨by omega, hA⟩) (by rw [if_pos c5]) (fun _ _ => rfl) ⟨by omega, by omega⟩ (by
                        rw [e75', e82]
                        cases hf : f_76 k σ with
                        | none => rfl
                        | some x => rfl) τ1 1 z1 (by rw [m4]; exact hpm) (fun τ' h158 => ?_) (by rw [if_neg (by omega)])
                      rw [q0]
                      refine m170_0 ?_
                      rw [e171]
                      unfold j_171_118
                      rw [zg_pos (by decide), if_neg (by decide), m3, hkm, hk6, show k + 6 - 10 = k - 4 by omega, zb_of h158]
                    · rw [if_neg (by omega)] at e82 e171
                      refine binder _ 62 (k - 4) (Or.inl (by omega)) (fun _ => hA) (by rw [if_neg c39]) (by rw [if_neg c39]) (by
                        rw [e75', e82]
                        cases hf : f_77 k σ with
                        | none => rfl
                        | some x => rfl) τ1 z1 (by rw [m4]; exact hpm) (fun τ' h158 => ?_)
                      rw [q0]
                      refine m170_0 ?_
                      rw [e171]
                      unfold j_171_103
                      rw [m3, hkm, hk6, show k + 6 - 10 = k - 4 by omega, zb_of h158]
                  · rw [if_neg c5] at t82
                    have e82 : f_82 k σ = some ((), σr) := by
                      unfold f_82
                      rw [zg_pos hkz, t82, if_neg (by decide), if_neg (by decide), if_neg (by decide), if_neg (by decide), if_pos rfl, zb_of rf1]
                    exact ⟨σr, by rw [e75', zb_of e82], Or.inr ⟨fun _ => noOpen (by omega), τ, 103, m170 hq hkm k0 k42 (Or.inl (by omega)) hn174, OUT.refuse rf2 rf3⟩⟩
          · have q1 : q = 1 := by
              rcases hq with e | e
              · exact absurd (hqA.mp e) hA
              · exact e
            have e75' := e75 0 (w2 hA) (by decide)
            rw [if_pos rfl] at e75'
            exact ⟨σr, by rw [e75', zb_of rf1], Or.inr ⟨fun _ => noOpen (by omega), τ, 103, m170 hq hkm k0 k42 (Or.inr q1) hn174, OUT.refuse rf2 rf3⟩⟩
end TURN
