/-! BOTH PARSERS: a token behind a formula. -/
theorem kt_link : ∀ k : Fin 43, f_168 (km (k.val : Int)) = some (if 10 ≤ (k.val : Int) ∧ (k.val : Int) ≤ 13 then 1 else 0) := by decide +kernel
theorem kt_joint : ∀ k : Fin 43, f_167 (km (k.val : Int)) = some (if 20 ≤ (k.val : Int) ∧ (k.val : Int) ≤ 27 then 1 else 0) := by decide +kernel
theorem kt_lvl : ∀ k : Fin 43, f_166 (km (k.val : Int)) = some (if 20 ≤ (k.val : Int) ∧ (k.val : Int) ≤ 30 then stg (k.val : Int) + 4 else if 9 ≤ (k.val : Int) ∧ (k.val : Int) ≤ 13 then stg (k.val : Int) else 0) := by decide +kernel
theorem kt_all {k : Int} (k0 : 0 ≤ k) (k42 : k ≤ 42) : f_168 (km k) = some (if 10 ≤ k ∧ k ≤ 13 then 1 else 0) ∧ f_167 (km k) = some (if 20 ≤ k ∧ k ≤ 27 then 1 else 0) ∧ f_166 (km k) = some (if 20 ≤ k ∧ k ≤ 30 then stg k + 4 else if 9 ≤ k ∧ k ≤ 13 then stg k else 0) := by
  have h1 := kt_link ⟨k.toNat, by omega⟩
  have h2 := kt_joint ⟨k.toNat, by omega⟩
  have h3 := kt_lvl ⟨k.toNat, by omega⟩
  dsimp only at h1 h2 h3
  rw [show ((k.toNat : Nat) : Int) = k by omega] at h1 h2 h3
  exact ⟨h1, h2, h3⟩
theorem km_inj {k : Int} {m : Int} (k0 : 0 ≤ k) (k42 : k ≤ 42) (hm : 20 ≤ m) (hm2 : m ≤ 42) : km k = m + 10 ↔ k = m := by
  unfold km
  repeat' split
  all_goals omega
theorem km_0 {k : Int} (k0 : 0 ≤ k) : km k = 0 ↔ k = 0 := by
  unfold km
  repeat' split
  all_goals omega
/-- where both stand before a token -/
def JX (q : Int) (σ τ : zS) (c : Nat) (fm : Int) (v : Wd) (tk : Int) : Prop :=
  ((q = 0 ∨ q = 1) ∧ ∃ S len len', JA σ τ c fm v S len len' tk ∧ gI σ 10 4 = 0 ∧ (q = 0 ↔ AW fm S)) ∨
  (q = 2 ∧ ∃ S len len' r D, JB σ τ c fm v S len len' r D tk ∧ 1 ≤ r ∧ gI σ 10 4 = 4) ∨
  (q = 3 ∧ ∃ S len len' D, JB σ τ c fm v S len len' 0 D tk ∧ gI σ 10 4 = 4) ∨
  (q = 4 ∧ ∃ k pl S len len', JN σ τ c fm v k pl S len len' tk ∧ gI σ 10 4 = 1) ∨
  (q = 5 ∧ ∃ f S len len', JA σ τ c fm v (f :: S) len len' tk ∧ f.p = 1 ∧ gI σ 10 4 = 2) ∨
  (q = 6 ∧ ∃ S len len' sg, JS σ τ c fm v S len len' sg tk ∧ gI σ 10 4 = 3)
/-- the whole text was read -/
def JF (σ τ : zS) (c : Nat) (fm : Int) (v : Wd) : Prop := ∃ len len' r D, Sg (vv v []) (cdo σ c) (rco τ) 0 0 0 len 0 len' r D ∧ (gI σ c 0 = len ∧ gI σ c 8 = v.K ∧ len ≤ 200) ∧ (0 ≤ v.K ∧ v.K ≤ 40) ∧ (gI τ 177 41 = len' ∧ len' ≤ 200) ∧ (r = 0 → fm = 1) ∧ (1 ≤ r → fm ≠ 1 ∧ gI τ 195 0 = r)
/-- what comes of a token of kind k at pl -/
def OUT (k pl q : Int) (σ τ : zS) (c : Nat) (fm : Int) (v : Wd) (tk : Int) : Prop :=
  (∃ v', vLe v v' ∧ JX q σ τ c fm v' (tk + 1) ∧ k ≠ 0) ∨
  (∃ F, 3 ≤ F ∧ F ≤ 7 ∧ F ≠ 6 ∧ q = 100 + F ∧ gI σ 10 15 = (if F = 3 ∧ k = 0 then 2 else F) ∧ gI σ 10 16 = (if F = 5 then gI τ 177 5 else pl)) ∨
  (q = 100 ∧ k = 0 ∧ gI σ 10 5 = 1 ∧ gI σ 10 15 = 0 ∧ ∃ v', vLe v v' ∧ JF σ τ c fm v')
section TURN
variable {σ τ : zS} {c : Nat} {fm : Int} {v : Wd} {S : List Fr} {len len' r tk pl k i : Int} {D : Dn}
theorem OUT.refuse {σ' τ' : zS} (h15 : gI σ' 10 15 = (if k = 0 then 2 else 3)) (h16 : gI σ' 10 16 = pl) : OUT k pl 103 σ' τ' c fm v tk := by
  refine Or.inr (Or.inl ⟨3, by decide, by decide, by decide, by decide, ?_, by rw [if_neg (by decide)]; exact h16⟩)
  rw [h15]
  by_cases h0 : k = 0
  · rw [if_pos h0, if_pos ⟨rfl, h0⟩]
  · rw [if_neg h0, if_neg (fun h => h0 h.2)]
theorem c_turnStop (h : PC σ c fm v.K S len) (hF : SFr v (cdo σ c) (rco τ) fm S) (hr : gI σ 10 6 = r) (k0 : 0 ≤ k) (k42 : k ≤ 42) (i0 : 0 ≤ i) (i1 : i + S.length ≤ 20) (hE : ∀ f S2, S = f :: S2 → ¬ EN k r f) : b_87_2 k i σ = some (.inr σ) := by
  unfold b_87_2
  rw [zg_pos ⟨by omega, by omega⟩]
  by_cases hi : i < 20
  · have h88 : f_88 k σ = some 0 := by
      cases S with
      | nil => exact c_ends0 h
      | cons f S2 => exact (c_ends h hF hr k0 k42).2 (hE f S2 rfl)
    rw [if_pos hi, if_pos h.2.2.1.1, zo_of h88, zg_pos (by decide), if_pos rfl]
  · rw [if_neg hi]
/-- f_98: at the end of all -/
theorem c_atEnd (h : PC σ c fm v.K S len) (hF : SFr v (cdo σ c) (rco τ) fm S) (hr : gI σ 10 6 = r) (hk : gI σ 8 4 = k) (hpl : gI σ 8 5 = pl) : ((r ≠ 0 ∧ AW fm S) → ∃ σ', f_98 k σ = some ((), σ') ∧ gI σ' 10 15 = (if k = 0 then 2 else 3) ∧ gI σ' 10 16 = pl) ∧ (¬ (r ≠ 0 ∧ AW fm S) → k = 0 → f_98 k σ = some ((), sI σ 10 5 1)) ∧ (¬ (r ≠ 0 ∧ AW fm S) → k ≠ 0 → ∃ σ', f_98 k σ = some ((), σ') ∧ gI σ' 10 15 = 7 ∧ gI σ' 10 16 = pl) := by
  obtain ⟨l1, l2⟩ := c_lacks h hF hr
  have hkz : zR k := by rw [← hk]; exact zR_gI _ _ _
  have hpz : zR pl := by rw [← hpl]; exact zR_gI _ _ _
  refine ⟨fun hl => ?_, fun hl h0 => ?_, fun hl h0 => ?_⟩
  · obtain ⟨σ', a1, a2, a3⟩ := c_refuseToken hk hpl
    refine ⟨σ', ?_, a2, a3⟩
    unfold f_98
    rw [zo_of (l1 hl), zg_pos (by decide), if_neg (by decide), zb_of a1]
  · unfold f_98
    rw [zo_of (l2 hl), zg_pos (by decide), if_pos rfl, zg_pos hkz, if_pos h0]
  · obtain ⟨σ', a1, a2, a3⟩ := c_refuse (σ := σ) (why := 7) (by decide) hpz
    refine ⟨σ', ?_, a2, a3⟩
    unfold f_98
    rw [zo_of (l2 hl), zg_pos (by decide), if_pos rfl, zg_pos hkz, if_neg h0, hpl, zb_of a1]
/-- done: what was read is there -/
theorem JB.done (h : JB σ τ c fm v [] len len' r D tk) (hA : r = 0 ∨ fm ≠ 1) : JF (sI σ 10 5 1) τ c fm v := by
  obtain ⟨g1, g2, g3, g4, g5, g6, g7, g8, g9⟩ := h
  have hb := g1.c29
  have hr := g4.r_b
  have hcd : cdo (sI σ 10 5 1) c = cdo σ c := cdo_eq (fun j _ _ k => gI_nc (by omega))
  refine ⟨len, len', r, D, ?_, ⟨?_, ?_, ?_⟩, g9, ⟨g2.2.2.2.1, ?_⟩, fun h0 => (g6 h0).1, fun h1 => ⟨?_, (g7 h1).2⟩⟩
  · rw [hcd]; exact g4
  · rw [gI_nc (by omega)]; exact g1.2.2.2.2.2.1.1
  · rw [gI_nc (by omega)]; exact g1.2.2.2.2.2.2
  · have : len + 0 ≤ tk := g8.1
    have := g8.2.2
    omega
  · have : len' + 0 ≤ tk := g8.2.1
    have := g8.2.2
    omega
  · rcases hA with hA | hA
    · omega
    · exact hA
theorem vLe.tr {v1 v2 v3 : Wd} (h : vLe v1 v2) (h' : vLe v2 v3) : vLe v1 v3 := by
  obtain ⟨u1, u2, u3, u4, u5, u6⟩ := h
  obtain ⟨w1, w2, w3, w4, w5, w6⟩ := h'
  refine ⟨w1.trans u1, w2.trans u2, w3.trans u3, u4, by omega, fun x x0 x1 => ?_⟩
  obtain ⟨p1, p2⟩ := u6 x x0 x1
  obtain ⟨q1, q2⟩ := w6 x x0 (by omega)
  exact ⟨q1.trans p1, q2.trans p2⟩
/-- the least level that a link ends -/
abbrev lst (k : Int) : Int := if k = 12 then 3 else stg k
/-- a link behind a formula -/
theorem s3_link (h : JB σ τ c fm v S len len' 0 D tk) (i0 : 0 ≤ i) (i1 : i + S.length ≤ 20) (hk : 10 ≤ k ∧ k ≤ 13) (htk : tk < 200) (hkc : gI σ 8 4 = k) (hpc : gI σ 8 5 = pl) (hkm : gI τ 177 27 = km k) (hpm : gI τ 177 28 = pl) : ∃ σ0 i' σ', zrch (fun (q : Int × zS) => b_87_2 k q.1 q.2) 21 (i, σ) (i', σ0) ∧ b_87_2 k i' σ0 = some (.inr σ0) ∧ j_87_33 k σ0 = some ((), σ') ∧ ((S.length = 20 ∧ (∀ f S2, S = f :: S2 → ¬ (isK f ∧ (f.k = 9 ∨ lst k ≤ stg f.k))) ∧ gI σ' 10 15 = 6 ∧ gI σ' 10 16 = pl) ∨ ((S.length < 20 ∨ ∃ f S2, S = f :: S2 ∧ (isK f ∧ (f.k = 9 ∨ lst k ≤ stg f.k))) ∧ ∃ τ' q', f_183 τ = some (q', τ') ∧ OUT k pl q' σ' τ' c fm v tk)) := by
  have hF := zF_big
  have hl20 := h.1.2.2.2.1.2
  have hsk : 1 ≤ stg k ∧ stg k ≤ 4 ∧ (k = 12 ↔ stg k = 2) := by
    have : k = 10 ∨ k = 11 ∨ k = 12 ∨ k = 13 := by omega
    rcases this with e | e | e | e <;> rw [e] <;> decide
  have hjs : js k 0 = stg k := by unfold js; rw [if_pos hk]
  have hlz : zR (lst k) := by
    show zR (if k = 12 then 3 else stg k)
    split <;> exact ⟨by omega, by omega⟩
  have hle : ∀ f : Fr, isK f → (EN k 0 f ↔ (f.k = 9 ∨ lst k ≤ stg f.k)) := by
    intro f hK
    have hst : (f.k = 9 → stg f.k = 5) ∧ 1 ≤ stg f.k ∧ (f.k = 12 ↔ stg f.k = 2) := by
      have : f.k = 9 ∨ f.k = 10 ∨ f.k = 11 ∨ f.k = 12 ∨ f.k = 13 := by have := hK.2; omega
      rcases this with e | e | e | e | e <;> rw [e] <;> decide
    have hl : lst k = if k = 12 then 3 else stg k := rfl
    constructor
    · intro hE
      rcases hE.2.2.2 hK.1 with h | h
      · rw [hjs] at h
        right
        rw [hl]
        split <;> omega
      · rw [hjs] at h
        right
        rw [hl]
        split <;> omega
    · intro hE
      refine ⟨fun h => h.1 rfl, by have := hK.1; omega, fun h => by have := hK.1; omega, fun _ => ?_⟩
      rw [hjs]
      rcases hE with hE | hE
      · have := hst.1 hE
        left; omega
      · rw [hl] at hE
        by_cases h12 : k = 12
        · rw [if_pos h12] at hE
          have := hsk.2.2.mp h12
          left; omega
        · rw [if_neg h12] at hE
          by_cases hlt : stg k < stg f.k
          · exact Or.inl hlt
          · right
            refine ⟨by omega, by omega, fun hf => ?_⟩
            have := hst.2.2.mp hf
            exact h12 (hsk.2.2.mpr (by omega))
  obtain ⟨S', σ0, τ0, i', l1, l1', D1, a1, a2, a3, a4, a5, a6, a7, a8, a9, a10⟩ := phaseC (k := k) (tk := tk) (by omega) (by omega) hlz hle S σ τ i len len' D h i0 i1
  have hstop : b_87_2 k i' σ0 = some (.inr σ0) := by
    refine c_turnStop a4.1 a4.2.2.1 a4.2.2.2.2.1 (by omega) (by omega) a5.1 a5.2 (fun f S2 e hE => ?_)
    have hA : AW fm (f :: S2) := by rw [← e]; exact (a4.2.2.2.2.2.1 rfl).1
    have hA' : f.p = 2 ∨ (f.p = 0 ∧ (9 ≤ f.k ∧ f.k ≤ 13 ∨ f.k = 37)) := hA
    rcases hA' with hp | ⟨hp, hk' | hk'⟩
    · have := (hE.2.2.1 hp).2
      omega
    · exact a8 f S2 e ⟨⟨hp, hk'⟩, (hle f ⟨hp, hk'⟩).mp hE⟩
    · have hs37 : stg f.k = 0 := by rw [hk']; decide
      rcases hE.2.2.2 hp with h | h <;> omega
  have k8 : gI σ0 8 4 = k := by rw [a6.i rfl]; exact hkc
  have p8 : gI σ0 8 5 = pl := by rw [a6.i rfl]; exact hpc
  have km8 : gI τ0 177 27 = km k := by rw [a7.i rfl]; exact hkm
  have pm8 : gI τ0 177 28 = pl := by rw [a7.i rfl]; exact hpm
  have hMJ : MJ k 0 fm S' := ⟨by omega, fun _ => rfl, fun h => by omega⟩
  have e97 := (c_mayJoin a4.1 a4.2.2.1 a4.2.2.2.2.1 (k := k) (by omega) (by omega)).1 hMJ
  have h15 := a4.1.2.2.1.1
  obtain ⟨kl, kj, kv⟩ := kt_all (k := k) (by omega) (by omega)
  rw [if_pos hk] at kl
  rw [if_neg (by omega), if_pos (by omega)] at kv
  have hkm6 : km k = k + 6 := km_lo (by omega) (by omega)
  have e184 : f_184 (lst k) τ = some ((), τ0) := by
    unfold f_184
    rw [zo_of (a2.ends (n := zF) a3 (by omega))]
  have e183 : ∀ τ', f_158 (k + 6) 0 τ0 = some ((), τ') → f_183 τ = some (0, τ') := by
    intro τ' h158
    have e31 : j_183_31 (lst k) τ = some (0, τ') := by
      unfold j_183_31
      rw [zb_of e184, km8, hkm6, zb_of h158]
    unfold f_183
    rw [hkm, zo_of kl, zg_pos (by decide), if_neg (by decide)]
    have hl : lst k = if k = 12 then 3 else stg k := rfl
    by_cases h12 : k = 12
    · rw [if_pos (by omega)]
      rw [hl, if_pos h12] at e31
      exact e31
    · rw [if_neg (by omega), zo_of kv]
      rw [hl, if_neg h12] at e31
      exact e31
  by_cases hfull : S'.length = 20
  · have hSS : S' = S := by
      rcases a9 with e | e
      · exact e
      · omega
    obtain ⟨σ', b1, b2, b3⟩ := c_openFull (k := k) a4.1 hfull p8
    refine ⟨σ0, i', σ', a1.le (by omega), hstop, ?_, Or.inl ⟨by rw [← hSS]; exact hfull, fun f S2 e => a8 f S2 (by rw [hSS]; exact e), b2, b3⟩⟩
    unfold j_87_33
    rw [if_pos h15, zo_of e97, zg_pos (by decide), if_neg (by decide), zb_of b1]
  · have hl20' := a4.1.2.2.2.1.2
    have hnf : S.length < 20 ∨ ∃ f S2, S = f :: S2 ∧ (isK f ∧ (f.k = 9 ∨ lst k ≤ stg f.k)) := by
      by_cases hS : S.length < 20
      · exact Or.inl hS
      · right
        cases S with
        | nil => exact absurd (show (0 : Nat) < 20 by decide) hS
        | cons f S2 =>
          refine ⟨f, S2, rfl, ?_⟩
          by_cases hc : isK f ∧ (f.k = 9 ∨ lst k ≤ stg f.k)
          · exact hc
          · exfalso
            have e := a10 f S2 rfl hc
            rw [e] at hfull
            omega
    by_cases h13 : k = 13
    · obtain ⟨σ', τ', f, b1, b2, b3, b4, b5, b6⟩ := opened_iff a4 (by omega) htk p8 pm8
      refine ⟨σ0, i', σ', a1.le (by omega), hstop, ?_, Or.inr ⟨hnf, τ', 0, e183 τ' (by rw [h13]; exact b2), Or.inl ⟨v, vLe.rf h.2.2.2.2.2.2.2.2.1, Or.inl ⟨Or.inl rfl, _, _, _, b3, b4, fun _ => Or.inr ⟨b6, Or.inl (by omega)⟩, fun _ => rfl⟩, by omega⟩⟩⟩
      unfold j_87_33
      rw [if_pos h15, zo_of e97, zg_pos (by decide), if_neg (by decide), h13, zb_of b1]
    · obtain ⟨σ', τ', f, b1, b2, b3, b4, b5, b6⟩ := opened_link a4 (by omega) htk p8 pm8 (k := k) (by omega)
      refine ⟨σ0, i', σ', a1.le (by omega), hstop, ?_, Or.inr ⟨hnf, τ', 0, e183 τ' b2, Or.inl ⟨v, vLe.rf h.2.2.2.2.2.2.2.2.1, Or.inl ⟨Or.inl rfl, _, _, _, b3, b4, fun _ => Or.inr ⟨b6, Or.inl (by omega)⟩, fun _ => rfl⟩, by omega⟩⟩⟩
      unfold j_87_33
      rw [if_pos h15, zo_of e97, zg_pos (by decide), if_neg (by decide), zb_of b1]
end TURN
