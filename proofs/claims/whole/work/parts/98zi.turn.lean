/-! BOTH PARSERS: a token, in every state. -/
section TURN
variable {σ τ : zS} {c : Nat} {fm : Int} {v : Wd} {S : List Fr} {len len' r tk pl k q sg : Int} {D : Dn} {w : BitVec 64} {nm : Int → BitVec 64} {B : Int → Int} {l cur x : Int}
theorem t3 (h : JB σ τ c fm v S len len' 0 D tk) (h4 : gI σ 10 4 = 4) (k0 : 0 ≤ k) (k42 : k ≤ 42) (htk : k ≠ 0 → tk < 200) (hkc : gI σ 8 4 = k) (hpc : gI σ 8 5 = pl) (hkm : gI τ 177 27 = km k) (hpm : gI τ 177 28 = pl) : TR 3 k pl τ (f_87 k σ) c fm v tk := by
  have hF := zF_big
  have hl20 := h.1.2.2.2.1.2
  obtain ⟨x, e165, hx01, hx⟩ := opens_3 h.2.1 h.2.2.1 hkm k0 k42
  have e170 : ∀ τ' q', f_183 τ = some (q', τ') → f_170 3 τ = some (q', τ') := by
    intro τ' q' h183
    unfold f_170
    rw [zg_pos (by decide), show t_170_1 3 = 47 from rfl, if_neg (by decide), if_neg (by decide), if_neg (by decide), if_pos rfl, zb_of h183]
  have e87 : ∀ (n : Nat) (i' : Int) (σ0 σ' : zS), zrch (fun (q : Int × zS) => b_87_2 k q.1 q.2) n (0, σ) (i', σ0) → n ≤ 1000 → b_87_2 k i' σ0 = some (.inr σ0) → j_87_33 k σ0 = some ((), σ') → f_87 k σ = some ((), σ') := by
    intro n i' σ0 σ' h1 hn h2 h3
    unfold f_87
    rw [zo_of (h1.ends (n := zF) h2 (by omega)), h3]
  by_cases hL : 10 ≤ k ∧ k ≤ 13
  · obtain ⟨σ0, i', σ', d1, d2, d3, d4⟩ := s3_link (pl := pl) h (i := 0) (by decide) (by omega) hL (htk (by omega)) hkc hpc hkm hpm
    refine ⟨σ', e87 _ _ _ _ d1 (by omega) d2 d3, ?_⟩
    rcases d4 with ⟨d4, d5, d6, d7⟩ | ⟨d4, τ', q', d5, d6⟩
    · left
      refine ⟨by omega, ?_, d6, d7⟩
      rw [e165, hx.mpr ⟨hL, d4, d5⟩]
    · right
      refine ⟨fun _ => ?_, τ', q', e170 _ _ d5, d6⟩
      have : x ≠ 1 := fun h1 => by
        obtain ⟨-, y1, y2⟩ := hx.mp h1
        rcases d4 with d4 | ⟨f, S2, e, d4⟩
        · omega
        · exact y2 f S2 e d4
      rw [e165, hx01.resolve_right this]
  · obtain ⟨σ0, i', σ', τ', q', d1, d2, d3, d5, d6⟩ := s3_other (pl := pl) h h4 (i := 0) (by decide) (by omega) k0 k42 hL htk hkc hpc hkm
    refine ⟨σ', e87 _ _ _ _ d1 (by omega) d2 d3, Or.inr ⟨fun _ => ?_, τ', q', e170 _ _ d5, d6⟩⟩
    have : x ≠ 1 := fun h1 => hL (hx.mp h1).1
    rw [e165, hx01.resolve_right this]
theorem t2 (h : JB σ τ c fm v S len len' r D tk) (hr : 1 ≤ r) (h4 : gI σ 10 4 = 4) (k0 : 0 ≤ k) (k42 : k ≤ 42) (htk : k ≠ 0 → tk < 200) (hkc : gI σ 8 4 = k) (hpc : gI σ 8 5 = pl) (hkm : gI τ 177 27 = km k) (hpm : gI τ 177 28 = pl) : TR 2 k pl τ (f_87 k σ) c fm v tk := by
  have hF := zF_big
  have hl20 := h.1.2.2.2.1.2
  have e170 : ∀ τ' q', f_176 τ = some (q', τ') → f_170 2 τ = some (q', τ') := by
    intro τ' q' h176
    unfold f_170
    rw [zg_pos (by decide), show t_170_1 2 = 42 from rfl, if_neg (by decide), if_neg (by decide), if_pos rfl, zb_of h176]
  by_cases hJ : 20 ≤ k ∧ k ≤ 27
  · obtain ⟨x, e165, hx01, hx⟩ := opens_joint h.2.1 h.2.2.1 hkm hJ
    obtain ⟨σ', d1, d4⟩ := s2_joint (pl := pl) h hr hJ (htk (by omega)) hkc hpc hkm hpm
    refine ⟨σ', d1, ?_⟩
    rcases d4 with ⟨d4, d5, d6, d7⟩ | ⟨d4, τ', q', d5, d6⟩
    · left
      refine ⟨by omega, ?_, d6, d7⟩
      rw [e165, hx.mpr ⟨d4, d5⟩]
    · right
      refine ⟨fun _ => ?_, τ', q', e170 _ _ d5, d6⟩
      have : x ≠ 1 := fun h1 => by
        obtain ⟨y1, y2⟩ := hx.mp h1
        rcases d4 with d4 | ⟨f, S2, e, d4⟩
        · omega
        · exact y2 f S2 e d4
      rw [e165, hx01.resolve_right this]
  · obtain ⟨x, e165, hx01, hx⟩ := opens_2 h.2.1 h.2.2.1 hkm k0 k42 hJ
    have e87 : ∀ (n : Nat) (i' : Int) (σ0 σ' : zS), zrch (fun (q : Int × zS) => b_87_2 k q.1 q.2) n (0, σ) (i', σ0) → n ≤ 1000 → b_87_2 k i' σ0 = some (.inr σ0) → j_87_33 k σ0 = some ((), σ') → f_87 k σ = some ((), σ') := by
      intro n i' σ0 σ' h1 hn h2 h3
      unfold f_87
      rw [zo_of (h1.ends (n := zF) h2 (by omega)), h3]
    have hle : ∀ (f : Fr) (r : Int), isJ f ∨ isP f → 1 ≤ r → (js k r ≤ stg f.k ↔ (11 : Int) ≤ stg f.k + 4) := by
      intro f r hJP hr
      have h7 := stg_JP hJP
      have := js_le (r := r) hJ
      omega
    obtain ⟨kl, kj, kv⟩ := kt_all k0 k42
    rw [if_neg hJ] at kj
    rcases phaseA (k := k) (tk := tk) (c := c) (fm := fm) (v := v) (least := 11) k0 k42 (by decide) (by decide) hle S σ τ 0 len len' r D h hr (by decide) (by omega) with ⟨σ', τ1, τ', i', P, a1, a2, a3, a4, a5, a6, a7⟩ | ⟨S', σ0, τ0, i', l1, l1', r1, D1, a1, a2, a3, a4, a5, a6, a7, a8, a9, a10, a11⟩
    · obtain ⟨b1, b2⟩ := c_rowRefused (k := k) (i := i') (σ := σ') a2.1 a2.2 (by omega)
      have e177 : f_177 11 τ = some (5, τ') := by
        unfold f_177
        rw [zo_of (a4.ends (n := zF) a5 (by omega))]
        rfl
      have e181 : f_181 τ = some (5, τ') := by
        unfold f_181
        rw [zb_of e177, zg_pos (by decide), if_pos (by decide)]
      have e176 : f_176 τ = some (105, τ') := by
        unfold f_176
        rw [hkm, zo_of kj, zg_pos (by decide), if_pos rfl, zb_of e181, zg_pos (by decide), if_pos (by decide)]
        rfl
      refine ⟨σ', e87 _ _ _ _ a1 (by omega) b1 b2, Or.inr ⟨fun _ => ?_, τ', 105, e170 _ _ e176, Or.inr (Or.inl ⟨5, by decide, by decide, by decide, by decide, by rw [a3.1, if_neg (by omega)], by rw [if_pos rfl, a6]; exact a3.2⟩)⟩⟩
      have : x ≠ 1 := fun h1 => by
        obtain ⟨-, -, hA⟩ := hx.mp h1
        -- the row of joints was not empty
        cases S with
        | nil =>
          have hst := m_joint0 (least := 11) h.2.1 (by decide) (by decide)
          obtain ⟨m, hm, e⟩ := a4
          cases m with
          | zero =>
            have := e 1
            rw [Nat.add_zero, zlp_r hst, zlp_r a5] at this
            injection this with this
            cases this
          | succ m =>
            have := e 1
            rw [show 1 + (m + 1) = (m + 1) + 1 by omega, zlp_r hst, zlp_r a5] at this
            injection this with this
            cases this
        | cons f S2 =>
          have hA' : f.p = 2 ∨ (f.p = 0 ∧ (9 ≤ f.k ∧ f.k ≤ 13 ∨ f.k = 37)) := hA
          have hst := m_jointStop (least := 11) h.2.1 h.2.2.1.2.ok (by decide) (by decide) (fun hh => by have := isJP_iff.mp hh.1; omega)
          obtain ⟨m, hm, e⟩ := a4
          cases m with
          | zero =>
            have := e 1
            rw [Nat.add_zero, zlp_r hst, zlp_r a5] at this
            injection this with this
            cases this
          | succ m =>
            have := e 1
            rw [show 1 + (m + 1) = (m + 1) + 1 by omega, zlp_r hst, zlp_r a5] at this
            injection this with this
            cases this
      rw [e165, hx01.resolve_right this]
    · have e177 : f_177 11 τ = some (0, τ0) := by
        unfold f_177
        rw [zo_of (a2.ends (n := zF) a3 (by omega))]
        rfl
      have hAS : AW fm S → S' = S := by
        intro hA
        cases S with
        | nil =>
          rcases a10 with e | e
          · exact e
          · exact absurd e (by show ¬ S'.length < 0; omega)
        | cons f S2 =>
          refine a11 f S2 rfl (fun hh => ?_)
          have hj := isJP_iff.mp hh.1
          have hA' : f.p = 2 ∨ (f.p = 0 ∧ (9 ≤ f.k ∧ f.k ≤ 13 ∨ f.k = 37)) := hA
          omega
      obtain ⟨σ1, i1, σ', d1, d2, d3, d4⟩ := s2_rest (pl := pl) a4 a5 (by rw [a7.i rfl]; exact h4) a6.1 a6.2 (fun f S2 e hJP => a9 f S2 e ⟨hJP, by have := stg_JP hJP; omega⟩) k0 k42 hJ htk (by rw [a7.i rfl]; exact hkc) (by rw [a7.i rfl]; exact hpc) (by rw [a8.i rfl]; exact hkm) (by rw [a8.i rfl]; exact hpm) τ hkm e177
      refine ⟨σ', e87 _ _ _ _ (a1.tr d1) (by omega) d2 d3, ?_⟩
      rcases d4 with ⟨d4, d5, d6, d7, d8⟩ | ⟨d4, τ', q', d5, d6⟩
      · left
        have hSS : S' = S := by
          rcases a10 with e | e
          · exact e
          · omega
        refine ⟨by omega, ?_, d7, d8⟩
        rw [e165, hx.mpr ⟨by rw [← hSS]; exact d4, d5, by rw [← hSS]; exact d6⟩]
      · right
        refine ⟨fun _ => ?_, τ', q', e170 _ _ d5, d6⟩
        have : x ≠ 1 := fun h1 => by
          obtain ⟨y1, y2, y3⟩ := hx.mp h1
          have := hAS y3
          apply d4
          rw [this]
          exact ⟨y1, y2, y3⟩
        rw [e165, hx01.resolve_right this]
theorem m170_4 {y : Int} {τ' : zS} (hq : 4 ≤ q) (hq6 : q ≤ 6) (h : f_188 q τ = some (y, τ')) : f_170 q τ = some (y, τ') := by
  have : t_170_1 q = 52 := by
    unfold t_170_1 zswt
    rw [if_pos (by omega)]
  unfold f_170
  rw [zg_pos ⟨by omega, by omega⟩, this, if_neg (by decide), if_neg (by decide), if_neg (by decide), if_neg (by decide), if_pos rfl, zb_of h]
theorem t4 {kb plb : Int} (h : JN σ τ c fm v kb plb S len len' tk) (k0 : 0 ≤ k) (k42 : k ≤ 42) (htk : k ≠ 0 → tk < 200) (hkc : gI σ 8 4 = k) (hpc : gI σ 8 5 = pl) (hkm : gI τ 177 27 = km k) (hwc : k = 2 → gJ σ 8 6 = w) (hwm : k = 2 → gJ τ 177 29 = w) : TR 4 k pl τ (f_84 k σ) c fm v tk := by
  have e165 := opens_4 (q := 4) (by decide) (by decide) hkm k0 k42
  have hkz : zR k := ⟨by omega, by omega⟩
  by_cases c2 : k = 2
  · have K0 : 0 ≤ v.K := by
      obtain ⟨w1, w2, r, D, g1, g2, g3, g4, g5, g6, g7⟩ := h
      exact g6.1
    obtain ⟨σ', τ', f, a1, a2, a3, a4, a5⟩ := bound_name (w := w) h (htk (by omega)) (hwc c2) (hwm c2) (by rw [hkm]; exact (km_1 k0).mpr c2)
    exact ⟨σ', by rw [c2]; exact a1, Or.inr ⟨fun _ => e165, τ', 5, m170_4 (by decide) (by decide) a2, Or.inl ⟨v, vLe.rf K0, Or.inr (Or.inr (Or.inr (Or.inr (Or.inl ⟨rfl, f, S, _, _, a3, a4, a5⟩)))), by omega⟩⟩⟩
  · obtain ⟨σ', a1, a2, a3⟩ := c_refuseToken (σ := σ) hkc hpc
    refine ⟨σ', ?_, Or.inr ⟨fun _ => e165, τ, 103, m170_4 (by decide) (by decide) ?_, OUT.refuse a2 a3⟩⟩
    · unfold f_84
      rw [zg_pos hkz, if_neg c2, zb_of a1]
    · unfold f_188 j_188_30 j_188_46
      rw [zg_pos (by decide), if_pos rfl, hkm, if_neg (fun h => c2 ((km_1 k0).mp h)), zg_pos (by decide), if_neg (by decide), zg_pos (by decide), if_neg (by decide)]
theorem t5 {f : Fr} (h : JA σ τ c fm v (f :: S) len len' tk) (hp : f.p = 1) (k0 : 0 ≤ k) (k42 : k ≤ 42) (htk : k ≠ 0 → tk < 200) (hkc : gI σ 8 4 = k) (hpc : gI σ 8 5 = pl) (hkm : gI τ 177 27 = km k) : TR 5 k pl τ (f_85 k σ) c fm v tk := by
  have e165 := opens_4 (q := 5) (by decide) (by decide) hkm k0 k42
  have hkz : zR k := ⟨by omega, by omega⟩
  by_cases c41 : k = 41
  · obtain ⟨g1, g2, g3, g4, g5, g6, g7, g8⟩ := h
    have hb := g1.c29
    have n : ∀ (x : Nat) (i : Int), x ≠ 10 → gI (sI σ 10 4 0) x i = gI σ x i := fun x i hx => gI_nc hx
    have hP : PC (sI σ 10 4 0) c fm v.K (f :: S) len := g1.keep rfl (gI_ni (by decide)) (gI_ni (by decide)) (gI_ni (by decide)) (gI_ni (by decide)) (fun i _ _ => ⟨n 11 i (by decide), n 12 i (by decide), n 13 i (by decide), n 14 i (by decide), n 15 i (by decide), gJ_sI⟩) (n c 0 (by omega)) (n c 8 (by omega))
    have hcd : cdo (sI σ 10 4 0) c = cdo σ c := cdo_eq (fun j _ _ k => n _ k (by omega))
    have htk' := htk (by omega)
    refine ⟨sI σ 10 4 0, ?_, Or.inr ⟨fun _ => e165, τ, 1, m170_4 (by decide) (by decide) ?_, Or.inl ⟨v, vLe.rf g7.1, Or.inl ⟨Or.inr rfl, f :: S, len, len', ⟨hP, g2, by rw [hcd]; exact g3, g4, g5, by omega, g7, g8⟩, gI_same (by decide), fun h => by omega, fun hA => ?_⟩, by omega⟩⟩⟩
    · unfold f_85
      rw [zg_pos hkz, if_pos c41]
    · unfold f_188 j_188_30
      rw [zg_pos (by decide), if_neg (by decide), zg_pos (by decide), if_pos rfl, hkm, if_pos ((km_51 k0).mpr c41)]
    · have hA' : f.p = 2 ∨ (f.p = 0 ∧ (9 ≤ f.k ∧ f.k ≤ 13 ∨ f.k = 37)) := hA
      omega
  · obtain ⟨σ', a1, a2, a3⟩ := c_refuseToken (σ := σ) hkc hpc
    refine ⟨σ', ?_, Or.inr ⟨fun _ => e165, τ, 103, m170_4 (by decide) (by decide) ?_, OUT.refuse a2 a3⟩⟩
    · unfold f_85
      rw [zg_pos hkz, if_neg c41, zb_of a1]
    · unfold f_188 j_188_30 j_188_46
      rw [zg_pos (by decide), if_neg (by decide), zg_pos (by decide), if_pos rfl, hkm, if_neg (fun h => c41 ((km_51 k0).mp h)), zg_pos (by decide), if_neg (by decide)]
theorem km_2 {k : Int} (h0 : 0 ≤ k) : km k = 2 ↔ k = 3 := by
  unfold km
  repeat' split
  all_goals omega
theorem t6 (h : JS σ τ c fm v S len len' sg tk) (k0 : 0 ≤ k) (k42 : k ≤ 42) (htk : k ≠ 0 → tk < 200) (hkc : gI σ 8 4 = k) (hpc : gI σ 8 5 = pl) (hkm : gI τ 177 27 = km k) (hxc : k = 3 → gI σ 8 7 = x) (hxm : k = 3 → gI τ 177 30 = x) (x0 : 0 ≤ x) (x1 : x < 1000) : TR 6 k pl τ (f_86 k σ) c fm v tk := by
  have e165 := opens_4 (q := 6) (by decide) (by decide) hkm k0 k42
  have hkz : zR k := ⟨by omega, by omega⟩
  by_cases c3 : k = 3
  · have K0 : 0 ≤ v.K := by
      obtain ⟨f, r, D, g1, g2, g3, g4, g5, g6, g7, g8, g9⟩ := h
      exact g9.1
    obtain ⟨σ', τ', D', a1, a2, a3, a4⟩ := numbered h (htk (by omega)) (hxc c3) (hxm c3) x0 x1 (by rw [hkm]; exact (km_2 k0).mpr c3)
    exact ⟨σ', by rw [c3]; exact a1, Or.inr ⟨fun _ => e165, τ', 3, m170_4 (by decide) (by decide) a2, Or.inl ⟨v, vLe.rf K0, Or.inr (Or.inr (Or.inl ⟨rfl, S, _, _, D', a3, a4⟩)), by omega⟩⟩⟩
  · obtain ⟨σ', a1, a2, a3⟩ := c_refuseToken (σ := σ) hkc hpc
    refine ⟨σ', ?_, Or.inr ⟨fun _ => e165, τ, 103, m170_4 (by decide) (by decide) ?_, OUT.refuse a2 a3⟩⟩
    · unfold f_86
      rw [zg_pos hkz, if_neg c3, zb_of a1]
    · unfold f_188 j_188_30 j_188_46
      rw [zg_pos (by decide), if_neg (by decide), zg_pos (by decide), if_neg (by decide), zg_pos (by decide), if_pos rfl, hkm, if_neg (fun h => c3 ((km_2 k0).mp h))]
/-- what the class does with a token: by what it awaits -/
def cTk (σ : zS) (k : Int) : Option (Unit × zS) := if gI σ 10 4 = 0 then f_75 k σ else if gI σ 10 4 = 1 then f_84 k σ else if gI σ 10 4 = 2 then f_85 k σ else if gI σ 10 4 = 3 then f_86 k σ else f_87 k σ
theorem turned (h : JX q σ τ c fm v tk) (hV : WV σ τ v nm) (hB : TB B l) (hCT : CT σ B l) (hMT : MT τ B l) (hcc : gI σ 8 2 = cur) (hmc : gI τ 177 26 = cur) (cur0 : 0 ≤ cur) (curl : cur ≤ l) (k0 : 0 ≤ k) (k42 : k ≤ 42) (htk : k ≠ 0 → tk < 200) (hkc : gI σ 8 4 = k) (hpc : gI σ 8 5 = pl) (hkm : gI τ 177 27 = km k) (hpm : gI τ 177 28 = pl) (hwc : k = 2 → gJ σ 8 6 = w) (hwm : k = 2 → gJ τ 177 29 = w) (hxc : k = 3 → gI σ 8 7 = x) (hxm : k = 3 → gI τ 177 30 = x) (x0 : 0 ≤ x) (x1 : x < 1000) : (0 ≤ q ∧ q ≤ 6) ∧ (0 ≤ gI σ 10 4 ∧ gI σ 10 4 ≤ 4) ∧ TR q k pl τ (cTk σ k) c fm v tk := by
  unfold cTk
  rcases h with ⟨h1, S, l1, l1', h2, h3, h4⟩ | ⟨h1, S, l1, l1', r, D, h2, h3, h4⟩ | ⟨h1, S, l1, l1', D, h2, h4⟩ | ⟨h1, kb, plb, S, l1, l1', h2, h4⟩ | ⟨h1, f, S, l1, l1', h2, h3, h4⟩ | ⟨h1, S, l1, l1', sg, h2, h4⟩
  · refine ⟨by omega, by omega, ?_⟩
    rw [if_pos h3]
    exact t01 h2 h1 h4 hV hB hCT hMT hcc hmc cur0 curl k0 k42 htk hkc hpc hkm hpm hwc hwm
  · refine ⟨by omega, by omega, ?_⟩
    rw [if_neg (by omega), if_neg (by omega), if_neg (by omega), if_neg (by omega), h1]
    exact t2 h2 h3 h4 k0 k42 htk hkc hpc hkm hpm
  · refine ⟨by omega, by omega, ?_⟩
    rw [if_neg (by omega), if_neg (by omega), if_neg (by omega), if_neg (by omega), h1]
    exact t3 h2 h4 k0 k42 htk hkc hpc hkm hpm
  · refine ⟨by omega, by omega, ?_⟩
    rw [if_neg (by omega), if_pos h4, h1]
    exact t4 h2 k0 k42 htk hkc hpc hkm hwc hwm
  · refine ⟨by omega, by omega, ?_⟩
    rw [if_neg (by omega), if_neg (by omega), if_pos h4, h1]
    exact t5 h2 h3 k0 k42 htk hkc hpc hkm
  · refine ⟨by omega, by omega, ?_⟩
    rw [if_neg (by omega), if_neg (by omega), if_neg (by omega), if_pos h4, h1]
    exact t6 h2 k0 k42 htk hkc hpc hkm hxc hxm x0 x1
end TURN
