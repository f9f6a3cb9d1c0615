/-! FORMULAS in both: their codes, and what they say. -/
def e0 : Int → Int := fun _ => 0
def rcr (s : zS) (row : Int) : Rc := (fun k => gI s 184 (320 * row + k), fun k => gI s 185 (320 * row + k), fun k => gI s 186 (320 * row + k))
/-- the code in cell c and the reference's row say D -/
def FOR (s : zS) (c : Nat) (row r : Int) (D : Dn) : Prop := ∃ (v : Wd) (len len' : Int), Sg v (cdo s c) (rcr s row) 0 0 0 len 0 len' r D ∧ (zC c = true ∧ gI s c 0 = len ∧ gI s c 8 = v.K ∧ len ≤ 200) ∧ (0 ≤ v.K ∧ v.K ≤ 40) ∧ (gI s 187 row = len' ∧ len' ≤ 200 ∧ 0 ≤ row ∧ row < 18) ∧ (v.n = gI s 1 0 ∧ v.R ≤ gI s 1 4) ∧ ∀ q, 0 ≤ q → q < v.R → v.ra q = gI s 4 q
theorem FOR.of {s s2 : zS} {c : Nat} {row r : Int} {D : Dn} (h : FOR s c row r D) (hn : gI s2 1 0 = gI s 1 0) (hR : gI s 1 4 ≤ gI s2 1 4) (hra : ∀ q, 0 ≤ q → q < gI s 1 4 → gI s2 4 q = gI s 4 q) (hc : ∀ j, j ≤ 7 → ∀ i, gI s2 (c + j) i = gI s (c + j) i) (hr : ∀ k, 0 ≤ k → k < 200 → gI s2 184 (320 * row + k) = gI s 184 (320 * row + k) ∧ gI s2 185 (320 * row + k) = gI s 185 (320 * row + k) ∧ gI s2 186 (320 * row + k) = gI s 186 (320 * row + k)) (hl : gI s2 187 row = gI s 187 row) : FOR s2 c row r D := by
  obtain ⟨v, len, len', h1, ⟨h2, h3, h4, h5⟩, h6, ⟨h7, h8, h9, h10⟩, ⟨h11, h12⟩, h13⟩ := h
  refine ⟨v, len, len', h1.mono rfl rfl rfl (fun _ _ _ => rfl) h6.1 (Int.le_refl _) (fun _ _ _ => ⟨rfl, rfl⟩) (fun k k0 k1 => ⟨hc 1 (by decide) k, hc 2 (by decide) k, hc 3 (by decide) k, hc 4 (by decide) k, hc 5 (by decide) k, hc 6 (by decide) k, hc 7 (by decide) k⟩) (fun k k0 k1 => hr k k0 (by omega)), ⟨h2, ?_, ?_, h5⟩, h6, ⟨by rw [hl]; exact h7, h8, h9, h10⟩, ⟨by rw [hn]; exact h11, by omega⟩, fun q q0 q1 => by rw [hra q q0 (by omega)]; exact h13 q q0 q1⟩
  · rw [← h3]; exact hc 0 (by decide) 0
  · rw [← h4]; exact hc 0 (by decide) 8
/-- a mask without codes -/
def zno (M : Nat) : Bool := (List.range 144).all (fun k => !(M.testBit (29 + k)))
theorem zno_at {M : Nat} (h : zno M = true) {x : Nat} (h1 : 29 ≤ x) (h2 : x < 173) : M.testBit x = false := by
  have := List.all_eq_true.mp h (x - 29) (List.mem_range.mpr (by omega))
  rw [show 29 + (x - 29) = x by omega] at this
  simpa using this
theorem zfr.cod {M : Nat} {s t : zS} (h : zfr M s t) (hM : zno M = true) {x : Nat} (h1 : 29 ≤ x) (h2 : x < 173) (i : Int) : gI t x i = gI s x i := h.ia (zC_out h1 h2).1 (zno_at hM h1 h2) i
theorem zeq.cod {M : Nat} {s t : zS} (h : zeq M s t) (hM : (List.range 144).all (fun k => M.testBit (29 + k)) = true) {x : Nat} (h1 : 29 ≤ x) (h2 : x < 173) (i : Int) : gI t x i = gI s x i := by
  refine h.ia (zC_out h1 h2).1 ?_ i
  have := List.all_eq_true.mp hM (x - 29) (List.mem_range.mpr (by omega))
  rw [show 29 + (x - 29) = x by omega] at this
  exact this
theorem FOR.z (s : zS) {c : Nat} {row r : Int} {D : Dn} (h : FOR s c row r D) : zC c = true := by
  obtain ⟨v, len, len', h1, ⟨h2, h3, h4, h5⟩, h6⟩ := h
  exact h2
theorem FOR.eq {s s2 : zS} {c : Nat} {row r : Int} {D : Dn} (h : FOR s c row r D) (hz : zeq 36311779610655471400715369004882385948246344690965526315440470042188837562086748344801078397632528 s s2) : FOR s2 c row r D := by
  have hb := zC_b h.z
  refine h.of (hz.i rfl) (by rw [hz.i (c := 1) (i := 4) rfl]; omega) (fun q _ _ => hz.ia (c := 4) rfl rfl q) (fun j hj i => hz.cod (by decide +kernel) (by omega) (by omega) i) (fun k _ _ => ⟨hz.ia (c := 184) rfl rfl _, hz.ia (c := 185) rfl rfl _, hz.ia (c := 186) rfl rfl _⟩) (hz.ia (c := 187) rfl rfl _)
theorem FOR.c {s : zS} {c : Nat} {row r : Int} {D : Dn} {w : BitVec 64} {block : Int} (h : FOR s c row r D) (hW : IW s) (hw : IWd s) (b0 : 0 ≤ block) (bR : zR block) : ∃ s', f_102 c block w s = some ((), s') ∧ IWd s' ∧ gI s' 19 0 = r ∧ ∀ β, β < 64 → w.getLsbD β = true → ∀ t, 0 ≤ t → t < gI s 1 0 ^ r.toNat → gb s' 18 t β = D e0 (zAb s (64 * block + β)) t := by
  obtain ⟨v, len, len', h1, ⟨h2, h3, h4, h5⟩, h6, ⟨h7, h8, h9, h10⟩, ⟨h11, h12⟩, h13⟩ := h
  obtain ⟨s', e, w1, w2, w3⟩ := c_work (w := w) (e := e0) h1.2.2.1 ⟨h2, by decide, h5, fun k _ _ => ⟨rfl, rfl, rfl, rfl, rfl, rfl, rfl⟩⟩ h3 h4 h6.1 h6.2 hW hw h11 h12 h13 b0 bR
  exact ⟨s', e, w1, w2, fun β hb hw t t0 t1 => w3 β hb hw t t0 (by rw [h11]; exact t1)⟩
theorem FOR.m {s : zS} {c : Nat} {row r a : Int} {D : Dn} (h : FOR s c row r D) (hW : IW s) (hA : IAs s a) : ∃ τ, f_199 row s = some ((), τ) ∧ RV (gI s 1 0 ^ r.toNat) (gJ τ 198 0) (gJ τ 199 0) (D e0 (zAb s a)) := by
  obtain ⟨v, len, len', h1, ⟨h2, h3, h4, h5⟩, h6, ⟨h7, h8, h9, h10⟩, ⟨h11, h12⟩, h13⟩ := h
  obtain ⟨⟨n1, n5, n0⟩, hsz, ⟨r0, r8, -⟩, har, hst, ⟨f0, f12⟩, hfr, hinc, hall⟩ := id hW
  have hR := h1.2.2.2.1
  rw [h11] at hR
  refine m_work (e := e0) (A := zAb s a) hR (by decide) ⟨h9, h10, by decide, by omega, by omega, fun k _ _ => ⟨rfl, rfl, rfl⟩⟩ h7 ⟨?_, n1, n5, ⟨by omega, fun q q0 q1 => ?_⟩, ?_, by decide, ?_, by decide, fun j j0 j1 => by omega⟩
  · rw [gI_ni (by decide), gI_ni (by decide)]; exact n0
  · intro t t0 t1
    rw [gJ_sI, gJ_sI, gJ_sI, gJ_sI, h13 q q0 q1]
    have h1 := hA q t q0 (by omega) t0 t1
    rw [← zAb_iff f12] at h1
    have hN := npw_b n1 n5 (a := gI s 4 q) (by have := har q q0 (by omega); omega) (by have := har q q0 (by omega); omega)
    show tb (gJ s 196 q) (gJ s 197 q) t = (decide (t < gI s 1 0 ^ (gI s 4 q).toNat) && zAb s a (125 * q + t))
    cases hz : zAb s a (125 * q + t)
    · rw [Bool.and_false]
      cases ht : tb (gJ s 196 q) (gJ s 197 q) t
      · rfl
      · have := (h1.mp ht).2
        rw [hz] at this
        cases this
    · rw [Bool.and_true]
      by_cases hlt : t < gI s 1 0 ^ (gI s 4 q).toNat
      · rw [decide_eq_true hlt]
        exact h1.mpr ⟨by omega, hz⟩
      · rw [decide_eq_false hlt]
        cases ht : tb (gJ s 196 q) (gJ s 197 q) t
        · rfl
        · have h2 := h1.mp ht
          have hk : gI s 5 (125 * q + t) ≠ 0 := by
            rcases (zAb_iff f12 _ _).mp hz with h | ⟨j, j0, j1, j2, j3⟩
            · omega
            · have := (hfr j j0 j1).2.2
              rw [j2] at this
              omega
          have := ((hst (125 * q + t) (by omega) (by omega)).2.2.2 hk).2
          rw [show (125 * q + t) / 125 = q by omega, show (125 * q + t) % 125 = t by omega] at this
          exact absurd this hlt
  · rw [gI_ni (by decide), gI_same (by decide)]
  · rw [gI_same (by decide)]
theorem FOR.t {s : zS} {c : Nat} {row a : Int} {D : Dn} (h : FOR s c row 0 D) (hW : IW s) (hA : IAs s a) : ∃ τ, f_198 row s = some (if D e0 (zAb s a) 0 = true then 1 else 0, τ) := by
  obtain ⟨τ, e, hv⟩ := h.m hW hA
  rw [npw_0] at hv
  have := RV1_lo hv
  unfold f_198
  rw [zb_of e]
  cases hd : D e0 (zAb s a) 0
  · rw [hd] at this
    exact ⟨τ, by rw [if_neg (by rw [this]; decide), if_neg (by decide)]⟩
  · rw [hd] at this
    exact ⟨τ, by rw [if_pos (by rw [this]; decide), if_pos rfl]⟩
