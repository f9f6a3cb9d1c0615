/-! ALIKE: what fair renamings make of assignments; facts stay true. -/
/-- a key that is one -/
def vk (s : zS) (k : Int) : Prop := 0 ≤ k ∧ tok s (k / 125) (k % 125)
theorem vk.b {s : zS} {k : Int} (hW : IW s) (h : vk s k) : 0 ≤ k ∧ k < 1000 ∧ 0 ≤ k % 125 := by
  have := tok_b hW h.2
  have := h.1
  omega
theorem kim_vk {s : zS} {c k : Int} (hW : IW s) (hc : c ∈ cps (gI s 1 0)) (h : vk s k) : vk s (kim s c k) ∧ kim s c k / 125 = k / 125 ∧ kim s c k % 125 = pt (gI s 1 0) (dgI (gI s 1 0) c) (gI s 4 (k / 125)).toNat (k % 125) := by
  have h1 := pt_tok hW hc h.2
  have h2 := tok_b hW h1
  have e1 : kim s c k / 125 = k / 125 := by unfold kim; omega
  have e2 : kim s c k % 125 = pt (gI s 1 0) (dgI (gI s 1 0) c) (gI s 4 (k / 125)).toNat (k % 125) := by unfold kim; omega
  refine ⟨⟨?_, by rw [e1, e2]; exact h1⟩, e1, e2⟩
  unfold kim
  have := h.1
  omega
theorem kim_iv {s : zS} {c d k : Int} (hW : IW s) (hc : c ∈ cps (gI s 1 0)) (hP : PM (gI s 1 0) (dgI (gI s 1 0) c) (dgI (gI s 1 0) d)) (h : vk s k) : kim s d (kim s c k) = k := by
  obtain ⟨h1, h2, h3⟩ := kim_vk hW hc h
  have h4 := pt_inv hP (gI s 4 (k / 125)).toNat (k % 125) h.2.2.2.1 h.2.2.2.2
  have : kim s d (kim s c k) = 125 * (kim s c k / 125) + pt (gI s 1 0) (dgI (gI s 1 0) d) (gI s 4 (kim s c k / 125)).toNat (kim s c k % 125) := rfl
  rw [this, h2, h3, h4]
  omega
theorem kim_inj {s : zS} {c k l : Int} (hW : IW s) (hc : c ∈ cps (gI s 1 0)) (hk : vk s k) (hl : vk s l) (h : kim s c k = kim s c l) : k = l := by
  obtain ⟨⟨n1, n5, -⟩, -⟩ := id hW
  obtain ⟨d, -, hP⟩ := cps_iv n1 n5 hc
  rw [← kim_iv hW hc hP hk, ← kim_iv hW hc hP hl, h]
theorem pt_comp {n : Int} {π ρ κ : Int → Int} (n1 : 1 ≤ n) (hπ : ∀ x, 0 ≤ x → x < n → 0 ≤ π x ∧ π x < n) (hκ : ∀ x, 0 ≤ x → x < n → κ x = ρ (π x)) : ∀ (r : Nat) (t : Int), pt n κ r t = pt n ρ r (pt n π r t)
  | 0, _ => rfl
  | r + 1, t => by
    obtain ⟨m1, m2⟩ : 0 ≤ t % n ∧ t % n < n := ⟨Int.emod_nonneg _ (by omega), Int.emod_lt_of_pos _ (by omega)⟩
    obtain ⟨b1, b2⟩ := hπ _ m1 m2
    obtain ⟨e1, e2⟩ := md_eq (a := pt n π r (t / n)) n1 b1 b2
    rw [pt, pt, pt, e1, e2, hκ _ m1 m2, pt_comp n1 hπ hκ r (t / n)]
theorem cod_ex {n : Int} {π : Int → Int} (n1 : 1 ≤ n) (n5 : n ≤ 5) (hπ : ∀ x, 0 ≤ x → x < n → 0 ≤ π x ∧ π x < n) : ∃ k : Nat, k < n.toNat ^ n.toNat ∧ ∀ x, 0 ≤ x → x < n → dgI n (k : Int) x = π x := by
  rcases gt_ex n1 n5 with rfl | rfl | rfl | rfl | rfl
  · have h0 := hπ 0 (by decide) (by decide)
    refine ⟨(π 0).toNat, ?_, fun x x0 x1 => ?_⟩
    · show (π 0).toNat < 1; omega
    · have : x = 0 := by omega
      subst this
      unfold dgI
      rw [show (1 : Int) ^ ((0 : Int).toNat) = 1 from rfl]; omega
  · have h0 := hπ 0 (by decide) (by decide)
    have h1 := hπ 1 (by decide) (by decide)
    refine ⟨(π 0 + 2 * π 1).toNat, ?_, fun x x0 x1 => ?_⟩
    · show (π 0 + 2 * π 1).toNat < 4; omega
    · unfold dgI
      have : x = 0 ∨ x = 1 := by omega
      rcases this with rfl | rfl
      · rw [show (2 : Int) ^ ((0 : Int).toNat) = 1 from rfl]; omega
      · rw [show (2 : Int) ^ ((1 : Int).toNat) = 2 from rfl]; omega
  · have h0 := hπ 0 (by decide) (by decide)
    have h1 := hπ 1 (by decide) (by decide)
    have h2 := hπ 2 (by decide) (by decide)
    refine ⟨(π 0 + 3 * π 1 + 9 * π 2).toNat, ?_, fun x x0 x1 => ?_⟩
    · show (π 0 + 3 * π 1 + 9 * π 2).toNat < 27; omega
    · unfold dgI
      have : x = 0 ∨ x = 1 ∨ x = 2 := by omega
      rcases this with rfl | rfl | rfl
      · rw [show (3 : Int) ^ ((0 : Int).toNat) = 1 from rfl]; omega
      · rw [show (3 : Int) ^ ((1 : Int).toNat) = 3 from rfl]; omega
      · rw [show (3 : Int) ^ ((2 : Int).toNat) = 9 from rfl]; omega
  · have h0 := hπ 0 (by decide) (by decide)
    have h1 := hπ 1 (by decide) (by decide)
    have h2 := hπ 2 (by decide) (by decide)
    have h3 := hπ 3 (by decide) (by decide)
    refine ⟨(π 0 + 4 * π 1 + 16 * π 2 + 64 * π 3).toNat, ?_, fun x x0 x1 => ?_⟩
    · show (π 0 + 4 * π 1 + 16 * π 2 + 64 * π 3).toNat < 256; omega
    · unfold dgI
      have : x = 0 ∨ x = 1 ∨ x = 2 ∨ x = 3 := by omega
      rcases this with rfl | rfl | rfl | rfl
      · rw [show (4 : Int) ^ ((0 : Int).toNat) = 1 from rfl]; omega
      · rw [show (4 : Int) ^ ((1 : Int).toNat) = 4 from rfl]; omega
      · rw [show (4 : Int) ^ ((2 : Int).toNat) = 16 from rfl]; omega
      · rw [show (4 : Int) ^ ((3 : Int).toNat) = 64 from rfl]; omega
  · have h0 := hπ 0 (by decide) (by decide)
    have h1 := hπ 1 (by decide) (by decide)
    have h2 := hπ 2 (by decide) (by decide)
    have h3 := hπ 3 (by decide) (by decide)
    have h4 := hπ 4 (by decide) (by decide)
    refine ⟨(π 0 + 5 * π 1 + 25 * π 2 + 125 * π 3 + 625 * π 4).toNat, ?_, fun x x0 x1 => ?_⟩
    · show (π 0 + 5 * π 1 + 25 * π 2 + 125 * π 3 + 625 * π 4).toNat < 3125; omega
    · unfold dgI
      have : x = 0 ∨ x = 1 ∨ x = 2 ∨ x = 3 ∨ x = 4 := by omega
      rcases this with rfl | rfl | rfl | rfl | rfl
      · rw [show (5 : Int) ^ ((0 : Int).toNat) = 1 from rfl]; omega
      · rw [show (5 : Int) ^ ((1 : Int).toNat) = 5 from rfl]; omega
      · rw [show (5 : Int) ^ ((2 : Int).toNat) = 25 from rfl]; omega
      · rw [show (5 : Int) ^ ((3 : Int).toNat) = 125 from rfl]; omega
      · rw [show (5 : Int) ^ ((4 : Int).toNat) = 625 from rfl]; omega
theorem cps_comp {n c d : Int} (n1 : 1 ≤ n) (n5 : n ≤ 5) (hc : c ∈ cps n) (hd : d ∈ cps n) : ∃ e, e ∈ cps n ∧ ∀ x, 0 ≤ x → x < n → dgI n e x = dgI n d (dgI n c x) := by
  obtain ⟨c', -, hP⟩ := cps_iv n1 n5 hc
  obtain ⟨d', -, hQ⟩ := cps_iv n1 n5 hd
  obtain ⟨k, k1, k2⟩ := cod_ex (π := fun x => dgI n d (dgI n c x)) n1 n5 (fun x x0 x1 => dgI_b n1 _)
  refine ⟨k, (cps_mem n1 n5).mpr ⟨k, rfl, k1, (pcN_iff n1).mpr (fun j j0 j1 => ?_)⟩, k2⟩
  obtain ⟨-, -, q3, q4, q5, -⟩ := hQ.2 j j0 j1
  obtain ⟨-, -, p3, p4, p5, -⟩ := hP.2 _ q3 q4
  exact ⟨dgI n c' (dgI n d' j), p3, p4, by rw [k2 _ p3 p4, p5, q5]⟩
theorem kim_comp {s : zS} {c d e k : Int} (hW : IW s) (hc : c ∈ cps (gI s 1 0)) (he : ∀ x, 0 ≤ x → x < gI s 1 0 → dgI (gI s 1 0) e x = dgI (gI s 1 0) d (dgI (gI s 1 0) c x)) (h : vk s k) : kim s e k = kim s d (kim s c k) := by
  obtain ⟨⟨n1, n5, -⟩, -⟩ := id hW
  obtain ⟨h1, h2, h3⟩ := kim_vk hW hc h
  have h4 := pt_comp (n := gI s 1 0) (π := dgI (gI s 1 0) c) (ρ := dgI (gI s 1 0) d) (κ := dgI (gI s 1 0) e) n1 (fun x _ _ => dgI_b n1 x) he (gI s 4 (k / 125)).toNat (k % 125)
  have h5 : kim s d (kim s c k) = 125 * (kim s c k / 125) + pt (gI s 1 0) (dgI (gI s 1 0) d) (gI s 4 (kim s c k / 125)).toNat (kim s c k % 125) := rfl
  have h6 : kim s e k = 125 * (k / 125) + pt (gI s 1 0) (dgI (gI s 1 0) e) (gI s 4 (k / 125)).toNat (k % 125) := rfl
  rw [h5, h6, h2, h3, h4]
theorem fps_mem {s : zS} {c : Int} : c ∈ fps s ↔ c ∈ cps (gI s 1 0) ∧ fairb s c = true := by
  unfold fps
  rw [List.mem_filter]
/-- fair, of keys -/
theorem fair_keys {s : zS} {c : Int} (hW : IW s) (hc : c ∈ cps (gI s 1 0)) : fairb s c = true ↔ ∀ k, vk s k → gI s 5 (kim s c k) = gI s 5 k := by
  rw [fair_full hW hc]
  constructor
  · intro h k hk
    have := h (k / 125) (k % 125) hk.2.1 hk.2.2.1 hk.2.2.2.1 hk.2.2.2.2
    have hb := hk.b hW
    rw [show k / 125 * 125 + k % 125 = k by omega] at this
    rw [this]
    congr 1
    unfold kim
    omega
  · intro h q t q0 q1 t0 t1
    have hb := tok_b hW (r := q) (t := t) ⟨q0, q1, t0, t1⟩
    have e1 : (q * 125 + t) / 125 = q := by omega
    have e2 : (q * 125 + t) % 125 = t := by omega
    have := h (q * 125 + t) ⟨by omega, by rw [e1, e2]; exact ⟨q0, q1, t0, t1⟩⟩
    rw [kim_qt t0 (by omega)] at this
    exact this.symm
theorem fps_iv {s : zS} {c : Int} (hW : IW s) (hc : c ∈ fps s) : ∃ d, d ∈ fps s ∧ ∀ k, vk s k → kim s d (kim s c k) = k ∧ kim s c (kim s d k) = k := by
  obtain ⟨⟨n1, n5, -⟩, -⟩ := id hW
  obtain ⟨h1, h2⟩ := fps_mem.mp hc
  obtain ⟨d, hd, hP⟩ := cps_iv n1 n5 h1
  refine ⟨d, fps_mem.mpr ⟨hd, (fair_keys hW hd).mpr (fun k hk => ?_)⟩, fun k hk => ⟨kim_iv hW h1 hP hk, kim_iv hW hd hP.sy hk⟩⟩
  have := (fair_keys hW h1).mp h2 (kim s d k) (kim_vk hW hd hk).1
  rw [kim_iv hW hd hP.sy hk] at this
  exact this.symm
theorem fps_comp {s : zS} {c d : Int} (hW : IW s) (hc : c ∈ fps s) (hd : d ∈ fps s) : ∃ e, e ∈ fps s ∧ ∀ k, vk s k → kim s e k = kim s d (kim s c k) := by
  obtain ⟨⟨n1, n5, -⟩, -⟩ := id hW
  obtain ⟨h1, h2⟩ := fps_mem.mp hc
  obtain ⟨h3, h4⟩ := fps_mem.mp hd
  obtain ⟨e, he, hx⟩ := cps_comp n1 n5 h1 h3
  have hk := fun k (hk : vk s k) => kim_comp (d := d) hW h1 hx hk
  refine ⟨e, fps_mem.mpr ⟨he, (fair_keys hW he).mpr (fun k hv => ?_)⟩, hk⟩
  rw [hk k hv, (fair_keys hW h3).mp h4 _ (kim_vk hW h1 hv).1, (fair_keys hW h1).mp h2 k hv]
theorem vk_free {s : zS} {j : Int} (hW : IW s) (j0 : 0 ≤ j) (j1 : j < gI s 1 8) : vk s (gI s 7 j) := by
  obtain ⟨-, -, -, -, hst, -, hfr, -, -⟩ := id hW
  obtain ⟨f1, f2, f3⟩ := hfr j j0 j1
  obtain ⟨b1, b2⟩ := (hst (gI s 7 j) f1 f2).2.2.2 (by omega)
  exact ⟨f1, by omega, b1, by omega, b2⟩
theorem zAb_free {s : zS} {x j : Int} (hW : IW s) (j0 : 0 ≤ j) (j1 : j < gI s 1 8) : zAb s x (gI s 7 j) = x.toNat.testBit (gI s 1 8 - 1 - j).toNat := by
  have F12 := hW.2.2.2.2.2.1.2
  have f3 := (hW.2.2.2.2.2.2.1 j j0 j1).2.2
  rw [Bool.eq_iff_iff, zAb_iff F12]
  constructor
  · rintro (h | ⟨i, i0, i1, h1, h2⟩)
    · omega
    · rw [← fr_inj hW i0 i1 j0 j1 h1]; exact h2
  · intro h
    exact Or.inr ⟨j, j0, j1, rfl, h⟩
theorem zAb_fixed {s : zS} {x k : Int} (hW : IW s) (h : gI s 5 k ≠ 1) : zAb s x k = decide (gI s 5 k = 2) := by
  have F12 := hW.2.2.2.2.2.1.2
  rw [Bool.eq_iff_iff, zAb_iff F12, decide_eq_true_iff]
  constructor
  · rintro (h1 | ⟨i, i0, i1, h1, h2⟩)
    · exact h1
    · have := (hW.2.2.2.2.2.2.1 i i0 i1).2.2
      rw [h1] at this
      exact absurd this h
  · intro h1
    exact Or.inl h1
/-- the image has, with atoms exchanged, what the assignment has -/
theorem imgv_rel {s : zS} {c a : Int} (hW : IW s) (hc : c ∈ fps s) : ∀ k, vk s k → zAb s ((imgv s c a : Nat) : Int) (kim s c k) = zAb s a k := by
  obtain ⟨h1, h2⟩ := fps_mem.mp hc
  obtain ⟨-, -, -, -, hst, ⟨F0, F12⟩, hfr, hinc, hall⟩ := id hW
  intro k hk
  have h5 := (fair_keys hW h1).mp h2 k hk
  have hkb := hk.b hW
  have hk2 := (kim_vk hW h1 hk).1
  have hkb2 := hk2.b hW
  by_cases he : gI s 5 k = 1
  · obtain ⟨i, i0, i1, i2⟩ := hall k hkb.1 hkb.2.1 he
    obtain ⟨j, j0, j1, j2⟩ := hall (kim s c k) hkb2.1 hkb2.2.1 (by omega)
    rw [← j2, zAb_free hW j0 j1, ← i2, zAb_free hW i0 i1, show (((imgv s c a : Nat) : Int)).toNat = imgv s c a from rfl, Bool.eq_iff_iff, imgv_bit F12]
    constructor
    · rintro ⟨-, i', i0', i1', h3, h4⟩
      rw [show gI s 1 8 - 1 - (((gI s 1 8 - 1 - j).toNat : Nat) : Int) = j by omega, j2] at h4
      have := kim_inj hW h1 hk (vk_free hW i0' i1') h4
      rw [← i2] at this
      rw [fr_inj hW i0 i1 i0' i1' this]
      exact h3
    · intro h3
      refine ⟨by omega, i, i0, i1, h3, ?_⟩
      rw [show gI s 1 8 - 1 - (((gI s 1 8 - 1 - j).toNat : Nat) : Int) = j by omega, j2, i2]
  · rw [zAb_fixed hW (by omega), zAb_fixed hW he, h5]
theorem imgv_un {s : zS} {c a : Int} {x : Nat} (hW : IW s) (hc : c ∈ fps s) (hx : x < 2 ^ (gI s 1 8).toNat) (h : ∀ k, vk s k → zAb s (x : Int) (kim s c k) = zAb s a k) : x = imgv s c a := by
  obtain ⟨h1, h2⟩ := fps_mem.mp hc
  obtain ⟨-, -, -, -, hst, ⟨F0, F12⟩, hfr, hinc, hall⟩ := id hW
  obtain ⟨d, hd, hiv⟩ := fps_iv hW hc
  have hrel := imgv_rel (a := a) hW hc
  apply Nat.eq_of_testBit_eq
  intro b
  by_cases hb : (b : Int) < gI s 1 8
  · have hv := vk_free hW (j := gI s 1 8 - 1 - b) (by omega) (by omega)
    have hv2 := (kim_vk hW (fps_mem.mp hd).1 hv).1
    have e1 := h _ hv2
    have e2 := hrel _ hv2
    rw [(hiv _ hv).2] at e1 e2
    rw [zAb_free hW (by omega) (by omega), show (gI s 1 8 - 1 - (gI s 1 8 - 1 - (b : Int))).toNat = b by omega] at e1 e2
    have e3 := e1.trans e2.symm
    exact e3
  · have hle : 2 ^ (gI s 1 8).toNat ≤ 2 ^ b := Nat.pow_le_pow_right (by decide) (by omega)
    rw [Nat.testBit_lt_two_pow (Nat.lt_of_lt_of_le hx hle), Nat.testBit_lt_two_pow (Nat.lt_of_lt_of_le (imgv_lt s c a) hle)]
/-- y becomes x -/
def alk (s : zS) (y x : Nat) : Prop := ∃ c, c ∈ fps s ∧ x = imgv s c (y : Int)
theorem alk.sy {s : zS} {x y : Nat} (hW : IW s) (h : alk s y x) (hy : y < 2 ^ (gI s 1 8).toNat) : alk s x y := by
  obtain ⟨c, hc, hx⟩ := h
  obtain ⟨d, hd, hiv⟩ := fps_iv hW hc
  refine ⟨d, hd, imgv_un hW hd hy (fun k hk => ?_)⟩
  have hv := (kim_vk hW (fps_mem.mp hd).1 hk).1
  have := imgv_rel (a := (y : Int)) hW hc _ hv
  rw [(hiv k hk).2, ← hx] at this
  exact this.symm
theorem alk.tr {s : zS} {x y z : Nat} (hW : IW s) (h : alk s y x) (h2 : alk s x z) : alk s y z := by
  obtain ⟨c, hc, hx⟩ := h
  obtain ⟨d, hd, hz⟩ := h2
  obtain ⟨e, he, hk⟩ := fps_comp hW hc hd
  refine ⟨e, he, imgv_un hW he (by rw [hz]; exact imgv_lt _ _ _) (fun k hv => ?_)⟩
  rw [hk k hv, hz, imgv_rel hW hd _ (kim_vk hW (fps_mem.mp hc).1 hv).1, hx, imgv_rel hW hc k hv]
/-- a formula says the same of both -/
theorem FOR.alike {s : zS} {C : Nat} {row : Int} {D : Dn} {x y : Nat} (h : FOR s C row 0 D) (hW : IW s) (hxy : alk s y x) : D e0 (zAb s (x : Int)) 0 = D e0 (zAb s (y : Int)) 0 := by
  obtain ⟨v, len, len', h1, -, -, -, ⟨h11, h12⟩, h13⟩ := h
  obtain ⟨-, -, -, -, hDep, -, hE⟩ := h1
  obtain ⟨⟨n1, n5, -⟩, -⟩ := id hW
  obtain ⟨c, hc, hx⟩ := hxy
  obtain ⟨d, -, hP⟩ := cps_iv n1 n5 (fps_mem.mp hc).1
  rw [← h11] at hP
  have hpe := hE _ _ hP e0 (zAb s (y : Int)) (zAb s (x : Int)) (fun j j0 j1 => by omega) (fun q q0 q1 t t0 t1 => by
    rw [h13 q q0 q1, h11] at t1 ⊢
    have hb := tok_b hW (r := q) (t := t) ⟨q0, by omega, t0, t1⟩
    have e1 : (q * 125 + t) / 125 = q := by omega
    have e2 : (q * 125 + t) % 125 = t := by omega
    have := imgv_rel (a := (y : Int)) hW hc (q * 125 + t) ⟨by omega, by rw [e1, e2]; exact ⟨q0, by omega, t0, t1⟩⟩
    rw [kim_qt t0 (by omega), ← hx] at this
    rw [show 125 * q + pt (gI s 1 0) (dgI (gI s 1 0) c) (gI s 4 q).toNat t = q * 125 + pt (gI s 1 0) (dgI (gI s 1 0) c) (gI s 4 q).toNat t by omega, show 125 * q + t = q * 125 + t by omega]
    exact this)
  have h0 := pe_at0 hpe
  rw [← h0]
  exact hDep _ _ _ (fun j j0 j1 => by omega) 0 (by decide) (by rw [show ((0 : Int).toNat) = 0 from rfl, Int.pow_zero]; decide)
theorem okn_alike {s : zS} {D : Int → Dn} {v : Int} {x y : Nat} (hW : IW s) (hF : ∀ i, act s i → FOR s (gP s 28 i) i 0 (D i)) (hv : ∀ i : Nat, i < 17 → v.toNat.testBit i = true → act s i) (hxy : alk s y x) : okn v D (zAb s (x : Int)) 17 = okn v D (zAb s (y : Int)) 17 := by
  rw [Bool.eq_iff_iff, okn_iff, okn_iff]
  constructor
  · intro h j hj hb
    have := h j hj hb
    rw [(hF j (hv j hj hb)).alike hW hxy] at this
    exact this
  · intro h j hj hb
    rw [(hF j (hv j hj hb)).alike hW hxy]
    exact h j hj hb
