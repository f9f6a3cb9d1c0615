/-! SEGMENTS of the class's code. -/
/-- the arrays of a code -/
def Cd : Type := (Int → Int) × (Int → Int) × (Int → Int) × (Int → Int) × (Int → Int) × (Int → Int) × (Int → Int)
abbrev Cd.op (c : Cd) : Int → Int := c.1
abbrev Cd.arg (c : Cd) : Int → Int := c.2.1
abbrev Cd.sg (c : Cd) : Int → Int := c.2.2.1
abbrev Cd.md (c : Cd) : Int → Int := c.2.2.2.1
abbrev Cd.en (c : Cd) : Int → Int := c.2.2.2.2.1
abbrev Cd.us (c : Cd) : Int → Int := c.2.2.2.2.2.1
abbrev Cd.mm (c : Cd) : Int → Int := c.2.2.2.2.2.2
abbrev zCq (x : Nat) : Bool := !zobj x && !Nat.testBit 19239260838083241802870625048898248928261591440656956380834127638791856333738872368854622194768025215237644615680 x
theorem zCk_1 : ∀ x : Fin 36, zCq (29 + x.val) = true := by decide
theorem zCk_2 : ∀ x : Fin 36, zCq (65 + x.val) = true := by decide
theorem zCk_3 : ∀ x : Fin 36, zCq (101 + x.val) = true := by decide
theorem zCk_4 : ∀ x : Fin 36, zCq (137 + x.val) = true := by decide
theorem zC_out {x : Nat} (h : 29 ≤ x) (h2 : x < 173) : zobj x = false ∧ Nat.testBit 19239260838083241802870625048898248928261591440656956380834127638791856333738872368854622194768025215237644615680 x = false := by
  have : zCq x = true := by
    by_cases h1 : x < 65
    · have := zCk_1 ⟨x - 29, by omega⟩
      rwa [show 29 + (x - 29) = x by omega] at this
    · by_cases h3 : x < 101
      · have := zCk_2 ⟨x - 65, by omega⟩
        rwa [show 65 + (x - 65) = x by omega] at this
      · by_cases h4 : x < 137
        · have := zCk_3 ⟨x - 101, by omega⟩
          rwa [show 101 + (x - 101) = x by omega] at this
        · have := zCk_4 ⟨x - 137, by omega⟩
          rwa [show 137 + (x - 137) = x by omega] at this
  rw [zCq, Bool.and_eq_true] at this
  exact ⟨Bool.not_eq_true' _ |>.mp this.1, Bool.not_eq_true' _ |>.mp this.2⟩
theorem zC_b {c : Nat} (h : zC c = true) : 29 ≤ c ∧ c ≤ 165 := by
  have h1 := of_decide_eq_true h
  omega
theorem zC_fr {c : Nat} {σ τ : zS} (h : zC c = true) (p : zfr 19239260838083241802870625048898248928261591440656956380834127638791856333738872368854622194768025215237644615680 σ τ) (j : Nat) (hj : j ≤ 7) (k : Int) : gI τ (c + j) k = gI σ (c + j) k := by
  have hb := zC_b h
  obtain ⟨h1, h2⟩ := zC_out (x := c + j) (by omega) (by omega)
  exact p.ia h1 h2 k
/-- the code of cell c from a to b is this -/
def CC (σ : zS) (c : Nat) (a b : Int) (cd : Cd) : Prop := zC c = true ∧ 0 ≤ a ∧ b ≤ 200 ∧ ∀ k, a ≤ k → k < b → gI σ (c + 1) k = cd.op k ∧ gI σ (c + 2) k = cd.arg k ∧ gI σ (c + 3) k = cd.sg k ∧ gI σ (c + 4) k = cd.md k ∧ gI σ (c + 5) k = cd.en k ∧ gI σ (c + 6) k = cd.us k ∧ gI σ (c + 7) k = cd.mm k
theorem CC.fr {σ τ : zS} {c : Nat} {a b : Int} {cd : Cd} (h : CC σ c a b cd) (p : zfr 19239260838083241802870625048898248928261591440656956380834127638791856333738872368854622194768025215237644615680 σ τ) : CC τ c a b cd := by
  obtain ⟨h1, h2, h3, h4⟩ := h
  refine ⟨h1, h2, h3, fun k k0 k1 => ?_⟩
  rw [zC_fr h1 p 1 (by omega), zC_fr h1 p 2 (by omega), zC_fr h1 p 3 (by omega), zC_fr h1 p 4 (by omega), zC_fr h1 p 5 (by omega), zC_fr h1 p 6 (by omega), zC_fr h1 p 7 (by omega)]
  exact h4 k k0 k1
theorem CC.sub {σ : zS} {c : Nat} {a b a2 b2 : Int} {cd : Cd} (h : CC σ c a b cd) (ha : a ≤ a2) (hb : b2 ≤ b) : CC σ c a2 b2 cd := ⟨h.1, by have := h.2.1; omega, by have := h.2.2.1; omega, fun k k0 k1 => h.2.2.2 k (by omega) (by omega)⟩
/-- what is remembered is right: F, of W words, for each memo and each place of it -/
def MI (σ : zS) (K : Int) (W : Int → Int) (F : Int → Int → (Int → Bool) → Vl) (A : Nat → Int → Bool) : Prop := ∀ p, 0 ≤ p → p < 25 * K → ∀ β, β < 64 → gb σ 23 p β = true → ∀ i, 0 ≤ i → i < 5 → i < W (p / 25) → gb σ 24 (p * 5 + i) β = F (p / 25) (p % 25) (A β) i
theorem MI.eq {σ τ : zS} {K : Int} {W : Int → Int} {F : Int → Int → (Int → Bool) → Vl} {A : Nat → Int → Bool} (h : MI σ K W F A) (e1 : ∀ i, gJ τ 23 i = gJ σ 23 i) (e2 : ∀ i, gJ τ 24 i = gJ σ 24 i) : MI τ K W F A := by
  intro p p0 p1 β hb hk i i0 i5 i1
  have hk' : gb σ 23 p β = true := by show (gJ σ 23 p).getLsbD β = true; rw [← e1]; exact hk
  show (gJ τ 24 _).getLsbD β = _
  rw [e2]
  exact h p p0 p1 β hb hk' i i0 i5 i1
/-- what a code is run with: atoms, relations, the slots of variables, memos -/
def Wd : Type := Int × Int × (Int → Int) × (Int → Int) × Int × (Int → Int) × (Int → Int → (Int → Bool) → Vl)
abbrev Wd.n (v : Wd) : Int := v.1
abbrev Wd.R (v : Wd) : Int := v.2.1
abbrev Wd.ra (v : Wd) : Int → Int := v.2.2.1
abbrev Wd.sl (v : Wd) : Int → Int := v.2.2.2.1
abbrev Wd.K (v : Wd) : Int := v.2.2.2.2.1
abbrev Wd.W (v : Wd) : Int → Int := v.2.2.2.2.2.1
abbrev Wd.F (v : Wd) : Int → Int → (Int → Bool) → Vl := v.2.2.2.2.2.2
/-- the class at work: L variables bound, H values -/
def CS (σ : zS) (v : Wd) (L H : Int) (e : Int → Int) (A : Nat → Int → Bool) : Prop :=
  CN σ v.n ∧ (v.R ≤ 8 ∧ ∀ r, 0 ≤ r → r < v.R → gI σ 4 r = v.ra r ∧ 1 ≤ v.ra r ∧ v.ra r ≤ 3 ∧ ∀ t, 0 ≤ t → t < v.n ^ (v.ra r).toNat → ∀ β, β < 64 → gb σ 6 (125 * r + t) β = A β (125 * r + t)) ∧ gI σ 17 3 = H ∧ 0 ≤ H ∧ (0 ≤ L ∧ ∀ j, 0 ≤ j → j < L → 0 ≤ v.sl j ∧ v.sl j < 20 ∧ gI σ 20 (v.sl j) = e j ∧ 0 ≤ e j ∧ e j < v.n) ∧ (0 ≤ v.K ∧ v.K ≤ 40 ∧ MI σ v.K v.W v.F A)
/-- bits of a word -/
abbrev bs (w : BitVec 64) : Nat → Prop := fun β => w.getLsbD β = true
/-- one value more, of arity a, right at the bits of w -/
def CP (w : BitVec 64) (σ τ : zS) (v : Wd) (L H a : Int) (A : Nat → Int → Bool) (V : Nat → Vl) : Prop :=
  zfr 19239260838083241802870625048898248928261591440656956380834127638791856333738872368854622194768025215237644615680 σ τ ∧ CR (bs w) σ τ v.n H a V ∧ (∀ j, 0 ≤ j → j < L → gI τ 20 (v.sl j) = gI σ 20 (v.sl j)) ∧ MI τ v.K v.W v.F A ∧ (∀ p, 25 * v.K ≤ p → gJ τ 23 p = gJ σ 23 p) ∧ ∀ p, 125 * v.K ≤ p → gJ τ 24 p = gJ σ 24 p
theorem CS.next {σ τ : zS} {v : Wd} {w : BitVec 64} {L H a : Int} {e : Int → Int} {A : Nat → Int → Bool} {V : Nat → Vl} (h : CS σ v L H e A) (p : CP w σ τ v L H a A V) : CS τ v L (H + 1) e A := by
  obtain ⟨h1, ⟨h2, h2'⟩, h3, h4, ⟨h5, h5'⟩, h6, h7, h8⟩ := h
  obtain ⟨p1, p2, p3, p4, -, -⟩ := p
  refine ⟨h1.eq (p1.i rfl) (fun a => p1.ia (c := 2) rfl rfl a), ⟨h2, fun r r0 r1 => ?_⟩, p2.1, by omega, ⟨h5, fun j j0 j1 => ?_⟩, h6, h7, p4⟩
  · obtain ⟨g1, g2, g3, g4⟩ := h2' r r0 r1
    refine ⟨by rw [p1.ia (c := 4) rfl rfl]; exact g1, g2, g3, fun t t0 t1 β hb => ?_⟩
    show (gJ τ 6 _).getLsbD β = _
    rw [p1.ja (c := 6) rfl rfl]
    exact g4 t t0 t1 β hb
  · rw [p3 j j0 j1]
    exact h5' j j0 j1
/-- the code from a to b leaves D, of arity r, under L variables; m: how deep it goes -/
def CSeg (v : Wd) (cd : Cd) (a b L : Int) (m : Nat) (r : Int) (D : Dn) : Prop := 0 ≤ a ∧ a < b ∧ 0 ≤ r ∧ r ≤ 3 ∧ ∀ (σ : zS) (c : Nat) (k : Nat) (d : Int) (w : BitVec 64) (e : Int → Int) (A : Nat → Int → Bool) (H to i : Int), CC σ c a b cd → CS σ v L H e A → m ≤ k → 0 ≤ d → d + m ≤ 20 → H + m ≤ 20 → b ≤ to → to ≤ 200 → 0 ≤ i → i + (b - a) ≤ 200 → ∃ τ i', i ≤ i' ∧ i' ≤ i + (b - a) ∧ zrch (fun (q : Int × Int × zS) => b_103_14 (f_103n k) c to w d q.1 q.2.1 q.2.2) (b - a).toNat (a, i, σ) (b, i', τ) ∧ CP w σ τ v L H r A (fun β => D e (A β))
section CSEG
variable {v : Wd} {cd : Cd} {a b c L r r1 r2 : Int} {m m1 m2 : Nat} {D D1 D2 : Dn}
/-- an operator that is applied -/
theorem c_turn_apply {σ τ : zS} {c k : Nat} {d to at_ i : Int} {w : BitVec 64} (hC : CC σ c at_ (at_ + 1) cd) (h17 : gI σ 17 3 < 22) (h45 : cd.op at_ ≠ 45) (hop : cd.op at_ ≠ 10 ∧ cd.op at_ ≠ 11 ∧ cd.op at_ ≠ 12) (hto : at_ < to) (hto2 : to ≤ 200) (i0 : 0 ≤ i) (i1 : i < 200) (h : f_114 c at_ σ = some ((), τ)) : b_103_14 (f_103n k) c to w d at_ i σ = some (.inl (at_ + 1, i + 1, τ)) := by
  obtain ⟨c1, c2, c3, c4⟩ := hC
  obtain ⟨e1, -⟩ := c4 at_ (by omega) (by omega)
  have hz : f_21 (cd.op at_) = some 0 := by
    unfold f_21
    rw [zg_pos (by rw [← e1]; exact zR_gI _ _ _), if_neg hop.1, if_neg hop.2.1, if_neg hop.2.2]
  unfold b_103_14
  rw [zg_pos ⟨by omega, by omega⟩, if_pos i1, zg_pos ⟨by omega, by omega⟩, zg_pos ⟨by omega, by omega⟩, if_pos hto, if_pos h17, zg_pos c1, zg_pos ⟨c2, by omega⟩, e1, if_neg h45, zo_of hz, zg_pos (by decide), if_pos rfl, zb_of h]
theorem CP.of {w : BitVec 64} {σ τ : zS} {e : Int → Int} {A : Nat → Int → Bool} {H : Int} {V : Nat → Vl} (hS : CS σ v L H e A) {H' : Int} (hf : zfr 19239260838083241802870625048898248928261591440656956380834127638791856333738872368854622194768025215237618401280 σ τ) (hr : CR (bs w) σ τ v.n H' r V) : CP w σ τ v L H' r A V :=
  ⟨zfr_sub rfl hf, hr, fun j _ _ => hf.ia (c := 20) rfl rfl _, hS.2.2.2.2.2.2.2.eq (hf.ja (c := 23) rfl rfl) (hf.ja (c := 24) rfl rfl), fun p _ => hf.ja (c := 23) rfl rfl p, fun p _ => hf.ja (c := 24) rfl rfl p⟩
theorem cseg_leaf (a0 : 0 ≤ a) (r0 : 0 ≤ r) (r3 : r ≤ 3) (h45 : cd.op a ≠ 45) (hop : cd.op a ≠ 10 ∧ cd.op a ≠ 11 ∧ cd.op a ≠ 12) (h : ∀ (σ : zS) (c : Nat) (w : BitVec 64) (e : Int → Int) (A : Nat → Int → Bool) (H : Int), CC σ c a (a + 1) cd → CS σ v L H e A → H < 22 → ∃ τ, f_114 c a σ = some ((), τ) ∧ CR (bs w) σ τ v.n H r (fun β => D e (A β))) : CSeg v cd a (a + 1) L 0 r D := by
  refine ⟨a0, by omega, r0, r3, fun σ c k d w e A H to i hC hS hm d0 hd hH hto hto2 i0 i1 => ?_⟩
  obtain ⟨τ, h1, h2⟩ := h σ c w e A H hC hS (by omega)
  refine ⟨τ, i + 1, by omega, by omega, ?_, CP.of hS (fr_114 h1) h2⟩
  rw [show (a + 1 - a).toNat = 1 by omega]
  have ht := c_turn_apply (k := k) (d := d) (w := w) (to := to) (i := i) hC (by rw [hS.2.2.1]; omega) h45 hop (by omega) hto2 i0 (by omega) h1
  exact zrch.one ht
theorem CP.tr {w : BitVec 64} {σ τ ω : zS} {A : Nat → Int → Bool} {H H2 : Int} {V V2 : Nat → Vl} (h : CP w σ τ v L H2 r1 A V) (h2 : CP w τ ω v L H r A V2) (hH : H ≤ H2) : CP w σ ω v L H r A V2 := by
  obtain ⟨p1, p2, p3, p4, p5, p6⟩ := h
  obtain ⟨q1, q2, q3, q4, q5, q6⟩ := h2
  exact ⟨zfr_tr p1 q1, ⟨q2.1, q2.2.1, q2.2.2.1, (p2.2.2.2.le hH).tr q2.2.2.2⟩, fun j j0 j1 => (q3 j j0 j1).trans (p3 j j0 j1), q4, fun p hp => (q5 p hp).trans (p5 p hp), fun p hp => (q6 p hp).trans (p6 p hp)⟩
theorem cseg_un (h1 : CSeg v cd a b L m r1 D1) (r0 : 0 ≤ r) (r3 : r ≤ 3) (h45 : cd.op b ≠ 45) (hop : cd.op b ≠ 10 ∧ cd.op b ≠ 11 ∧ cd.op b ≠ 12) (h : ∀ (σ : zS) (c : Nat) (w : BitVec 64) (e : Int → Int) (A : Nat → Int → Bool) (H : Int), CC σ c b (b + 1) cd → CO1 (bs w) σ v.n H r1 (fun β => D1 e (A β)) → ∃ τ, f_114 c b σ = some ((), τ) ∧ CR (bs w) σ τ v.n H r (fun β => D e (A β))) : CSeg v cd a (b + 1) L m r D := by
  obtain ⟨a0, ab, x0, x3, h1⟩ := h1
  refine ⟨a0, by omega, r0, r3, fun σ c k d w e A H to i hC hS hm d0 hd hH hto hto2 i0 i1 => ?_⟩
  obtain ⟨τ, i', g1, g2, g3, g4⟩ := h1 σ c k d w e A H to i (hC.sub (by omega) (by omega)) hS hm d0 hd hH (by omega) hto2 i0 (by omega)
  have hS2 := hS.next g4
  have hC2 := (hC.fr g4.1).sub (a2 := b) (b2 := b + 1) (by omega) (by omega)
  have H0 := hS.2.2.2.1
  obtain ⟨ω, e1, e2⟩ := h τ c w e A H hC2 ⟨hS2.1, hS2.2.2.1, H0, by omega, g4.2.1.2.1, g4.2.1.2.2.1⟩
  refine ⟨ω, i' + 1, by omega, by omega, ?_, g4.tr (CP.of hS2 (fr_114 e1) e2) (by omega)⟩
  rw [show (b + 1 - a).toNat = (b - a).toNat + 1 by omega]
  have ht := c_turn_apply (k := k) (d := d) (w := w) (to := to) (i := i') hC2 (by rw [hS2.2.2.1]; omega) h45 hop (by omega) hto2 (by omega) (by omega) e1
  exact g3.tr (zrch.one ht)
theorem cseg_bin (h1 : CSeg v cd a c L m1 r1 D1) (h2 : CSeg v cd c b L m2 r2 D2) (hm1 : m1 ≤ m) (hm2 : m2 + 1 ≤ m) (r0 : 0 ≤ r) (r3 : r ≤ 3) (h45 : cd.op b ≠ 45) (hop : cd.op b ≠ 10 ∧ cd.op b ≠ 11 ∧ cd.op b ≠ 12) (h : ∀ (σ : zS) (c : Nat) (w : BitVec 64) (e : Int → Int) (A : Nat → Int → Bool) (H : Int), CC σ c b (b + 1) cd → CO2 (bs w) σ v.n H r1 r2 (fun β => D1 e (A β)) (fun β => D2 e (A β)) → ∃ τ, f_114 c b σ = some ((), τ) ∧ CR (bs w) σ τ v.n H r (fun β => D e (A β))) : CSeg v cd a (b + 1) L m r D := by
  obtain ⟨a0, ab, x0, x3, h1⟩ := h1
  obtain ⟨b0, bb, y0, y3, h2⟩ := h2
  refine ⟨a0, by omega, r0, r3, fun σ cc k d w e A H to i hC hS hm d0 hd hH hto hto2 i0 i1 => ?_⟩
  obtain ⟨τ, i', g1, g2, g3, g4⟩ := h1 σ cc k d w e A H to i (hC.sub (by omega) (by omega)) hS (by omega) d0 (by omega) (by omega) (by omega) hto2 i0 (by omega)
  have hS2 := hS.next g4
  have H0 := hS.2.2.2.1
  obtain ⟨τ2, i2, k1, k2, k3, k4⟩ := h2 τ cc k d w e A (H + 1) to i' ((hC.fr g4.1).sub (by omega) (by omega)) hS2 (by omega) d0 (by omega) (by omega) (by omega) hto2 (by omega) (by omega)
  have hS3 := hS2.next k4
  have hC3 := ((hC.fr g4.1).fr k4.1).sub (a2 := b) (b2 := b + 1) (by omega) (by omega)
  have hN := npw_b hS.1.2.1 hS.1.2.2.1 x0 x3
  obtain ⟨ω, e1, e2⟩ := h τ2 cc w e A H hC3 ⟨hS3.1, by rw [hS3.2.2.1]; omega, H0, by omega, by rw [k4.2.1.2.2.2.2 H (by omega)]; exact g4.2.1.2.1, k4.2.1.2.1, g4.2.1.2.2.1.same (fun i i0 i1 => k4.2.1.2.2.2.1 _ (by omega)) hN.2, k4.2.1.2.2.1⟩
  refine ⟨ω, i2 + 1, by omega, by omega, ?_, (g4.tr (k4.tr (CP.of hS3 (fr_114 e1) e2) (by omega)) (by omega))⟩
  rw [show (b + 1 - a).toNat = (c - a).toNat + (b - c).toNat + 1 by omega]
  have ht := c_turn_apply (k := k) (d := d) (w := w) (to := to) (i := i2) hC3 (by rw [hS3.2.2.1]; omega) h45 hop (by omega) hto2 (by omega) (by omega) e1
  exact (g3.tr k3).tr (zrch.one ht)
end CSEG
