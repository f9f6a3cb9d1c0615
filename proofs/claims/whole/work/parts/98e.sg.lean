/-! SEGMENTS of both codes with one denotation. -/
theorem CSeg.congr {v : Wd} {cd : Cd} {a b L r : Int} {m : Nat} {D D' : Dn} (h : CSeg v cd a b L m r D) (hD : ∀ e A t, 0 ≤ t → t < v.n ^ r.toNat → D e A t = D' e A t) : CSeg v cd a b L m r D' := by
  obtain ⟨a0, ab, r0, r3, h⟩ := h
  refine ⟨a0, ab, r0, r3, fun σ c k d w e A H to i hC hS hk d0 hd hH hto hto2 i0 i1 => ?_⟩
  obtain ⟨τ, i', g1, g2, g3, p1, ⟨p2, p3, p4, p5⟩, p6⟩ := h σ c k d w e A H to i hC hS hk d0 hd hH hto hto2 i0 i1
  exact ⟨τ, i', g1, g2, g3, p1, ⟨p2, p3, fun β hb hw t t0 t1 => by rw [p4 β hb hw t t0 t1]; exact hD _ _ t t0 t1, p5⟩, p6⟩
theorem pow6_le {m m' : Nat} (h : m ≤ m') : 6 ^ m ≤ 6 ^ m' := Nat.pow_le_pow_right (by decide) h
theorem RSeg.mono {n R R' : Int} {ra ra' cd wt al cd' wt' al' : Int → Int} {a b L N : Int} {m m' : Nat} {D : Dn} (h : RSeg n R ra cd wt al a b L m N D) (hm : m ≤ m') (hR : R ≤ R') (hra : ∀ r, 0 ≤ r → r < R → ra' r = ra r) (hc : ∀ k, a ≤ k → k < b → cd' k = cd k ∧ wt' k = wt k ∧ al' k = al k) : RSeg n R' ra' cd' wt' al' a b L m' N D := by
  obtain ⟨ab, h⟩ := h
  refine ⟨ab, fun σ row e A T hC hM hT hL => ?_⟩
  obtain ⟨r1, r2, r3, r4, r5, r6⟩ := hC
  obtain ⟨m1, m2, m3, ⟨m4, m4'⟩, m5⟩ := hM
  obtain ⟨τ, t1, t2⟩ := h σ row e A T ⟨r1, r2, r3, r4, r5, fun k k0 k1 => by
    obtain ⟨c1, c2, c3⟩ := hc k k0 k1
    rw [← c1, ← c2, ← c3]
    exact r6 k k0 k1⟩ ⟨m1, m2, m3, ⟨by omega, fun r q0 q1 => by rw [← hra r q0 q1]; exact m4' r q0 (by omega)⟩, m5⟩ (by omega) (by omega)
  exact ⟨τ, t1.le (Nat.mul_le_mul_left _ (pow6_le hm)), t2⟩
abbrev Rc : Type := (Int → Int) × (Int → Int) × (Int → Int)
/-- what a denotation depends on: the variables that the code names -/
def Dep (n : Int) (sl : Int → Int) (cd : Cd) (a b L r : Int) (D : Dn) : Prop := ∀ (e e' : Int → Int) (A : Int → Bool), (∀ j, 0 ≤ j → j < L → (∃ k, a ≤ k ∧ k < b ∧ cd.op k = 43 ∧ cd.arg k = sl j) → e j = e' j) → ∀ t, 0 ≤ t → t < n ^ r.toNat → D e A t = D e' A t
/-- each variable is one of those around, or is bound further inside -/
def Sco (sl : Int → Int) (cd : Cd) (a b L dp : Int) : Prop := ∀ k, a ≤ k → k < b → cd.op k = 43 → 0 ≤ cd.arg k ∧ cd.arg k < 20 ∧ (cd.arg k < dp → ∃ j, 0 ≤ j ∧ j < L ∧ cd.arg k = sl j)
/-- names of atoms do not matter -/
def Eqv (n R : Int) (ra : Int → Int) (L r : Int) (D : Dn) : Prop := ∀ (π ρ : Int → Int), PM n π ρ → ∀ (e : Int → Int) (A A' : Int → Bool), (∀ j, 0 ≤ j → j < L → 0 ≤ e j ∧ e j < n) → (∀ q, 0 ≤ q → q < R → ∀ t, 0 ≤ t → t < n ^ (ra q).toNat → A' (125 * q + pt n π (ra q).toNat t) = A (125 * q + t)) → PE n π r.toNat (D (fun j => π (e j)) A') (D e A)
def Sg (v : Wd) (cd : Cd) (rc : Rc) (dp L a b a' b' r : Int) (D : Dn) : Prop :=
  (1 ≤ v.n ∧ v.n ≤ 5) ∧ 0 ≤ a' ∧ CSeg v cd a b L (20 - dp).toNat r D ∧ RSeg v.n v.R v.ra rc.1 rc.2.1 rc.2.2 a' b' L (20 - dp).toNat (v.n ^ r.toNat) D ∧ Dep v.n v.sl cd a b L r D ∧ Sco v.sl cd a b L dp ∧ Eqv v.n v.R v.ra L r D
theorem PM.id {n : Int} (h : 1 ≤ n) : PM n (fun x => x) (fun x => x) := ⟨h, fun x x0 x1 => ⟨x0, x1, x0, x1, rfl, rfl⟩⟩
theorem pt_id {n : Int} (h : 1 ≤ n) : ∀ (r : Nat) (t : Int), 0 ≤ t → t < n ^ r → pt n (fun x => x) r t = t
  | 0, t, t0, t1 => by
    rw [Int.pow_zero] at t1
    show (0 : Int) = t
    omega
  | r + 1, t, t0, t1 => by
    rw [pt, pt_id h r (t / n) (Int.ediv_nonneg t0 (by omega)) (div_lt_pow h t1), Int.mul_comm]
    exact Int.mul_ediv_add_emod t n
theorem PE.of_id {n : Int} {r : Nat} {X X' : Vl} (h : 1 ≤ n) (hX : ∀ t, 0 ≤ t → t < n ^ r → X' t = X t) : PE n (fun x => x) r X' X := fun t t0 t1 => by rw [pt_id h r t t0 t1]; exact hX t t0 t1
theorem PE.at_id {n : Int} {r : Nat} {X X' : Vl} (h : 1 ≤ n) (hX : PE n (fun x => x) r X' X) (t : Int) (t0 : 0 ≤ t) (t1 : t < n ^ r) : X' t = X t := by
  have := hX t t0 t1
  rw [pt_id h r t t0 t1] at this
  exact this
theorem pe_truth {n : Int} {π : Int → Int} {x y : Bool} (h : x = y) : PE n π 0 (fun _ => x) (fun _ => y) := fun _ _ _ => h
theorem pe_at0 {n : Int} {π : Int → Int} {X X' : Vl} (h : PE n π 0 X' X) : X' 0 = X 0 := h 0 (by decide) (by rw [Int.pow_zero]; decide)
section CLOSE
variable {n R L r r1 r2 a b a1 b1 a2 b2 dp dp2 : Int} {ra sl : Int → Int} {cd : Cd} {D D1 D2 : Dn}
theorem Dep.un {op : Vl → Vl} (n1 : 1 ≤ n) (h1 : Dep n sl cd a1 b1 L r1 D1) (ha : a ≤ a1) (hb : b1 ≤ b) (hop : ∀ π ρ X X', PM n π ρ → PE n π r1.toNat X' X → PE n π r.toNat (op X') (op X)) : Dep n sl cd a b L r (fun e A => op (D1 e A)) := by
  intro e e' A he
  have h := hop _ _ (D1 e' A) (D1 e A) (PM.id n1) (PE.of_id n1 (h1 e e' A (fun j j0 j1 ⟨k, k0, k1, k2⟩ => he j j0 j1 ⟨k, by omega, by omega, k2⟩)))
  exact h.at_id n1
theorem Dep.bin {op : Vl → Vl → Vl} (n1 : 1 ≤ n) (h1 : Dep n sl cd a1 b1 L r1 D1) (h2 : Dep n sl cd a2 b2 L r2 D2) (ha : a ≤ a1) (hb : b1 ≤ b) (ha2 : a ≤ a2) (hb2 : b2 ≤ b) (hop : ∀ π ρ X X' Y Y', PM n π ρ → PE n π r1.toNat X' X → PE n π r2.toNat Y' Y → PE n π r.toNat (op X' Y') (op X Y)) : Dep n sl cd a b L r (fun e A => op (D1 e A) (D2 e A)) := by
  intro e e' A he
  have h := hop _ _ (D1 e' A) (D1 e A) (D2 e' A) (D2 e A) (PM.id n1) (PE.of_id n1 (h1 e e' A (fun j j0 j1 ⟨k, k0, k1, k2⟩ => he j j0 j1 ⟨k, by omega, by omega, k2⟩))) (PE.of_id n1 (h2 e e' A (fun j j0 j1 ⟨k, k0, k1, k2⟩ => he j j0 j1 ⟨k, by omega, by omega, k2⟩)))
  exact h.at_id n1
theorem Eqv.un {op : Vl → Vl} (h1 : Eqv n R ra L r1 D1) (hop : ∀ π ρ X X', PM n π ρ → PE n π r1.toNat X' X → PE n π r.toNat (op X') (op X)) : Eqv n R ra L r (fun e A => op (D1 e A)) := fun π ρ hp e A A' he hA => hop π ρ _ _ hp (h1 π ρ hp e A A' he hA)
theorem Eqv.bin {op : Vl → Vl → Vl} (h1 : Eqv n R ra L r1 D1) (h2 : Eqv n R ra L r2 D2) (hop : ∀ π ρ X X' Y Y', PM n π ρ → PE n π r1.toNat X' X → PE n π r2.toNat Y' Y → PE n π r.toNat (op X' Y') (op X Y)) : Eqv n R ra L r (fun e A => op (D1 e A) (D2 e A)) := fun π ρ hp e A A' he hA => hop π ρ _ _ _ _ hp (h1 π ρ hp e A A' he hA) (h2 π ρ hp e A A' he hA)
theorem Sco.ext (h1 : Sco sl cd a b1 L dp) (hb : b = b1 + 1) (h43 : cd.op b1 ≠ 43) : Sco sl cd a b L dp := fun k k0 k1 hk => h1 k k0 (by
  by_cases e : k = b1
  · rw [e] at hk; exact absurd hk h43
  · omega) hk
theorem Sco.two (h1 : Sco sl cd a1 b1 L dp) (h2 : Sco sl cd a2 b2 L dp2) (hd : dp ≤ dp2) (hc : ∀ k, a ≤ k → k < b → cd.op k = 43 → (a1 ≤ k ∧ k < b1) ∨ (a2 ≤ k ∧ k < b2)) : Sco sl cd a b L dp := by
  intro k k0 k1 hk
  rcases hc k k0 k1 hk with ⟨h3, h4⟩ | ⟨h3, h4⟩
  · exact h1 k h3 h4 hk
  · obtain ⟨g1, g2, g3⟩ := h2 k h3 h4 hk
    exact ⟨g1, g2, fun h => g3 (by omega)⟩
end CLOSE
theorem Sg.mono {v v' : Wd} {cd cd' : Cd} {rc rc' : Rc} {dp L a b a' b' r : Int} {D : Dn} (h : Sg v cd rc dp L a b a' b' r D) (hn : v'.n = v.n) (hR : v'.R = v.R) (hra : v'.ra = v.ra) (hsl : ∀ j, 0 ≤ j → j < L → v'.sl j = v.sl j) (hK0 : 0 ≤ v.K) (hK : v.K ≤ v'.K) (hW : ∀ k, 0 ≤ k → k < v.K → v'.W k = v.W k ∧ v'.F k = v.F k) (hcd : ∀ k, a ≤ k → k < b → cd'.op k = cd.op k ∧ cd'.arg k = cd.arg k ∧ cd'.sg k = cd.sg k ∧ cd'.md k = cd.md k ∧ cd'.en k = cd.en k ∧ cd'.us k = cd.us k ∧ cd'.mm k = cd.mm k) (hrc : ∀ k, a' ≤ k → k < b' → rc'.1 k = rc.1 k ∧ rc'.2.1 k = rc.2.1 k ∧ rc'.2.2 k = rc.2.2 k) : Sg v' cd' rc' dp L a b a' b' r D := by
  obtain ⟨h1, h2, h3, h4, h5, h6, h7⟩ := h
  have hk : ∀ j, 0 ≤ j → j < L → ∀ k, a ≤ k → k < b → cd.op k = 43 → cd.arg k = v.sl j → (cd'.op k = 43 ∧ cd'.arg k = v'.sl j) := fun j j0 j1 k k0 k1 c1 c2 => by
    obtain ⟨d1, d2, -⟩ := hcd k k0 k1
    exact ⟨by rw [d1]; exact c1, by rw [d2, hsl j j0 j1]; exact c2⟩
  refine ⟨by rw [hn]; exact h1, h2, h3.mono hn (by omega) (fun r _ _ => by rw [hra]) hsl hK0 hK hW hcd (Nat.le_refl _), ?_, ?_, ?_, by rw [hn, hR, hra]; exact h7⟩
  · rw [hn]
    exact h4.mono (Nat.le_refl _) (by omega) (fun r _ _ => by rw [hra]) hrc
  · intro e e' A he t t0 t1
    rw [hn] at t1
    refine h5 e e' A (fun j j0 j1 ⟨k, k0, k1, c1, c2⟩ => he j j0 j1 ⟨k, k0, k1, hk j j0 j1 k k0 k1 c1 c2⟩) t t0 t1
  · intro k k0 k1 c1
    obtain ⟨d1, d2, -⟩ := hcd k k0 k1
    rw [d1] at c1
    obtain ⟨g1, g2, g3⟩ := h6 k k0 k1 c1
    rw [d2]
    exact ⟨g1, g2, fun h => by
      obtain ⟨j, j0, j1, j2⟩ := g3 h
      exact ⟨j, j0, j1, by rw [hsl j j0 j1]; exact j2⟩⟩
section SG
variable {v : Wd} {cd : Cd} {rc : Rc} {dp L a b c a' b' c' r r1 r2 : Int} {D D1 D2 : Dn}
theorem Sg.r_b (h : Sg v cd rc dp L a b a' b' r D) : 0 ≤ r ∧ r ≤ 3 ∧ 0 ≤ a ∧ a < b ∧ 0 ≤ a' ∧ a' < b' ∧ 1 ≤ v.n ^ r.toNat ∧ v.n ^ r.toNat ≤ 125 := by
  have hb := npw_b h.1.1 h.1.2 h.2.2.1.2.2.1 h.2.2.1.2.2.2.1
  exact ⟨h.2.2.1.2.2.1, h.2.2.1.2.2.2.1, h.2.2.1.1, h.2.2.1.2.1, h.2.1, h.2.2.2.1.1, hb.1, hb.2⟩
/-- an operator behind its operand -/
theorem sg_un {op : Vl → Vl} (h1 : Sg v cd rc dp L a b a' b' r1 D1) (hC : CSeg v cd a (b + 1) L (20 - dp).toNat r (fun e A => op (D1 e A))) (hR : RSeg v.n v.R v.ra rc.1 rc.2.1 rc.2.2 a' (b' + 1) L (20 - dp).toNat (v.n ^ r.toNat) (fun e A => op (D1 e A))) (h43 : cd.op b ≠ 43) (hop : ∀ π ρ X X', PM v.n π ρ → PE v.n π r1.toNat X' X → PE v.n π r.toNat (op X') (op X)) : Sg v cd rc dp L a (b + 1) a' (b' + 1) r (fun e A => op (D1 e A)) := by
  obtain ⟨g1, g2, g3, g4, g5, g6, g7⟩ := h1
  exact ⟨g1, g2, hC, hR, g5.un g1.1 (Int.le_refl _) (by omega) hop, g6.ext rfl h43, g7.un hop⟩
/-- an operator behind its two operands -/
theorem sg_bin {op : Vl → Vl → Vl} (h1 : Sg v cd rc dp L a c a' c' r1 D1) (h2 : Sg v cd rc (dp + 1) L c b c' b' r2 D2) (hC : CSeg v cd a (b + 1) L (20 - dp).toNat r (fun e A => op (D1 e A) (D2 e A))) (hR : RSeg v.n v.R v.ra rc.1 rc.2.1 rc.2.2 a' (b' + 1) L (20 - dp).toNat (v.n ^ r.toNat) (fun e A => op (D1 e A) (D2 e A))) (h43 : cd.op b ≠ 43) (hop : ∀ π ρ X X' Y Y', PM v.n π ρ → PE v.n π r1.toNat X' X → PE v.n π r2.toNat Y' Y → PE v.n π r.toNat (op X' Y') (op X Y)) : Sg v cd rc dp L a (b + 1) a' (b' + 1) r (fun e A => op (D1 e A) (D2 e A)) := by
  have ac := h1.2.2.1.2.1
  have cb := h2.2.2.1.2.1
  obtain ⟨g1, g2, g3, g4, g5, g6, g7⟩ := h1
  obtain ⟨k1, k2, k3, k4, k5, k6, k7⟩ := h2
  refine ⟨g1, g2, hC, hR, g5.bin g1.1 k5 (by omega) (by omega) (by omega) (by omega) hop, g6.two k6 (by omega) (fun k k0 k1 hk => ?_), g7.bin k7 hop⟩
  by_cases e : k = b
  · rw [e] at hk; exact absurd hk h43
  · omega
theorem sg_not (h1 : Sg v cd rc dp L a b a' b' 0 D1) (hc : cd.op b = 9) (hd : rc.1 b' = 15) : Sg v cd rc dp L a (b + 1) a' (b' + 1) 0 (fun e A _ => !D1 e A 0) := by
  have hb := h1.r_b
  refine sg_un (op := fun X _ => !X 0) h1 (cseg_not h1.2.2.1 hc) ?_ (by omega) (fun π ρ X X' hp hX => pe_truth (by rw [pe_at0 hX]))
  have hR := h1.2.2.2.1
  rw [npw_0] at hR ⊢
  exact seg_not hR (by omega) hd
theorem sg_mult {q : Int} (h1 : Sg v cd rc dp L a b a' b' r1 D1) (q1 : 1 ≤ q) (q4 : q ≤ 4) (hc : cd.op b = 4 + q) (hd : rc.1 b' = 6) (hw : rc.2.1 b' = q) : Sg v cd rc dp L a (b + 1) a' (b' + 1) 0 (fun e A _ => vQty q (zcnt (v.n ^ r1.toNat).toNat (D1 e A)) (-1)) := by
  have hb := h1.r_b
  refine sg_un (op := fun X _ => vQty q (zcnt (v.n ^ r1.toNat).toNat X) (-1)) h1 (cseg_mult h1.2.2.1 hc q1 q4) ?_ (by omega) (fun π ρ X X' hp hX => pe_truth (by rw [pe_cnt hp hX]))
  rw [npw_0]
  exact seg_mult h1.2.2.2.1 (by omega) (by omega) (by omega) hd hw q1 q4
theorem sg_count {sg k : Int} (h1 : Sg v cd rc dp L a b a' b' r1 D1) (hs : sg = 32 ∨ sg = 33 ∨ sg = 34) (k0 : 0 ≤ k) (k1 : k < 1000) (hc : cd.op b = 31) (hcs : cd.sg b = sg) (hca : cd.arg b = k) (hd : rc.1 b' = 5) (hw : rc.2.1 b' = sg + 10) (hal : rc.2.2 b' = k) : Sg v cd rc dp L a (b + 1) a' (b' + 1) 0 (fun e A _ => vSize (sg + 10) (zcnt (v.n ^ r1.toNat).toNat (D1 e A)) k) := by
  have hb := h1.r_b
  refine sg_un (op := fun X _ => vSize (sg + 10) (zcnt (v.n ^ r1.toNat).toNat X) k) h1 (cseg_count h1.2.2.1 hc hcs hca k0 (by omega)) ?_ (by omega) (fun π ρ X X' hp hX => pe_truth (by rw [pe_cnt hp hX]))
  rw [npw_0]
  exact seg_count h1.2.2.2.1 (by omega) (by omega) (by omega) hd hw hal ⟨by omega, by omega⟩ ⟨by omega, by omega⟩
theorem sg_tilde (h1 : Sg v cd rc dp L a b a' b' 2 D1) (hc : cd.op b = 28) (hd : rc.1 b' = 38) : Sg v cd rc dp L a (b + 1) a' (b' + 1) 2 (fun e A => vTilde v.n (D1 e A)) := by
  have hb := h1.r_b
  refine sg_un (op := vTilde v.n) h1 (cseg_tilde h1.2.2.1 hc) ?_ (by omega) (fun π ρ X X' hp hX => pe_tilde hp hX)
  have hR := h1.2.2.2.1
  rw [npw_2] at hR ⊢
  exact seg_tilde hR (by omega) hd
theorem sg_hat (h1 : Sg v cd rc dp L a b a' b' 2 D1) (hc : cd.op b = 29) (hd : rc.1 b' = 39) : Sg v cd rc dp L a (b + 1) a' (b' + 1) 2 (fun e A => vHat v.n (D1 e A)) := by
  have hb := h1.r_b
  refine sg_un (op := vHat v.n) h1 (cseg_hat h1.2.2.1 hc) ?_ (by omega) (fun π ρ X X' hp hX => pe_hat hp hX)
  have hR := h1.2.2.2.1
  rw [npw_2] at hR ⊢
  exact seg_hat hR (by omega) hd
theorem sg_star (h1 : Sg v cd rc dp L a b a' b' 2 D1) (hc : cd.op b = 30) (hd : rc.1 b' = 40) : Sg v cd rc dp L a (b + 1) a' (b' + 1) 2 (fun e A => vStar v.n (D1 e A)) := by
  have hb := h1.r_b
  refine sg_un (op := vStar v.n) h1 (cseg_star h1.2.2.1 hc) ?_ (by omega) (fun π ρ X X' hp hX => pe_star hp hX)
  have hR := h1.2.2.2.1
  rw [npw_2] at hR ⊢
  exact seg_star hR (by omega) hd
theorem sg_in (h1 : Sg v cd rc dp L a c a' c' r1 D1) (h2 : Sg v cd rc (dp + 1) L c b c' b' r1 D2) (d0 : 0 ≤ dp) (d20 : dp < 20) (hc : cd.op b = 14) (hd : rc.1 b' = 20) : Sg v cd rc dp L a (b + 1) a' (b' + 1) 0 (fun e A _ => vIn (v.n ^ r1.toNat) (D1 e A) (D2 e A)) := by
  have hb := h1.r_b
  have hb2 := h2.r_b
  refine sg_bin (op := fun X Y _ => vIn (v.n ^ r1.toNat) X Y) h1 h2 (cseg_in h1.2.2.1 h2.2.2.1 (by omega) (by omega) hc) ?_ (by omega) (fun π ρ X X' Y Y' hp hX hY => pe_truth (pe_in hp hX hY))
  rw [npw_0]
  exact seg_in h1.2.2.2.1 h2.2.2.2.1 (by omega) (by omega) (by omega) (by omega) hd
theorem sg_eq (h1 : Sg v cd rc dp L a c a' c' r1 D1) (h2 : Sg v cd rc (dp + 1) L c b c' b' r1 D2) (d0 : 0 ≤ dp) (d20 : dp < 20) (hc : cd.op b = 32) (hd : rc.1 b' = 42) : Sg v cd rc dp L a (b + 1) a' (b' + 1) 0 (fun e A _ => vEq (v.n ^ r1.toNat) (D1 e A) (D2 e A)) := by
  have hb := h1.r_b
  have hb2 := h2.r_b
  refine sg_bin (op := fun X Y _ => vEq (v.n ^ r1.toNat) X Y) h1 h2 (cseg_eq h1.2.2.1 h2.2.2.1 (by omega) (by omega) hc) ?_ (by omega) (fun π ρ X X' Y Y' hp hX hY => pe_truth (pe_eq hp hX hY))
  rw [npw_0]
  exact seg_eq h1.2.2.2.1 h2.2.2.2.1 (by omega) (by omega) (by omega) (by omega) hd
theorem sg_arrow (h1 : Sg v cd rc dp L a c a' c' r1 D1) (h2 : Sg v cd rc (dp + 1) L c b c' b' r2 D2) (d0 : 0 ≤ dp) (d20 : dp < 20) (x1 : 1 ≤ r1) (y1 : 1 ≤ r2) (hxy : r1 + r2 ≤ 3) (hc : cd.op b = 20) (hd : rc.1 b' = 30) (hw : rc.2.1 b' = r1) (ha : rc.2.2 b' = r2) : Sg v cd rc dp L a (b + 1) a' (b' + 1) (r1 + r2) (fun e A => vArrow (v.n ^ r2.toNat) (D1 e A) (D2 e A)) := by
  have hb := h1.r_b
  have hb2 := h2.r_b
  refine sg_bin (op := vArrow (v.n ^ r2.toNat)) h1 h2 (cseg_arrow h1.2.2.1 h2.2.2.1 (by omega) (by omega) hc x1 y1 hxy) (seg_arrow h1.2.2.2.1 h2.2.2.2.1 (by omega) (by omega) (by omega) hd hw ha x1 y1 hxy) (by omega) (fun π ρ X X' Y Y' hp hX hY => ?_)
  rw [show (r1 + r2).toNat = r1.toNat + r2.toNat by omega]
  exact pe_arrow hp hX hY
theorem sg_dot (h1 : Sg v cd rc dp L a c a' c' r1 D1) (h2 : Sg v cd rc (dp + 1) L c b c' b' r2 D2) (d0 : 0 ≤ dp) (d20 : dp < 20) (x1 : 1 ≤ r1) (y1 : 1 ≤ r2) (hxy : r1 + r2 - 2 ≤ 3) (hc : cd.op b = 27) (hd : rc.1 b' = 37) (hw : rc.2.1 b' = r1) (ha : rc.2.2 b' = r2) : Sg v cd rc dp L a (b + 1) a' (b' + 1) (r1 + r2 - 2) (fun e A => vDot v.n (v.n ^ (r2 - 1).toNat) (D1 e A) (D2 e A)) := by
  have hb := h1.r_b
  have hb2 := h2.r_b
  refine sg_bin (op := vDot v.n (v.n ^ (r2 - 1).toNat)) h1 h2 (cseg_dot h1.2.2.1 h2.2.2.1 (by omega) (by omega) hc x1 y1 hxy (by omega)) (seg_dot h1.2.2.2.1 h2.2.2.2.1 (by omega) (by omega) (by omega) hd hw ha x1 (by omega) y1 (by omega) hxy) (by omega) (fun π ρ X X' Y Y' hp hX hY => ?_)
  rw [show (r1 + r2 - 2).toNat = (r1 - 1).toNat + (r2 - 1).toNat by omega]
  rw [show r1.toNat = (r1 - 1).toNat + 1 by omega] at hX
  rw [show r2.toNat = 1 + (r2 - 1).toNat by omega] at hY
  exact pe_dot hp hX hY
theorem sg_over (h1 : Sg v cd rc dp L a c a' c' 2 D1) (h2 : Sg v cd rc (dp + 1) L c b c' b' 2 D2) (d0 : 0 ≤ dp) (d20 : dp < 20) (hc : cd.op b = 21) (hd : rc.1 b' = 31) : Sg v cd rc dp L a (b + 1) a' (b' + 1) 2 (fun e A => vOver v.n (D1 e A) (D2 e A)) := by
  have hb := h1.r_b
  have hb2 := h2.r_b
  refine sg_bin (op := vOver v.n) h1 h2 (cseg_over h1.2.2.1 h2.2.2.1 (by omega) (by omega) hc) ?_ (by omega) (fun π ρ X X' Y Y' hp hX hY => pe_over hp hX hY)
  have hR := h1.2.2.2.1
  have hR2 := h2.2.2.2.1
  rw [npw_2] at hR hR2 ⊢
  exact seg_over hR hR2 (by omega) (by omega) (by omega) hd
theorem sg_first (h1 : Sg v cd rc dp L a c a' c' 1 D1) (h2 : Sg v cd rc (dp + 1) L c b c' b' r2 D2) (d0 : 0 ≤ dp) (d20 : dp < 20) (y1 : 1 ≤ r2) (hc : cd.op b = 22) (hd : rc.1 b' = 32) (ha : rc.2.2 b' = r2) : Sg v cd rc dp L a (b + 1) a' (b' + 1) r2 (fun e A => vFirst (v.n ^ (r2 - 1).toNat) (D1 e A) (D2 e A)) := by
  have hb := h1.r_b
  have hb2 := h2.r_b
  refine sg_bin (op := vFirst (v.n ^ (r2 - 1).toNat)) h1 h2 (cseg_first h1.2.2.1 h2.2.2.1 (by omega) (by omega) hc y1) ?_ (by omega) (fun π ρ X X' Y Y' hp hX hY => ?_)
  · have hR := h1.2.2.2.1
    rw [npw_1] at hR
    exact seg_first hR h2.2.2.2.1 (by omega) (by omega) (by omega) hd ha y1 (by omega)
  · rw [show r2.toNat = 1 + (r2 - 1).toNat by omega] at hY ⊢
    exact pe_first hp hX hY
theorem sg_last (h1 : Sg v cd rc dp L a c a' c' r1 D1) (h2 : Sg v cd rc (dp + 1) L c b c' b' 1 D2) (d0 : 0 ≤ dp) (d20 : dp < 20) (x1 : 1 ≤ r1) (hc : cd.op b = 23) (hd : rc.1 b' = 33) (hw : rc.2.1 b' = r1) : Sg v cd rc dp L a (b + 1) a' (b' + 1) r1 (fun e A => vLast v.n (D1 e A) (D2 e A)) := by
  have hb := h1.r_b
  have hb2 := h2.r_b
  refine sg_bin (op := vLast v.n) h1 h2 (cseg_last h1.2.2.1 h2.2.2.1 (by omega) (by omega) hc x1) ?_ (by omega) (fun π ρ X X' Y Y' hp hX hY => ?_)
  · have hR := h2.2.2.2.1
    rw [npw_1] at hR
    exact seg_last h1.2.2.2.1 hR (by omega) (by omega) (by omega) hd hw (by omega) (by omega)
  · rw [show r1.toNat = (r1 - 1).toNat + 1 by omega] at hX ⊢
    exact pe_last hp hX hY
theorem sg_plus (h1 : Sg v cd rc dp L a c a' c' r D1) (h2 : Sg v cd rc (dp + 1) L c b c' b' r D2) (d0 : 0 ≤ dp) (d20 : dp < 20) (hc : cd.op b = 24) (hd : rc.1 b' = 34) : Sg v cd rc dp L a (b + 1) a' (b' + 1) r (fun e A t => D1 e A t || D2 e A t) := by
  have hb := h1.r_b
  have hb2 := h2.r_b
  refine sg_bin (op := fun X Y t => X t || Y t) h1 h2 ((cseg_word h1.2.2.1 h2.2.2.1 (by omega) (by omega) hc (by omega)).congr (fun e A t _ _ => rfl)) (seg_plus h1.2.2.2.1 h2.2.2.2.1 (by omega) (by omega) (by omega) hd) (by omega) (fun π ρ X X' Y Y' hp hX hY t t0 t1 => by dsimp only; rw [hX t t0 t1, hY t t0 t1])
theorem sg_minus (h1 : Sg v cd rc dp L a c a' c' r D1) (h2 : Sg v cd rc (dp + 1) L c b c' b' r D2) (d0 : 0 ≤ dp) (d20 : dp < 20) (hc : cd.op b = 25) (hd : rc.1 b' = 35) : Sg v cd rc dp L a (b + 1) a' (b' + 1) r (fun e A t => D1 e A t && !D2 e A t) := by
  have hb := h1.r_b
  have hb2 := h2.r_b
  refine sg_bin (op := fun X Y t => X t && !Y t) h1 h2 ((cseg_word h1.2.2.1 h2.2.2.1 (by omega) (by omega) hc (by omega)).congr (fun e A t _ _ => rfl)) (seg_minus h1.2.2.2.1 h2.2.2.2.1 (by omega) (by omega) (by omega) hd) (by omega) (fun π ρ X X' Y Y' hp hX hY t t0 t1 => by dsimp only; rw [hX t t0 t1, hY t t0 t1])
theorem sg_meet (h1 : Sg v cd rc dp L a c a' c' r D1) (h2 : Sg v cd rc (dp + 1) L c b c' b' r D2) (d0 : 0 ≤ dp) (d20 : dp < 20) (hc : cd.op b = 26) (hd : rc.1 b' = 36) : Sg v cd rc dp L a (b + 1) a' (b' + 1) r (fun e A t => D1 e A t && D2 e A t) := by
  have hb := h1.r_b
  have hb2 := h2.r_b
  refine sg_bin (op := fun X Y t => X t && Y t) h1 h2 ((cseg_word h1.2.2.1 h2.2.2.1 (by omega) (by omega) hc (by omega)).congr (fun e A t _ _ => rfl)) (seg_meet h1.2.2.2.1 h2.2.2.2.1 (by omega) (by omega) (by omega) hd) (by omega) (fun π ρ X X' Y Y' hp hX hY t t0 t1 => by dsimp only; rw [hX t t0 t1, hY t t0 t1])
theorem sg_iff (h1 : Sg v cd rc dp L a c a' c' 0 D1) (h2 : Sg v cd rc (dp + 1) L c b c' b' 0 D2) (d0 : 0 ≤ dp) (d20 : dp < 20) (hc : cd.op b = 13) (hd : rc.1 b' = 19) : Sg v cd rc dp L a (b + 1) a' (b' + 1) 0 (fun e A _ => vLink 19 (D1 e A 0) (D2 e A 0)) := by
  have hb := h1.r_b
  have hb2 := h2.r_b
  refine sg_bin (op := fun X Y _ => vLink 19 (X 0) (Y 0)) h1 h2 ((cseg_word h1.2.2.1 h2.2.2.1 (by omega) (by omega) hc (by omega)).congr (fun e A t t0 t1 => ?_)) ?_ (by omega) (fun π ρ X X' Y Y' hp hX hY => pe_truth (by rw [pe_at0 hX, pe_at0 hY]))
  · rw [npw_0] at t1
    rw [show t = 0 by omega]
    rfl
  · have hR := h1.2.2.2.1
    have hR2 := h2.2.2.2.1
    rw [npw_0] at hR hR2 ⊢
    exact seg_link (by omega) hR hR2 (by omega) (by omega) (by omega) hd
theorem sg_link {op : Int} (hop : op = 10 ∨ op = 11 ∨ op = 12) (h1 : Sg v cd rc dp L a c a' c' 0 D1) (h2 : Sg v cd rc (dp + 1) L (c + 1) b c' b' 0 D2) (d0 : 0 ≤ dp) (d20 : dp < 20) (hc : cd.op c = op) (hen : cd.en c = b) (hd : rc.1 b' = op + 6) : Sg v cd rc dp L a b a' (b' + 1) 0 (fun e A _ => vLink (op + 6) (D1 e A 0) (D2 e A 0)) := by
  have hb := h1.r_b
  have hb2 := h2.r_b
  have hR := h1.2.2.2.1
  have hR2 := h2.2.2.2.1
  rw [npw_0] at hR hR2
  have hpe : ∀ π ρ X X' Y Y', PM v.n π ρ → PE v.n π (0 : Int).toNat X' X → PE v.n π (0 : Int).toNat Y' Y → PE v.n π (0 : Int).toNat ((fun X Y _ => vLink (op + 6) (X 0) (Y 0)) X' Y') ((fun X Y _ => vLink (op + 6) (X 0) (Y 0)) X Y) := fun π ρ X X' Y Y' hp hX hY => pe_truth (by rw [pe_at0 hX, pe_at0 hY])
  refine ⟨h1.1, h1.2.1, cseg_link hop h1.2.2.1 h2.2.2.1 (by omega) (by omega) hc hen, ?_, Dep.bin (op := fun X Y _ => vLink (op + 6) (X 0) (Y 0)) h1.1.1 h1.2.2.2.2.1 h2.2.2.2.2.1 (by omega) (by omega) (by omega) (by omega) hpe, h1.2.2.2.2.2.1.two h2.2.2.2.2.2.1 (by omega) (fun k k0 k1 hk => ?_), Eqv.bin (op := fun X Y _ => vLink (op + 6) (X 0) (Y 0)) h1.2.2.2.2.2.2 h2.2.2.2.2.2.2 hpe⟩
  · rw [npw_0]
    exact seg_link (by omega) hR hR2 (by omega) (by omega) (by omega) hd
  · by_cases e : k = c
    · rw [e] at hk; omega
    · omega
/-- leaves -/
theorem sg_leaf (hn : 1 ≤ v.n ∧ v.n ≤ 5) (a0 : 0 ≤ a') (hC : CSeg v cd a (a + 1) L 0 r D) (hR : RSeg v.n v.R v.ra rc.1 rc.2.1 rc.2.2 a' (a' + 1) L 0 (v.n ^ r.toNat) D) (hD : Dep v.n v.sl cd a (a + 1) L r D) (hS : Sco v.sl cd a (a + 1) L dp) (hE : Eqv v.n v.R v.ra L r D) : Sg v cd rc dp L a (a + 1) a' (a' + 1) r D := by
  refine ⟨hn, a0, ?_, hR.mono (Nat.zero_le _) (Int.le_refl _) (fun _ _ _ => rfl) (fun _ _ _ => ⟨rfl, rfl, rfl⟩), hD, hS, hE⟩
  obtain ⟨x0, x1, x2, x3, h⟩ := hC
  exact ⟨x0, x1, x2, x3, fun σ c k d w e A H to i hC hS hk d0 hd hH => h σ c k d w e A H to i hC hS (Nat.zero_le _) d0 (by omega) (by omega)⟩
theorem Sco.none (h43 : cd.op a ≠ 43) : Sco v.sl cd a (a + 1) L dp := fun k k0 k1 hk => by
  rw [show k = a by omega] at hk
  exact absurd hk h43
theorem sg_rel {q : Int} (hn : 1 ≤ v.n ∧ v.n ≤ 5) (a0 : 0 ≤ a) (a0' : 0 ≤ a') (q0 : 0 ≤ q) (q1 : q < v.R) (hr : v.ra q = r) (r0 : 0 ≤ r) (r3 : r ≤ 3) (hc : cd.op a = 44) (hq : cd.arg a = q) (hd : rc.1 a' = 1) (hw : rc.2.1 a' = q) : Sg v cd rc dp L a (a + 1) a' (a' + 1) r (fun _ A t => A (125 * q + t)) := by
  refine sg_leaf hn a0' (cseg_rel a0 hc hq q0 q1 hr r0 r3) ?_ (fun e e' A _ t _ _ => rfl) (Sco.none (by omega)) (fun π ρ hp e A A' he hA => ?_)
  · rw [← hr]
    exact seg_rel a0' hd hw q0 q1
  · intro t t0 t1
    rw [← hr] at t1 ⊢
    exact hA q q0 q1 t t0 t1
theorem sg_const {op : Int} {x : Bool} (hn : 1 ≤ v.n ∧ v.n ≤ 5) (a0 : 0 ≤ a) (a0' : 0 ≤ a') (h : (op = 15 ∧ r = 1 ∧ x = false) ∨ (op = 16 ∧ r = 1 ∧ x = true) ∨ (op = 18 ∧ r = 0 ∧ x = true) ∨ (op = 19 ∧ r = 0 ∧ x = false)) (hc : cd.op a = op) (hd : rc.1 a' = op + 6) : Sg v cd rc dp L a (a + 1) a' (a' + 1) r (fun _ _ _ => x) := by
  refine sg_leaf hn a0' (cseg_const a0 hc h) ?_ (fun e e' A _ t _ _ => rfl) (Sco.none (by omega)) (fun π ρ hp e A A' he hA => fun t t0 t1 => rfl)
  rcases h with ⟨rfl, rfl, rfl⟩ | ⟨rfl, rfl, rfl⟩ | ⟨rfl, rfl, rfl⟩ | ⟨rfl, rfl, rfl⟩
  · rw [npw_1]; exact seg_none a0' hd
  · rw [npw_1]; exact seg_univ a0' hd
  · rw [npw_0]; exact seg_true a0' hd
  · rw [npw_0]; exact seg_false a0' hd
theorem sg_iden (hn : 1 ≤ v.n ∧ v.n ≤ 5) (a0 : 0 ≤ a) (a0' : 0 ≤ a') (hc : cd.op a = 17) (hd : rc.1 a' = 23) : Sg v cd rc dp L a (a + 1) a' (a' + 1) 2 (fun _ _ => vIden v.n) := by
  refine sg_leaf hn a0' (cseg_iden a0 hc) ?_ (fun e e' A _ t _ _ => rfl) (Sco.none (by omega)) (fun π ρ hp e A A' he hA => pe_iden hp)
  rw [npw_2]
  exact seg_iden a0' hd
theorem sg_var {j : Int} (hn : 1 ≤ v.n ∧ v.n ≤ 5) (a0 : 0 ≤ a) (a0' : 0 ≤ a') (j0 : 0 ≤ j) (j1 : j < L) (s0 : 0 ≤ v.sl j) (s1 : v.sl j < 20) (hc : cd.op a = 43) (hj : cd.arg a = v.sl j) (hd : rc.1 a' = 2) (hw : rc.2.1 a' = j) : Sg v cd rc dp L a (a + 1) a' (a' + 1) 1 (fun e _ t => decide (t = e j)) := by
  refine sg_leaf hn a0' (cseg_var a0 hc hj j0 j1) ?_ (fun e e' A he t _ _ => ?_) (fun k k0 k1 hk => ?_) (fun π ρ hp e A A' he hA => fun t t0 t1 => ?_)
  · rw [npw_1]; exact seg_var a0' hd hw j0 j1
  · rw [he j j0 j1 ⟨a, by omega, by omega, hc, hj⟩]
  · rw [show k = a by omega, hj]
    exact ⟨s0, s1, fun _ => ⟨j, j0, j1, rfl⟩⟩
  · rw [npw_1] at t1
    have e1 : pt v.n π (1 : Int).toNat t = π t := pt_1 hp t0 t1
    rw [e1]
    obtain ⟨-, -, -, -, -, p6⟩ := hp.2 t t0 t1
    obtain ⟨-, -, -, -, -, q6⟩ := hp.2 (e j) (he j j0 j1).1 (he j j0 j1).2
    apply decide_eq_decide.mpr
    constructor
    · intro h; rw [← p6, ← q6, h]
    · intro h; rw [h]
end SG
