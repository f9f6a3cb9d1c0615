/-! NAMES OF ATOMS exchanged: what every operator keeps. -/
/-- π exchanges the atoms, ρ back -/
def PM (n : Int) (π ρ : Int → Int) : Prop := 1 ≤ n ∧ ∀ x, 0 ≤ x → x < n → 0 ≤ π x ∧ π x < n ∧ 0 ≤ ρ x ∧ ρ x < n ∧ π (ρ x) = x ∧ ρ (π x) = x
theorem PM.sy {n : Int} {π ρ : Int → Int} (h : PM n π ρ) : PM n ρ π := ⟨h.1, fun x x0 x1 => by
  obtain ⟨h1, h2, h3, h4, h5, h6⟩ := h.2 x x0 x1
  exact ⟨h3, h4, h1, h2, h6, h5⟩⟩
/-- a tuple of r atoms, exchanged -/
def pt (n : Int) (π : Int → Int) : Nat → Int → Int
  | 0, _ => 0
  | r + 1, t => pt n π r (t / n) * n + π (t % n)
theorem npow_pos {n : Int} (h : 1 ≤ n) : ∀ r : Nat, 1 ≤ n ^ r
  | 0 => by rw [Int.pow_zero]; decide
  | r + 1 => by
    have h1 := npow_pos h r
    rw [Int.pow_succ]
    have : 1 * 1 ≤ n ^ r * n := Int.mul_le_mul h1 h (by decide) (by omega)
    omega
theorem div_lt_pow {n t : Int} {r : Nat} (n1 : 1 ≤ n) (t1 : t < n ^ (r + 1)) : t / n < n ^ r := by
  rw [Int.pow_succ] at t1
  exact Int.ediv_lt_of_lt_mul (by omega) t1
theorem lt_mul_add {n a b m : Int} (n1 : 1 ≤ n) (a1 : a < m) (b1 : b < n) : a * n + b < m * n := by
  have : (a + 1) * n ≤ m * n := Int.mul_le_mul_of_nonneg_right (by omega) (by omega)
  rw [Int.add_mul] at this
  omega
theorem md_eq {n a b : Int} (n1 : 1 ≤ n) (b0 : 0 ≤ b) (b1 : b < n) : (a * n + b) / n = a ∧ (a * n + b) % n = b := by
  constructor
  · rw [Int.add_comm, Int.add_mul_ediv_right _ _ (by omega), Int.ediv_eq_zero_of_lt b0 b1]; omega
  · rw [Int.add_comm, Int.add_mul_emod_self_right, Int.emod_eq_of_lt b0 b1]
section PERM
variable {n : Int} {π ρ : Int → Int}
theorem pt_b (h : PM n π ρ) : ∀ (r : Nat) (t : Int), 0 ≤ t → t < n ^ r → 0 ≤ pt n π r t ∧ pt n π r t < n ^ r
  | 0, t, _, _ => ⟨Int.le_refl _, by show (0 : Int) < n ^ 0; rw [Int.pow_zero]; omega⟩
  | r + 1, t, t0, t1 => by
    have n1 := h.1
    obtain ⟨a1, a2⟩ := pt_b h r (t / n) (Int.ediv_nonneg t0 (by omega)) (div_lt_pow n1 t1)
    obtain ⟨b1, b2, -⟩ := h.2 (t % n) (Int.emod_nonneg _ (by omega)) (Int.emod_lt_of_pos _ (by omega))
    rw [pt, Int.pow_succ]
    refine ⟨?_, lt_mul_add n1 a2 b2⟩
    have := Int.mul_nonneg a1 (show 0 ≤ n by omega)
    omega
theorem pt_inv (h : PM n π ρ) : ∀ (r : Nat) (t : Int), 0 ≤ t → t < n ^ r → pt n ρ r (pt n π r t) = t
  | 0, t, t0, t1 => by
    rw [Int.pow_zero] at t1
    show (0 : Int) = t
    omega
  | r + 1, t, t0, t1 => by
    have n1 := h.1
    obtain ⟨b1, b2, -, -, -, b6⟩ := h.2 (t % n) (Int.emod_nonneg _ (by omega)) (Int.emod_lt_of_pos _ (by omega))
    obtain ⟨e1, e2⟩ := md_eq (a := pt n π r (t / n)) n1 b1 b2
    have ih := pt_inv h r (t / n) (Int.ediv_nonneg t0 (by omega)) (div_lt_pow n1 t1)
    rw [pt, pt, e1, e2, b6, ih, Int.mul_comm]
    exact Int.mul_ediv_add_emod t n
theorem pt_1 {t : Int} (_h : PM n π ρ) (t0 : 0 ≤ t) (t1 : t < n) : pt n π 1 t = π t := by
  show 0 * n + π (t % n) = π t
  rw [Int.emod_eq_of_lt t0 t1]
  omega
theorem pt_cons {r : Nat} {a b : Int} (h : PM n π ρ) (b0 : 0 ≤ b) (b1 : b < n) : pt n π (r + 1) (a * n + b) = pt n π r a * n + π b := by
  obtain ⟨e1, e2⟩ := md_eq (a := a) h.1 b0 b1
  rw [pt, e1, e2]
theorem pt_2 {a b : Int} (h : PM n π ρ) (a0 : 0 ≤ a) (a1 : a < n) (b0 : 0 ≤ b) (b1 : b < n) : pt n π 2 (a * n + b) = π a * n + π b := by
  rw [show (2 : Nat) = 1 + 1 from rfl, pt_cons h b0 b1, pt_1 h a0 a1]
theorem pt_split (h : PM n π ρ) (a : Nat) : ∀ (b : Nat) (t : Int), 0 ≤ t → pt n π (a + b) t = pt n π a (t / n ^ b) * n ^ b + pt n π b (t % n ^ b)
  | 0, t, _ => by
    rw [Int.pow_zero, Int.ediv_one, Int.emod_one]
    show pt n π a t = pt n π a t * 1 + 0
    omega
  | b + 1, t, t0 => by
    have n1 := h.1
    have hp := npow_pos n1 b
    have e1 : t / n / n ^ b = t / n ^ (b + 1) := by rw [Int.pow_succ, Int.mul_comm, Int.ediv_ediv_of_nonneg (by omega)]
    have e0 : t % n ^ (b + 1) = t - n * (n ^ b * (t / n ^ (b + 1))) := by
      rw [Int.emod_def, Int.pow_succ, Int.mul_comm (n ^ b) n, Int.mul_assoc]
    have e2 : (t % n ^ (b + 1)) / n = t / n % n ^ b := by
      rw [e0, Int.sub_mul_ediv_left _ _ (by omega), Int.emod_def, e1]
    have e3 : (t % n ^ (b + 1)) % n = t % n := by
      rw [Int.pow_succ]
      exact Int.emod_emod_of_dvd t ⟨n ^ b, Int.mul_comm _ _⟩
    rw [← Nat.add_assoc, pt, pt_split h a b (t / n) (Int.ediv_nonneg t0 (by omega)), e1, pt, e2, e3, Int.add_mul, Int.pow_succ, Int.mul_assoc, Int.add_assoc]
theorem pt_dm (h : PM n π ρ) (a b : Nat) {t : Int} (t0 : 0 ≤ t) : pt n π (a + b) t / n ^ b = pt n π a (t / n ^ b) ∧ pt n π (a + b) t % n ^ b = pt n π b (t % n ^ b) := by
  have hp := npow_pos h.1 b
  obtain ⟨b1, b2⟩ := pt_b h b (t % n ^ b) (Int.emod_nonneg _ (by omega)) (Int.emod_lt_of_pos _ (by omega))
  rw [pt_split h a b t t0]
  exact md_eq hp b1 b2
/-- X' is X with the atoms exchanged -/
def PE (n : Int) (π : Int → Int) (r : Nat) (X' X : Vl) : Prop := ∀ t, 0 ≤ t → t < n ^ r → X' (pt n π r t) = X t
theorem zany_perm {N : Nat} {f f' : Int → Bool} (g g' : Int → Int) (h : ∀ k : Int, 0 ≤ k → k < N → 0 ≤ g k ∧ g k < N ∧ f' (g k) = f k) (h' : ∀ k : Int, 0 ≤ k → k < N → 0 ≤ g' k ∧ g' k < N ∧ g (g' k) = k) : zany N f' = zany N f := by
  rw [Bool.eq_iff_iff, zany_iff, zany_iff]
  constructor
  · rintro ⟨i, i0, i1, hi⟩
    obtain ⟨a1, a2, a3⟩ := h' i i0 i1
    exact ⟨g' i, a1, a2, by rw [← (h (g' i) a1 a2).2.2, a3]; exact hi⟩
  · rintro ⟨i, i0, i1, hi⟩
    obtain ⟨a1, a2, a3⟩ := h i i0 i1
    exact ⟨g i, a1, a2, by rw [a3]; exact hi⟩
theorem zcnt_del {f : Int → Bool} {x : Int} : ∀ {N : Nat}, 0 ≤ x → x < N → f x = true → zcnt N f = zcnt N (fun t => f t && !decide (t = x)) + 1
  | 0, h0, h1, _ => by omega
  | N + 1, h0, h1, hx => by
    rw [zcnt, zcnt]
    by_cases e : x = (N : Int)
    · have : zcnt N (fun t => f t && !decide (t = x)) = zcnt N f := zcnt_congr (fun i i0 i1 => by
        rw [decide_eq_false (show ¬ i = x by omega)]
        simp)
      rw [this, ← e, hx]
      simp
    · rw [zcnt_del (N := N) h0 (by omega) hx, decide_eq_false (fun h => e h.symm)]
      simp
      omega
theorem zcnt_inj {M : Nat} : ∀ {N : Nat} {f f' : Int → Bool} (g : Int → Int), (∀ k : Int, 0 ≤ k → k < N → f k = true → 0 ≤ g k ∧ g k < M ∧ f' (g k) = true) → (∀ k l : Int, 0 ≤ k → k < N → 0 ≤ l → l < N → g k = g l → k = l) → zcnt N f ≤ zcnt M f'
  | 0, f, f', g, _, _ => (zcnt_b f' M).1
  | N + 1, f, f', g, h, hi => by
    rw [zcnt]
    by_cases hf : f N = true
    · obtain ⟨a1, a2, a3⟩ := h N (by omega) (by omega) hf
      rw [zcnt_del a1 a2 a3, if_pos hf]
      have := zcnt_inj (M := M) (N := N) (f := f) (f' := fun t => f' t && !decide (t = g N)) g (fun k k0 k1 hk => by
        obtain ⟨b1, b2, b3⟩ := h k k0 (by omega) hk
        refine ⟨b1, b2, ?_⟩
        show (f' (g k) && !decide (g k = g N)) = true
        rw [b3, decide_eq_false (fun e => by have := hi k N k0 (by omega) (by omega) (by omega) e; omega)]
        rfl) (fun k l k0 k1 l0 l1 => hi k l k0 (by omega) l0 (by omega))
      omega
    · rw [if_neg hf]
      have := zcnt_inj (M := M) (N := N) (f := f) (f' := f') g (fun k k0 k1 hk => h k k0 (by omega) hk) (fun k l k0 k1 l0 l1 => hi k l k0 (by omega) l0 (by omega))
      omega
theorem zcnt_perm {N : Nat} {f f' : Int → Bool} (g g' : Int → Int) (h : ∀ k : Int, 0 ≤ k → k < N → 0 ≤ g k ∧ g k < N ∧ f' (g k) = f k ∧ g' (g k) = k) (h' : ∀ k : Int, 0 ≤ k → k < N → 0 ≤ g' k ∧ g' k < N ∧ g (g' k) = k) : zcnt N f' = zcnt N f := by
  apply Int.le_antisymm
  · refine zcnt_inj g' (fun k k0 k1 hk => ?_) (fun k l k0 k1 l0 l1 e => ?_)
    · obtain ⟨a1, a2, a3⟩ := h' k k0 k1
      exact ⟨a1, a2, by rw [← (h (g' k) a1 a2).2.2.1, a3]; exact hk⟩
    · rw [← (h' k k0 k1).2.2, ← (h' l l0 l1).2.2, e]
  · refine zcnt_inj g (fun k k0 k1 hk => ?_) (fun k l k0 k1 l0 l1 e => ?_)
    · obtain ⟨a1, a2, a3, -⟩ := h k k0 k1
      exact ⟨a1, a2, by rw [a3]; exact hk⟩
    · rw [← (h k k0 k1).2.2.2, ← (h l l0 l1).2.2.2, e]
theorem pe_cnt {r : Nat} {X' X : Vl} (h : PM n π ρ) (hX : PE n π r X' X) : zcnt (n ^ r).toNat X' = zcnt (n ^ r).toNat X := by
  have hp := npow_pos h.1 r
  refine zcnt_perm (pt n π r) (pt n ρ r) (fun k k0 k1 => ?_) (fun k k0 k1 => ?_)
  · obtain ⟨a1, a2⟩ := pt_b h r k k0 (by omega)
    exact ⟨a1, by omega, hX k k0 (by omega), pt_inv h r k k0 (by omega)⟩
  · obtain ⟨a1, a2⟩ := pt_b h.sy r k k0 (by omega)
    exact ⟨a1, by omega, pt_inv h.sy r k k0 (by omega)⟩
theorem pe_any {r : Nat} {X' X : Vl} (h : PM n π ρ) (hX : PE n π r X' X) : zany (n ^ r).toNat X' = zany (n ^ r).toNat X := by
  have hp := npow_pos h.1 r
  refine zany_perm (pt n π r) (pt n ρ r) (fun k k0 k1 => ?_) (fun k k0 k1 => ?_)
  · obtain ⟨a1, a2⟩ := pt_b h r k k0 (by omega)
    exact ⟨a1, by omega, hX k k0 (by omega)⟩
  · obtain ⟨a1, a2⟩ := pt_b h.sy r k k0 (by omega)
    exact ⟨a1, by omega, pt_inv h.sy r k k0 (by omega)⟩
theorem pe_atoms {f f' : Int → Bool} (h : PM n π ρ) (hf : ∀ k, 0 ≤ k → k < n → f' (π k) = f k) : zany n.toNat f' = zany n.toNat f := by
  refine zany_perm π ρ (fun k k0 k1 => ?_) (fun k k0 k1 => ?_)
  · obtain ⟨a1, a2, -⟩ := h.2 k k0 (by omega)
    exact ⟨a1, by omega, hf k k0 (by omega)⟩
  · obtain ⟨-, -, a1, a2, a3, -⟩ := h.2 k k0 (by omega)
    exact ⟨a1, by omega, a3⟩
theorem pe_atomcnt {f f' : Int → Bool} (h : PM n π ρ) (hf : ∀ k, 0 ≤ k → k < n → f' (π k) = f k) : zcnt n.toNat f' = zcnt n.toNat f := by
  refine zcnt_perm π ρ (fun k k0 k1 => ?_) (fun k k0 k1 => ?_)
  · obtain ⟨a1, a2, -, -, -, a6⟩ := h.2 k k0 (by omega)
    exact ⟨a1, by omega, hf k k0 (by omega), a6⟩
  · obtain ⟨-, -, a1, a2, a3, -⟩ := h.2 k k0 (by omega)
    exact ⟨a1, by omega, a3⟩
theorem tup_b {a b : Nat} {t : Int} (n1 : 1 ≤ n) (t0 : 0 ≤ t) (t1 : t < n ^ (a + b)) : 0 ≤ t / n ^ b ∧ t / n ^ b < n ^ a ∧ 0 ≤ t % n ^ b ∧ t % n ^ b < n ^ b := by
  have hp := npow_pos n1 b
  refine ⟨Int.ediv_nonneg t0 (by omega), ?_, Int.emod_nonneg _ (by omega), Int.emod_lt_of_pos _ (by omega)⟩
  rw [Int.pow_add] at t1
  exact Int.ediv_lt_of_lt_mul (by omega) t1
theorem pe_arrow {a b : Nat} {X X' Y Y' : Vl} (h : PM n π ρ) (hX : PE n π a X' X) (hY : PE n π b Y' Y) : PE n π (a + b) (vArrow (n ^ b) X' Y') (vArrow (n ^ b) X Y) := by
  intro t t0 t1
  obtain ⟨a1, a2, a3, a4⟩ := tup_b h.1 t0 t1
  obtain ⟨e1, e2⟩ := pt_dm h a b t0
  show (X' (_ / _) && Y' (_ % _)) = (X _ && Y _)
  rw [e1, e2, hX _ a1 a2, hY _ a3 a4]
theorem pe_dot {a b : Nat} {X X' Y Y' : Vl} (h : PM n π ρ) (hX : PE n π (a + 1) X' X) (hY : PE n π (1 + b) Y' Y) : PE n π (a + b) (vDot n (n ^ b) X' Y') (vDot n (n ^ b) X Y) := by
  intro t t0 t1
  obtain ⟨a1, a2, a3, a4⟩ := tup_b h.1 t0 t1
  obtain ⟨e1, e2⟩ := pt_dm h a b t0
  have n1 := h.1
  have hp := npow_pos n1 b
  show zany n.toNat (fun k => X' (_ / _ * n + k) && Y' (k * _ + _ % _)) = zany n.toNat (fun k => X (_ / _ * n + k) && Y (k * _ + _ % _))
  rw [e1, e2]
  refine pe_atoms h (fun k k0 k1 => ?_)
  have i1 : pt n π (a + 1) (t / n ^ b * n + k) = pt n π a (t / n ^ b) * n + π k := pt_cons h k0 k1
  have i2 : pt n π (1 + b) (k * n ^ b + t % n ^ b) = π k * n ^ b + pt n π b (t % n ^ b) := by
    have hn : 0 ≤ k * n ^ b := Int.mul_nonneg k0 (by omega)
    obtain ⟨m1, m2⟩ := md_eq (a := k) hp a3 a4
    rw [pt_split h 1 b _ (by omega), m1, m2, pt_1 h k0 k1]
  have l1 : t / n ^ b * n + k < n ^ (a + 1) := by rw [Int.pow_succ]; exact lt_mul_add n1 a2 k1
  have l2 : k * n ^ b + t % n ^ b < n ^ (1 + b) := by rw [Int.pow_add]; exact lt_mul_add hp (by rw [Int.pow_succ, Int.pow_zero]; omega) a4
  have m1 := hX (t / n ^ b * n + k) (by have := Int.mul_nonneg a1 (show 0 ≤ n by omega); omega) l1
  have m2 := hY (k * n ^ b + t % n ^ b) (by have := Int.mul_nonneg k0 (show 0 ≤ n ^ b by omega); omega) l2
  rw [i1] at m1
  rw [i2] at m2
  rw [m1, m2]
theorem tup2 {t : Int} (n1 : 1 ≤ n) (t0 : 0 ≤ t) (t1 : t < n ^ 2) : ∃ a b, 0 ≤ a ∧ a < n ∧ 0 ≤ b ∧ b < n ∧ t = a * n + b := by
  refine ⟨t / n, t % n, Int.ediv_nonneg t0 (by omega), ?_, Int.emod_nonneg _ (by omega), Int.emod_lt_of_pos _ (by omega), ?_⟩
  · apply Int.ediv_lt_of_lt_mul (by omega)
    rw [show n ^ 2 = n * n by rw [Int.pow_succ, Int.pow_succ, Int.pow_zero, Int.one_mul]] at t1
    exact t1
  · rw [Int.mul_comm]; exact (Int.mul_ediv_add_emod t n).symm
theorem tup2_lt {a b : Int} (n1 : 1 ≤ n) (a0 : 0 ≤ a) (a1 : a < n) (b0 : 0 ≤ b) (b1 : b < n) : 0 ≤ a * n + b ∧ a * n + b < n ^ 2 := by
  have := Int.mul_nonneg a0 (show 0 ≤ n by omega)
  refine ⟨by omega, ?_⟩
  rw [show n ^ 2 = n * n by rw [Int.pow_succ, Int.pow_succ, Int.pow_zero, Int.one_mul]]
  exact lt_mul_add n1 a1 b1
theorem pe_at2 {X X' : Vl} {a b : Int} (h : PM n π ρ) (hX : PE n π 2 X' X) (a0 : 0 ≤ a) (a1 : a < n) (b0 : 0 ≤ b) (b1 : b < n) : X' (π a * n + π b) = X (a * n + b) := by
  obtain ⟨c1, c2⟩ := tup2_lt h.1 a0 a1 b0 b1
  have := hX _ c1 c2
  rw [pt_2 h a0 a1 b0 b1] at this
  exact this
theorem pe_over {X X' Y Y' : Vl} (h : PM n π ρ) (hX : PE n π 2 X' X) (hY : PE n π 2 Y' Y) : PE n π 2 (vOver n X' Y') (vOver n X Y) := by
  intro t t0 t1
  obtain ⟨a, b, a0, a1, b0, b1, rfl⟩ := tup2 h.1 t0 t1
  obtain ⟨p1, p2, -⟩ := h.2 b b0 b1
  obtain ⟨m1, -⟩ := md_eq (a := a) h.1 b0 b1
  obtain ⟨m2, -⟩ := md_eq (a := π a) h.1 p1 p2
  rw [pt_2 h a0 a1 b0 b1]
  unfold vOver
  rw [pe_at2 h hX a0 a1 b0 b1, pe_at2 h hY a0 a1 b0 b1, m1, m2]
  congr 3
  exact pe_atoms h (fun k k0 k1 => pe_at2 h hY a0 a1 k0 k1)
theorem pe_first {b : Nat} {X X' Y Y' : Vl} (h : PM n π ρ) (hX : PE n π 1 X' X) (hY : PE n π (1 + b) Y' Y) : PE n π (1 + b) (vFirst (n ^ b) X' Y') (vFirst (n ^ b) X Y) := by
  intro t t0 t1
  obtain ⟨a1, a2, a3, a4⟩ := tup_b h.1 t0 t1
  obtain ⟨e1, e2⟩ := pt_dm h 1 b t0
  show (X' (_ / _) && Y' _) = (X _ && Y _)
  rw [e1, hX _ a1 a2, hY t t0 t1]
theorem pe_last {a : Nat} {X X' Y Y' : Vl} (h : PM n π ρ) (hX : PE n π (a + 1) X' X) (hY : PE n π 1 Y' Y) : PE n π (a + 1) (vLast n X' Y') (vLast n X Y) := by
  intro t t0 t1
  obtain ⟨a1, a2, a3, a4⟩ := tup_b (b := 1) h.1 t0 t1
  obtain ⟨e1, e2⟩ := pt_dm h a 1 t0
  rw [show n ^ 1 = n by rw [Int.pow_succ, Int.pow_zero, Int.one_mul]] at a3 a4 e2
  show (X' _ && Y' (_ % _)) = (X _ && Y _)
  rw [e2, hX t t0 t1, hY _ a3 (by rw [show n ^ 1 = n by rw [Int.pow_succ, Int.pow_zero, Int.one_mul]]; exact a4)]
theorem pe_tilde {X X' : Vl} (h : PM n π ρ) (hX : PE n π 2 X' X) : PE n π 2 (vTilde n X') (vTilde n X) := by
  intro t t0 t1
  obtain ⟨a, b, a0, a1, b0, b1, rfl⟩ := tup2 h.1 t0 t1
  obtain ⟨p1, p2, -⟩ := h.2 b b0 b1
  obtain ⟨m1, m2⟩ := md_eq (a := a) h.1 b0 b1
  obtain ⟨m3, m4⟩ := md_eq (a := π a) h.1 p1 p2
  rw [pt_2 h a0 a1 b0 b1]
  unfold vTilde
  rw [m1, m2, m3, m4]
  exact pe_at2 h hX b0 b1 a0 a1
theorem pe_iden (h : PM n π ρ) : PE n π 2 (vIden n) (vIden n) := by
  intro t t0 t1
  obtain ⟨a, b, a0, a1, b0, b1, rfl⟩ := tup2 h.1 t0 t1
  obtain ⟨p1, p2, -, -, -, p6⟩ := h.2 b b0 b1
  obtain ⟨-, -, -, -, -, q6⟩ := h.2 a a0 a1
  obtain ⟨m1, m2⟩ := md_eq (a := a) h.1 b0 b1
  obtain ⟨m3, m4⟩ := md_eq (a := π a) h.1 p1 p2
  rw [pt_2 h a0 a1 b0 b1]
  unfold vIden
  rw [m1, m2, m3, m4]
  apply decide_eq_decide.mpr
  constructor
  · intro e; rw [← p6, ← q6, e]
  · intro e; rw [e]
theorem vRows_eq {k : Int} {X : Vl} (n1 : 1 ≤ n) (k0 : 0 ≤ k) (k1 : k < n) : ∀ (j : Nat) (a b : Int), 0 ≤ a → a < n → 0 ≤ b → b < n → vRows n k j X (a * n + b) = (X (a * n + b) || (decide (a < j) && (X (a * n + k) && X (k * n + b))))
  | 0, a, b, a0, a1, b0, b1 => by
    rw [decide_eq_false (show ¬ a < ((0 : Nat) : Int) by omega)]
    simp [vRows]
  | j + 1, a, b, a0, a1, b0, b1 => by
    obtain ⟨m1, m2⟩ := md_eq (a := a) n1 b0 b1
    show (vRows n k j X (a * n + b) || (decide ((a * n + b) / n = (j : Int)) && (vRows n k j X ((j : Int) * n + k) && vRows n k j X (k * n + (a * n + b) % n)))) = _
    rw [m1, m2, vRows_eq n1 k0 k1 j a b a0 a1 b0 b1]
    by_cases e : a = (j : Int)
    · rw [← e, vRows_eq n1 k0 k1 j a k a0 a1 k0 k1, vRows_eq n1 k0 k1 j k b k0 k1 b0 b1]
      have h1 : decide (a < (j : Int)) = false := decide_eq_false (by omega)
      have h2 : decide (a < ((j + 1 : Nat) : Int)) = true := decide_eq_true (by omega)
      rw [h1, h2, decide_eq_true rfl]
      cases X (a * n + b) <;> cases X (a * n + k) <;> cases X (k * n + b) <;> simp
    · have h1 : decide (a < ((j + 1 : Nat) : Int)) = decide (a < (j : Int)) := decide_eq_decide.mpr (by omega)
      rw [decide_eq_false e, h1]
      simp
theorem vHats_step {X : Vl} {k : Nat} {a b : Int} (n1 : 1 ≤ n) (k1 : (k : Int) < n) (a0 : 0 ≤ a) (a1 : a < n) (b0 : 0 ≤ b) (b1 : b < n) : vHats n (k + 1) X (a * n + b) = (vHats n k X (a * n + b) || (vHats n k X (a * n + k) && vHats n k X (k * n + b))) := by
  show vRows n k n.toNat (vHats n k X) (a * n + b) = _
  rw [vRows_eq n1 (by omega) k1 n.toNat a b a0 a1 b0 b1, decide_eq_true (show a < ((n.toNat : Nat) : Int) by omega), Bool.true_and]
theorem vHats_tr {X : Vl} (n1 : 1 ≤ n) : ∀ (k : Nat), (k : Int) ≤ n → ∀ a b c : Int, 0 ≤ a → a < n → 0 ≤ b → b < n → 0 ≤ c → c < k → vHats n k X (a * n + c) = true → vHats n k X (c * n + b) = true → vHats n k X (a * n + b) = true
  | 0, _, a, b, c, _, _, _, _, c0, c1, _, _ => by omega
  | k + 1, hk, a, b, c, a0, a1, b0, b1, c0, c1, h1, h2 => by
    have ih := vHats_tr (X := X) n1 k (by omega)
    rw [vHats_step n1 (by omega) a0 a1 c0 (by omega), Bool.or_eq_true, Bool.and_eq_true] at h1
    rw [vHats_step n1 (by omega) c0 (by omega) b0 b1, Bool.or_eq_true, Bool.and_eq_true] at h2
    rw [vHats_step n1 (by omega) a0 a1 b0 b1, Bool.or_eq_true, Bool.and_eq_true]
    by_cases hc : c < k
    · rcases h1 with h1 | ⟨h1, h1'⟩
      · rcases h2 with h2 | ⟨h2, h2'⟩
        · exact Or.inl (ih a b c a0 a1 b0 b1 c0 hc h1 h2)
        · exact Or.inr ⟨ih a k c a0 a1 (by omega) (by omega) c0 hc h1 h2, h2'⟩
      · rcases h2 with h2 | ⟨h2, h2'⟩
        · exact Or.inr ⟨h1, ih k b c (by omega) (by omega) b0 b1 c0 hc h1' h2⟩
        · exact Or.inr ⟨h1, h2'⟩
    · have e : c = (k : Int) := by omega
      subst e
      right
      constructor
      · rcases h1 with h1 | ⟨h1, -⟩ <;> exact h1
      · rcases h2 with h2 | ⟨-, h2⟩ <;> exact h2
theorem vHats_sup {X : Vl} (n1 : 1 ≤ n) : ∀ (k : Nat), (k : Int) ≤ n → ∀ a b : Int, 0 ≤ a → a < n → 0 ≤ b → b < n → X (a * n + b) = true → vHats n k X (a * n + b) = true
  | 0, _, a, b, _, _, _, _, h => h
  | k + 1, hk, a, b, a0, a1, b0, b1, h => by
    rw [vHats_step n1 (by omega) a0 a1 b0 b1, vHats_sup n1 k (by omega) a b a0 a1 b0 b1 h, Bool.true_or]
theorem vHats_min {X : Vl} {T : Int → Int → Prop} (n1 : 1 ≤ n) (hX : ∀ a b : Int, 0 ≤ a → a < n → 0 ≤ b → b < n → X (a * n + b) = true → T a b) (hT : ∀ a b c : Int, 0 ≤ a → a < n → 0 ≤ b → b < n → 0 ≤ c → c < n → T a c → T c b → T a b) : ∀ (k : Nat), (k : Int) ≤ n → ∀ a b : Int, 0 ≤ a → a < n → 0 ≤ b → b < n → vHats n k X (a * n + b) = true → T a b
  | 0, _, a, b, a0, a1, b0, b1, h => hX a b a0 a1 b0 b1 h
  | k + 1, hk, a, b, a0, a1, b0, b1, h => by
    have ih := vHats_min n1 hX hT k (by omega)
    rw [vHats_step n1 (by omega) a0 a1 b0 b1, Bool.or_eq_true, Bool.and_eq_true] at h
    rcases h with h | ⟨h, h'⟩
    · exact ih a b a0 a1 b0 b1 h
    · exact hT a b k a0 a1 b0 b1 (by omega) (by omega) (ih a k a0 a1 (by omega) (by omega) h) (ih k b (by omega) (by omega) b0 b1 h')
theorem pe_hat1 {X X' : Vl} (h : PM n π ρ) (hX : PE n π 2 X' X) {a b : Int} (a0 : 0 ≤ a) (a1 : a < n) (b0 : 0 ≤ b) (b1 : b < n) (ht : vHat n X (a * n + b) = true) : vHat n X' (π a * n + π b) = true := by
  have n1 := h.1
  refine vHats_min (X := X) (T := fun a b => vHat n X' (π a * n + π b) = true) n1 (fun a b a0 a1 b0 b1 hx => ?_) (fun a b c a0 a1 b0 b1 c0 c1 h1 h2 => ?_) n.toNat (by omega) a b a0 a1 b0 b1 ht
  · obtain ⟨p1, p2, -⟩ := h.2 a a0 a1
    obtain ⟨q1, q2, -⟩ := h.2 b b0 b1
    exact vHats_sup n1 n.toNat (by omega) _ _ p1 p2 q1 q2 (by rw [pe_at2 h hX a0 a1 b0 b1]; exact hx)
  · obtain ⟨p1, p2, -⟩ := h.2 a a0 a1
    obtain ⟨q1, q2, -⟩ := h.2 b b0 b1
    obtain ⟨r1, r2, -⟩ := h.2 c c0 c1
    exact vHats_tr n1 n.toNat (by omega) _ _ _ p1 p2 q1 q2 r1 (by omega) h1 h2
theorem PE.sy {r : Nat} {X X' : Vl} (h : PM n π ρ) (hX : PE n π r X' X) : PE n ρ r X X' := by
  intro t t0 t1
  obtain ⟨a1, a2⟩ := pt_b h.sy r t t0 t1
  rw [← hX _ a1 a2, pt_inv h.sy r t t0 t1]
theorem pe_hat {X X' : Vl} (h : PM n π ρ) (hX : PE n π 2 X' X) : PE n π 2 (vHat n X') (vHat n X) := by
  intro t t0 t1
  obtain ⟨a, b, a0, a1, b0, b1, rfl⟩ := tup2 h.1 t0 t1
  rw [pt_2 h a0 a1 b0 b1, Bool.eq_iff_iff]
  obtain ⟨p1, p2, -, -, -, p6⟩ := h.2 a a0 a1
  obtain ⟨q1, q2, -, -, -, q6⟩ := h.2 b b0 b1
  constructor
  · intro hh
    have := pe_hat1 h.sy (hX.sy h) p1 p2 q1 q2 hh
    rw [p6, q6] at this
    exact this
  · exact fun hh => pe_hat1 h hX a0 a1 b0 b1 hh
theorem pe_star {X X' : Vl} (h : PM n π ρ) (hX : PE n π 2 X' X) : PE n π 2 (vStar n X') (vStar n X) := by
  intro t t0 t1
  show (vHat n X' _ || vIden n _) = (vHat n X t || vIden n t)
  rw [pe_hat h hX t t0 t1, pe_iden h t t0 t1]
theorem pe_in {r : Nat} {X X' Y Y' : Vl} (h : PM n π ρ) (hX : PE n π r X' X) (hY : PE n π r Y' Y) : vIn (n ^ r) X' Y' = vIn (n ^ r) X Y := by
  unfold vIn
  congr 1
  exact pe_any h (fun t t0 t1 => by rw [hX t t0 t1, hY t t0 t1])
theorem pe_eq {r : Nat} {X X' Y Y' : Vl} (h : PM n π ρ) (hX : PE n π r X' X) (hY : PE n π r Y' Y) : vEq (n ^ r) X' Y' = vEq (n ^ r) X Y := by
  unfold vEq
  congr 1
  exact pe_any h (fun t t0 t1 => by rw [hX t t0 t1, hY t t0 t1])
end PERM
