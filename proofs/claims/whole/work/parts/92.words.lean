/-! THE CLASS'S MACHINE: values by words, a bit for each assignment of a block. -/
/-- only longs of cell c differ -/
def oJ (c : Nat) (s t : zS) : Prop := t.1 = s.1 ∧ t.2.2 = s.2.2 ∧ ∀ c' i, c' ≠ c → gJ t c' i = gJ s c' i
theorem oJ.rf (c : Nat) (s : zS) : oJ c s s := ⟨rfl, rfl, fun _ _ _ => rfl⟩
theorem oJ.tr {c : Nat} {s t u : zS} (h : oJ c s t) (h2 : oJ c t u) : oJ c s u := ⟨h2.1.trans h.1, h2.2.1.trans h.2.1, fun c' i hc => (h2.2.2 c' i hc).trans (h.2.2 c' i hc)⟩
theorem oJ.set {c : Nat} {s t : zS} {i : Int} {v : BitVec 64} (h : oJ c s t) : oJ c s (sJ t c i v) := ⟨h.1, h.2.1, fun c' i' hc => (gJ_nc hc).trans (h.2.2 c' i' hc)⟩
theorem oJ.i {c : Nat} {s t : zS} (h : oJ c s t) (c' : Nat) (i : Int) : gI t c' i = gI s c' i := by unfold gI; rw [h.1]
theorem oJ.j {c : Nat} {s t : zS} (h : oJ c s t) {c' : Nat} (i : Int) (hc : c' ≠ c) : gJ t c' i = gJ s c' i := h.2.2 c' i hc
/-- bit β of a long -/
abbrev gb (s : zS) (c : Nat) (i : Int) (β : Nat) : Bool := (gJ s c i).getLsbD β
theorem gb_set {s : zS} {c : Nat} {i i' : Int} {v : BitVec 64} {β : Nat} : gb (sJ s c i v) c i' β = if i' = i then v.getLsbD β else gb s c i' β := by
  show (gJ (sJ s c i v) c i').getLsbD β = _
  rw [gJ_if]
  split <;> rfl
theorem gb_and (a b : BitVec 64) (β : Nat) : (a &&& b).getLsbD β = (a.getLsbD β && b.getLsbD β) := BitVec.getLsbD_and ..
theorem gb_or (a b : BitVec 64) (β : Nat) : (a ||| b).getLsbD β = (a.getLsbD β || b.getLsbD β) := BitVec.getLsbD_or ..
theorem gb_xor (a b : BitVec 64) (β : Nat) : (a ^^^ b).getLsbD β = (a.getLsbD β ^^ b.getLsbD β) := BitVec.getLsbD_xor ..
theorem gb_ones {β : Nat} (h : β < 64) : (18446744073709551615#64).getLsbD β = true := by
  have : (18446744073709551615#64) = BitVec.allOnes 64 := by decide
  rw [this, BitVec.getLsbD_allOnes]
  exact decide_eq_true h
theorem gb_not {a : BitVec 64} {β : Nat} (h : β < 64) : (a ^^^ (18446744073709551615#64)).getLsbD β = !a.getLsbD β := by
  rw [gb_xor, gb_ones h, Bool.xor_true]
theorem gb_zero (β : Nat) : (0#64).getLsbD β = false := BitVec.getLsbD_zero
theorem gb_lt {a : BitVec 64} {β : Nat} (h : a.getLsbD β = true) : β < 64 := BitVec.lt_of_getLsbD h
/-- a value of N words at place H, right at the bits of C -/
def CVl (C : Nat → Prop) (s : zS) (H N : Int) (V : Nat → Vl) : Prop := ∀ β, β < 64 → C β → ∀ t, 0 ≤ t → t < N → gb s 18 (H * 125 + t) β = V β t
/-- what lies below place H stays -/
def CBl (s t : zS) (H : Int) : Prop := (∀ i, i < H * 125 → gJ t 18 i = gJ s 18 i) ∧ ∀ j, j < H → gI t 19 j = gI s 19 j
theorem CBl.rf (s : zS) (H : Int) : CBl s s H := ⟨fun _ _ => rfl, fun _ _ => rfl⟩
theorem CBl.tr {s t u : zS} {H : Int} (h : CBl s t H) (h2 : CBl t u H) : CBl s u H := ⟨fun i hi => (h2.1 i hi).trans (h.1 i hi), fun i hi => (h2.2 i hi).trans (h.2 i hi)⟩
theorem CBl.le {s t : zS} {H G : Int} (h : CBl s t H) (hG : G ≤ H) : CBl s t G := ⟨fun i hi => h.1 i (by omega), fun i hi => h.2 i (by omega)⟩
/-- atoms, and sizes by arity -/
def CN (s : zS) (n : Int) : Prop := gI s 1 0 = n ∧ 1 ≤ n ∧ n ≤ 5 ∧ ∀ a, 0 ≤ a → a ≤ 3 → gI s 2 a = n ^ a.toNat
theorem CN.eq {s t : zS} {n : Int} (h : CN s n) (e1 : gI t 1 0 = gI s 1 0) (e2 : ∀ a, gI t 2 a = gI s 2 a) : CN t n := ⟨by rw [e1]; exact h.1, h.2.1, h.2.2.1, fun a a0 a3 => by rw [e2]; exact h.2.2.2 a a0 a3⟩
theorem CN.size {s : zS} {n a : Int} (h : CN s n) (a0 : 0 ≤ a) (a3 : a ≤ 3) : f_52 a s = some (n ^ a.toNat) := by
  unfold f_52
  rw [zg_pos ⟨by omega, by omega⟩, if_neg (by omega), if_neg (by omega), zg_pos ⟨by omega, by omega⟩, h.2.2.2 a a0 a3]
/-- two operands, places H and H + 1 -/
def CO2 (C : Nat → Prop) (s : zS) (n H a b : Int) (X Y : Nat → Vl) : Prop := CN s n ∧ gI s 17 3 = H + 2 ∧ 0 ≤ H ∧ H + 1 < 22 ∧ gI s 19 H = a ∧ gI s 19 (H + 1) = b ∧ CVl C s H (n ^ a.toNat) X ∧ CVl C s (H + 1) (n ^ b.toNat) Y
/-- what an operator leaves: a value of arity a at place H -/
def CR (C : Nat → Prop) (s t : zS) (n H a : Int) (V : Nat → Vl) : Prop := gI t 17 3 = H + 1 ∧ gI t 19 H = a ∧ CVl C t H (n ^ a.toNat) V ∧ CBl s t H
section COPS
variable {C : Nat → Prop} {s : zS} {n H a b : Int} {X Y : Nat → Vl}
theorem CO2.pop (h : CO2 C s n H a b X Y) : sI s 17 3 (gI s 17 3 - 1) = sI s 17 3 (H + 1) ∧ gI (sI s 17 3 (H + 1)) 17 3 = H + 1 ∧ CN (sI s 17 3 (H + 1)) n := by
  obtain ⟨h1, h2, h3, h4, -⟩ := h
  refine ⟨by rw [h2]; congr 1; omega, gI_same ⟨by omega, by omega⟩, h1.eq (gI_nc (by decide)) (fun a => gI_nc (by decide))⟩
/-- the words of scratch become the value at place H -/
theorem c_copy {t : zS} {N r : Int} {V : Nat → Vl} (h0 : 0 ≤ H) (hH : H < 22) (hN0 : 0 ≤ N) (hN : N ≤ 125) (ho : oJ 21 (sI s 17 3 (H + 1)) t) (hr : zR r) (hn : N = n ^ r.toNat) (hv : ∀ β, β < 64 → C β → ∀ u, 0 ≤ u → u < N → gb t 21 u β = V β u) : CR C s (sI (zcp t 21 0 18 (H * 125) N) 19 H r) n H r V := by
  have hc : ∀ u, gJ (zcp t 21 0 18 (H * 125) N) 18 u = if H * 125 ≤ u ∧ u < H * 125 + N then gJ t 21 (0 + (u - H * 125)) else gJ t 18 u := fun u => rfl
  refine ⟨?_, gI_same hr, fun β hb cb u u0 u1 => ?_, fun i hi => ?_, fun j hj => ?_⟩
  · rw [gI_nc (by decide)]
    show gI t 17 3 = _
    rw [ho.i, gI_same ⟨by omega, by omega⟩]
  · show (gJ (zcp t 21 0 18 (H * 125) N) 18 (H * 125 + u)).getLsbD β = _
    rw [hc, if_pos ⟨by omega, by omega⟩, show (0 + (H * 125 + u - H * 125)) = u by omega]
    exact hv β hb cb u u0 (by omega)
  · show gJ (zcp t 21 0 18 (H * 125) N) 18 i = _
    rw [hc, if_neg (by omega), ho.j _ (by decide)]
    rfl
  · rw [gI_ni (by omega)]
    show gI t 19 j = _
    rw [ho.i, gI_nc (by decide)]
theorem c_multiply (h : CO2 C s n H a b X Y) (a1 : 1 ≤ a) (b1 : 1 ≤ b) (hab : a + b ≤ 3) : ∃ t, f_125 s = some ((), t) ∧ CR C s t n H (a + b) (fun β => vArrow (n ^ b.toNat) (X β) (Y β)) := by
  obtain ⟨p1, p2, p3⟩ := h.pop
  obtain ⟨⟨hn, n1, n5, -⟩, h17, H0, H1, ha, hb, hX, hY⟩ := h
  have sa := p3.size (show 0 ≤ a by omega) (by omega)
  have sb := p3.size (show 0 ≤ b by omega) (by omega)
  have hNa := npw_b n1 n5 (show 0 ≤ a by omega) (show a ≤ 3 by omega)
  have hNb := npw_b n1 n5 (show 0 ≤ b by omega) (show b ≤ 3 by omega)
  have hNab := npw_b n1 n5 (show 0 ≤ a + b by omega) hab
  have epw := npw_add (n := n) (show 0 ≤ a by omega) (show 0 ≤ b by omega)
  rw [epw] at hNab
  generalize hm : n ^ b.toNat = m at *
  generalize hN : n ^ a.toNat = N at *
  generalize hs1 : sI s 17 3 (H + 1) = s1 at *
  have e18 : ∀ i, gJ s1 18 i = gJ s 18 i := fun i => by rw [← hs1]; rfl
  have e19 : ∀ i, gI s1 19 i = gI s 19 i := fun i => by rw [← hs1, gI_nc (by decide)]
  have hloop := zlp_F (B := fun (q : Int × zS) => b_125_77 (H * 125) ((H + 1) * 125) N m q.1 q.2) (I := fun q => 0 ≤ q.1 ∧ q.1 ≤ N ∧ oJ 21 s1 q.2 ∧ ∀ β, β < 64 → C β → ∀ u, 0 ≤ u → u < q.1 * m → gb q.2 21 u β = vArrow m (X β) (Y β) u) (μ := fun q => (N - q.1).toNat) (Q := fun t => oJ 21 s1 t ∧ ∀ β, β < 64 → C β → ∀ u, 0 ≤ u → u < N * m → gb t 21 u β = vArrow m (X β) (Y β) u) (by
    rintro ⟨i, σ⟩ ⟨a1', a2', a3', a4'⟩
    dsimp only at a1' a2' a3' a4' ⊢
    unfold b_125_77
    rw [zg_pos ⟨by omega, by omega⟩, zg_pos ⟨by omega, by omega⟩]
    by_cases hc : i < N
    · left
      have hiN : i * m + m ≤ N * m := by
        have := mul_mono (m := m) (show i + 1 ≤ N by omega) (by omega)
        rw [succ_mul'] at this
        exact this
      have him : 0 ≤ i * m := Int.mul_nonneg a1' (by omega)
      obtain ⟨t, ht, q1, q2⟩ := zlp_F (B := fun (q : Int × zS) => b_125_86 (H * 125) ((H + 1) * 125) N m i q.1 q.2) (I := fun q => 0 ≤ q.1 ∧ q.1 ≤ m ∧ oJ 21 s1 q.2 ∧ ∀ β, β < 64 → C β → ∀ u, 0 ≤ u → u < i * m + q.1 → gb q.2 21 u β = vArrow m (X β) (Y β) u) (μ := fun q => (m - q.1).toNat) (Q := fun t => oJ 21 s1 t ∧ ∀ β, β < 64 → C β → ∀ u, 0 ≤ u → u < i * m + m → gb t 21 u β = vArrow m (X β) (Y β) u) (by
        rintro ⟨j, ω⟩ ⟨c1, c2, c3, c4⟩
        dsimp only at c1 c2 c3 c4 ⊢
        unfold b_125_86
        rw [zg_pos ⟨by omega, by omega⟩, zg_pos ⟨by omega, by omega⟩]
        by_cases hd : j < m
        · left
          rw [if_pos hd, zg_pos ⟨by omega, by omega⟩, zg_pos ⟨by omega, by omega⟩, zg_pos ⟨by omega, by omega⟩]
          refine ⟨_, rfl, ⟨by dsimp only; omega, by dsimp only; omega, c3.set, fun β hb cb u u0 u1 => ?_⟩, by dsimp only; omega⟩
          dsimp only at u1 ⊢
          rw [gb_set]
          by_cases hu : u = i * m + j
          · rw [if_pos hu, gb_and, c3.j _ (by decide), c3.j _ (by decide), e18, e18]
            obtain ⟨d1, d2⟩ := div_block (m := m) (t := i) (u := u) (by omega) (by omega) (by omega)
            have x1 := hX β hb cb i a1' hc
            have y1 := hY β hb cb j c1 hd
            unfold vArrow
            rw [d1, d2, show u - i * m = j by omega, ← x1, ← y1]
          · rw [if_neg hu]
            exact c4 β hb cb u u0 (by omega)
        · right
          rw [if_neg hd]
          refine ⟨_, rfl, c3, fun β hb cb u u0 u1 => c4 β hb cb u u0 (by omega)⟩) (s := (0, σ)) ⟨by dsimp only; omega, by dsimp only; omega, a3', fun β hb cb u u0 u1 => a4' β hb cb u u0 (by dsimp only at u1; omega)⟩ (by dsimp only; omega)
      rw [if_pos hc, zo_of ht]
      refine ⟨_, rfl, ⟨by dsimp only; omega, by dsimp only; omega, q1, fun β hb cb u u0 u1 => q2 β hb cb u u0 (by dsimp only at u1; rw [succ_mul'] at u1; omega)⟩, by dsimp only; omega⟩
    · right
      rw [if_neg hc]
      have e : i = N := by omega
      rw [e] at a4'
      exact ⟨_, rfl, a3', a4'⟩) (s := (0, s1)) ⟨by dsimp only; omega, by dsimp only; omega, oJ.rf _ _, fun β hb cb u u0 u1 => by dsimp only at u1; omega⟩ (by dsimp only; omega)
  obtain ⟨t, ht, q1, q2⟩ := hloop
  refine ⟨_, ?_, c_copy (N := N * m) (t := t) (r := a + b) H0 (by omega) (by omega) (by omega) (by rw [hs1]; exact q1) ⟨by omega, by omega⟩ epw.symm q2⟩
  unfold f_125
  rw [if_neg (by omega), p1, p2, show H + 1 - 1 = H by omega, zg_pos ⟨by omega, by omega⟩, ha, zo_of sa, zg_pos ⟨by omega, by omega⟩, hb, zo_of sb, zo_of ht, zg_pos ⟨by omega, by omega, by omega, by omega, by omega⟩, q1.i, p2, show H + 1 - 1 = H by omega, zg_pos ⟨by omega, by omega⟩, zg_pos ⟨by omega, by omega⟩, q1.i, q1.i, e19, e19, ha, hb]
end COPS
