/-! THE CLASS'S MACHINE: operators word by word; comparing. -/
/-- what joined makes of two bits -/
def vJ (op : Int) (x y : Bool) : Bool := if op = 10 ∨ op = 23 ∨ op = 26 then x && y else if op = 25 then x && !y else if op = 12 then !x || y else if op = 13 then x == y else x || y
theorem c_joined {op : Int} {l r : BitVec 64} (h : op = 10 ∨ op = 11 ∨ op = 12 ∨ op = 13 ∨ op = 21 ∨ op = 23 ∨ op = 24 ∨ op = 25 ∨ op = 26) : ∃ w, f_113 op l r = some w ∧ ∀ β, β < 64 → w.getLsbD β = vJ op (l.getLsbD β) (r.getLsbD β) := by
  rcases h with rfl | rfl | rfl | rfl | rfl | rfl | rfl | rfl | rfl
  · exact ⟨_, rfl, fun β hb => by rw [gb_and]; rfl⟩
  · exact ⟨_, rfl, fun β hb => by rw [gb_or]; rfl⟩
  · exact ⟨_, rfl, fun β hb => by rw [gb_or, gb_not hb]; rfl⟩
  · exact ⟨_, rfl, fun β hb => by rw [gb_not hb, gb_xor]; cases l.getLsbD β <;> cases r.getLsbD β <;> rfl⟩
  · exact ⟨_, rfl, fun β hb => by rw [gb_or]; rfl⟩
  · exact ⟨_, rfl, fun β hb => by rw [gb_and]; rfl⟩
  · exact ⟨_, rfl, fun β hb => by rw [gb_or]; rfl⟩
  · exact ⟨_, rfl, fun β hb => by rw [gb_and, gb_not hb]; rfl⟩
  · exact ⟨_, rfl, fun β hb => by rw [gb_and]; rfl⟩
/-- only words at place H differ -/
def oH (H : Int) (s t : zS) : Prop := oJ 18 s t ∧ ∀ i, i < H * 125 ∨ (H + 1) * 125 ≤ i → gJ t 18 i = gJ s 18 i
theorem oH.rf (H : Int) (s : zS) : oH H s s := ⟨oJ.rf _ _, fun _ _ => rfl⟩
theorem oH.tr {H : Int} {s t u : zS} (h : oH H s t) (h2 : oH H t u) : oH H s u := ⟨h.1.tr h2.1, fun i hi => (h2.2 i hi).trans (h.2 i hi)⟩
theorem oH.set {H : Int} {s t : zS} {i : Int} {v : BitVec 64} (h : oH H s t) (h0 : H * 125 ≤ i) (h1 : i < H * 125 + 125) : oH H s (sJ t 18 i v) := ⟨h.1.set, fun i' hi => (gJ_ni (by omega)).trans (h.2 i' hi)⟩
theorem oH.i {H : Int} {s t : zS} (h : oH H s t) (c' : Nat) (i : Int) : gI t c' i = gI s c' i := h.1.i c' i
theorem oH.up {H : Int} {s t : zS} (h : oH H s t) (i : Int) (h0 : 0 ≤ i) : gJ t 18 ((H + 1) * 125 + i) = gJ s 18 ((H + 1) * 125 + i) := h.2 _ (by omega)
theorem oH.bl {H : Int} {s t : zS} (h : oH H s t) : CBl s t H := ⟨fun i hi => h.2 i (Or.inl hi), fun j _ => h.i 19 j⟩
section COPS
variable {C : Nat → Prop} {s : zS} {n H a b : Int} {X Y : Nat → Vl}
theorem emod_next {i p : Int} (hp : 1 ≤ p) : (i + 1) % p = if i % p + 1 < p then i % p + 1 else 0 := by
  have h0 := Int.emod_nonneg i (show p ≠ 0 by omega)
  have h1 := Int.emod_lt_of_pos i (show 0 < p by omega)
  rw [← Int.emod_add_emod]
  by_cases h : i % p + 1 < p
  · rw [if_pos h, Int.emod_eq_of_lt (by omega) h]
  · rw [if_neg h, show i % p + 1 = p by omega, Int.emod_self]
theorem c_wordloop {s1 : zS} {op N p : Int} (hop : op = 10 ∨ op = 11 ∨ op = 12 ∨ op = 13 ∨ op = 21 ∨ op = 23 ∨ op = 24 ∨ op = 25 ∨ op = 26) (H0 : 0 ≤ H) (H1 : H + 1 < 22) (hN : 1 ≤ N ∧ N ≤ 125) (hp : 1 ≤ p ∧ p ≤ N) (hX : CVl C s1 H N X) (hY : CVl C s1 (H + 1) p Y) : ∃ t, zlp (fun (q : Int × Int × zS) => b_127_95 op (H * 125) ((H + 1) * 125) N p q.1 q.2.1 q.2.2) zF (0, 0, s1) = some t ∧ oH H s1 t ∧ CVl C t H N (fun β u => vJ op (X β u) (Y β (u % p))) := by
  obtain ⟨t, ht, q1, q2⟩ := zlp_F (B := fun (q : Int × Int × zS) => b_127_95 op (H * 125) ((H + 1) * 125) N p q.1 q.2.1 q.2.2) (I := fun q => 0 ≤ q.1 ∧ q.1 ≤ N ∧ q.2.1 = q.1 % p ∧ oH H s1 q.2.2 ∧ ∀ β, β < 64 → C β → ∀ u, 0 ≤ u → u < N → gb q.2.2 18 (H * 125 + u) β = if u < q.1 then vJ op (X β u) (Y β (u % p)) else X β u) (μ := fun q => (N - q.1).toNat) (Q := fun t => oH H s1 t ∧ ∀ β, β < 64 → C β → ∀ u, 0 ≤ u → u < N → gb t 18 (H * 125 + u) β = vJ op (X β u) (Y β (u % p))) (by
    rintro ⟨i, j, σ⟩ ⟨a1, a2, a3, a4, a5⟩
    dsimp only at a1 a2 a3 a4 a5 ⊢
    have j0 := Int.emod_nonneg i (show p ≠ 0 by omega)
    have j1 := Int.emod_lt_of_pos i (show 0 < p by omega)
    unfold b_127_95
    rw [zg_pos ⟨by omega, by omega⟩, zg_pos ⟨by omega, by omega⟩]
    by_cases hc : i < N
    · left
      obtain ⟨w, hw, hwb⟩ := c_joined (l := gJ σ 18 (H * 125 + i)) (r := gJ σ 18 ((H + 1) * 125 + j)) hop
      have hb5 : ∀ β, β < 64 → C β → ∀ u, 0 ≤ u → u < N → gb (sJ σ 18 (H * 125 + i) w) 18 (H * 125 + u) β = if u < i + 1 then vJ op (X β u) (Y β (u % p)) else X β u := by
        intro β hb cb u u0 u1
        rw [gb_set]
        by_cases hu : u = i
        · rw [if_pos (by omega), if_pos (by omega), hwb β hb]
          have x1 := a5 β hb cb i a1 hc
          rw [if_neg (by omega)] at x1
          have y1 := hY β hb cb j (by omega) (by omega)
          rw [hu, ← x1, ← a3, ← y1, a4.up j (by omega)]
        · rw [if_neg (by omega), a5 β hb cb u u0 u1]
          by_cases h1 : u < i
          · rw [if_pos h1, if_pos (by omega)]
          · rw [if_neg h1, if_neg (by omega)]
      rw [if_pos hc, zg_pos ⟨by omega, by omega⟩, zg_pos ⟨by omega, by omega⟩, zo_of hw, zg_pos ⟨by omega, by omega⟩, zg_pos ⟨by omega, by omega⟩]
      by_cases hd : j + 1 < p
      · rw [if_pos hd]
        refine ⟨_, rfl, ⟨by dsimp only; omega, by dsimp only; omega, ?_, a4.set (by omega) (by omega), hb5⟩, by dsimp only; omega⟩
        dsimp only
        rw [emod_next (by omega), if_pos (by omega), a3]
      · rw [if_neg hd]
        refine ⟨_, rfl, ⟨by dsimp only; omega, by dsimp only; omega, ?_, a4.set (by omega) (by omega), hb5⟩, by dsimp only; omega⟩
        dsimp only
        rw [emod_next (by omega), if_neg (by omega)]
    · right
      rw [if_neg hc]
      refine ⟨_, rfl, a4, fun β hb cb u u0 u1 => ?_⟩
      rw [a5 β hb cb u u0 u1, if_pos (by omega)]) (s := (0, 0, s1)) ⟨by dsimp only; omega, by dsimp only; omega, by dsimp only; rw [Int.zero_emod], oH.rf _ _, fun β hb cb u u0 u1 => by
      dsimp only
      rw [if_neg (by omega)]
      exact hX β hb cb u u0 u1⟩ (by dsimp only; omega)
  exact ⟨t, ht, q1, q2⟩
theorem CR.of {s1 t : zS} {r : Int} {V : Nat → Vl} (hs : s1 = sI s 17 3 (H + 1)) (H0 : 0 ≤ H) (H1 : H < 22) (h : oH H s1 t) (h19 : gI s 19 H = r) (hv : CVl C t H (n ^ r.toNat) V) : CR C s t n H r V := by
  refine ⟨?_, ?_, hv, fun i hi => ?_, fun j hj => ?_⟩
  · rw [h.i, hs, gI_same ⟨by omega, by omega⟩]
  · rw [h.i, hs, gI_nc (by decide)]; exact h19
  · rw [h.2 i (Or.inl hi), hs]; rfl
  · rw [h.i, hs, gI_nc (by decide)]
theorem c_word49 {s0 s1 : zS} {op p : Int} (hs0 : s0 = sI s 17 3 (H + 1)) (ho : oH H s0 s1) (hC : CN s0 n) (h19 : gI s 19 H = a) (hop : op = 13 ∨ op = 21 ∨ op = 23 ∨ op = 24 ∨ op = 25 ∨ op = 26) (H0 : 0 ≤ H) (H1 : H + 1 < 22) (a0 : 0 ≤ a) (a3 : a ≤ 3) (hp : p = if op = 23 then n else n ^ a.toNat) (hp2 : p ≤ n ^ a.toNat) (hX : CVl C s1 H (n ^ a.toNat) X) (hY : CVl C s1 (H + 1) p Y) : ∃ t, j_127_49 op (H * 125) ((H + 1) * 125) s1 = some ((), t) ∧ CR C s t n H a (fun β u => vJ op (X β u) (Y β (u % p))) := by
  have hN := npw_b hC.2.1 hC.2.2.1 a0 a3
  have hp1 : 1 ≤ p := by
    have := hC.2.1
    rw [hp]
    split <;> omega
  obtain ⟨t, ht, q1, q2⟩ := c_wordloop (op := op) (s1 := s1) (by omega) H0 H1 hN ⟨hp1, hp2⟩ hX hY
  have h17 : gI s1 17 3 = H + 1 := by rw [ho.i, hs0, gI_same ⟨by omega, by omega⟩]
  have h19' : gI s1 19 H = a := by rw [ho.i, hs0, gI_nc (by decide)]; exact h19
  have hC1 : CN s1 n := hC.eq (ho.i _ _) (fun _ => ho.i _ _)
  have e87 : j_127_87 op (H * 125) ((H + 1) * 125) (n ^ a.toNat) p s1 = some ((), t) := by
    unfold j_127_87
    rw [zo_of ht]
  refine ⟨t, ?_, CR.of hs0 H0 (by omega) (ho.tr q1) h19 q2⟩
  unfold j_127_49
  rw [h17, show H + 1 - 1 = H by omega, zg_pos ⟨by omega, by omega⟩, h19', zo_of (hC1.size a0 a3), zg_pos ⟨by omega, by omega⟩]
  by_cases hc : op = 23
  · rw [if_pos hc, hC1.1]
    rw [if_pos hc] at hp
    rw [hp] at e87
    exact e87
  · rw [if_neg hc]
    rw [if_neg hc] at hp
    rw [hp] at e87
    exact e87
theorem CVl.same {s t : zS} {G N : Int} (h : CVl C s G N X) (e : ∀ i, 0 ≤ i → i < 125 → gJ t 18 (G * 125 + i) = gJ s 18 (G * 125 + i)) (hN : N ≤ 125) : CVl C t G N X := by
  intro β hb cb u u0 u1
  show (gJ t 18 _).getLsbD β = _
  rw [e u u0 (by omega)]
  exact h β hb cb u u0 u1
/-- + - & and <=> -/
theorem c_wordwise {op : Int} (h : CO2 C s n H a a X Y) (a0 : 0 ≤ a) (a3 : a ≤ 3) (hop : op = 13 ∨ op = 24 ∨ op = 25 ∨ op = 26) : ∃ t, f_127 op s = some ((), t) ∧ CR C s t n H a (fun β u => vJ op (X β u) (Y β u)) := by
  obtain ⟨p1, p2, p3⟩ := h.pop
  obtain ⟨⟨hn, n1, n5, -⟩, h17, H0, H1, ha, hb, hX, hY⟩ := h
  have hN := npw_b n1 n5 a0 a3
  obtain ⟨t, ht, q⟩ := c_word49 (C := C) (X := X) (Y := Y) (op := op) (p := n ^ a.toNat) rfl (oH.rf H _) p3 ha (by omega) H0 H1 a0 a3 (by rw [if_neg (by omega)]) (by omega) (hX.same (fun _ _ _ => rfl) (by omega)) (hY.same (fun _ _ _ => rfl) (by omega))
  refine ⟨t, ?_, q.1, q.2.1, fun β hb cb u u0 u1 => ?_, q.2.2.2⟩
  · unfold f_127
    rw [if_neg (by omega), zg_pos ⟨by omega, by omega⟩, if_neg (by omega), p1, p2, show H + 1 - 1 = H by omega]
    exact ht
  · rw [q.2.2.1 β hb cb u u0 u1]
    dsimp only
    rw [Int.emod_eq_of_lt u0 u1]
/-- :> -/
theorem c_lasts (h : CO2 C s n H a 1 X Y) (a0 : 1 ≤ a) (a3 : a ≤ 3) : ∃ t, f_127 23 s = some ((), t) ∧ CR C s t n H a (fun β => vLast n (X β) (Y β)) := by
  obtain ⟨p1, p2, p3⟩ := h.pop
  obtain ⟨⟨hn, n1, n5, -⟩, h17, H0, H1, ha, hb, hX, hY⟩ := h
  have hN := npw_b n1 n5 (show 0 ≤ a by omega) a3
  have en : n ^ (1 : Int).toNat = n := by show n ^ 1 = n; rw [Int.pow_succ, Int.pow_zero, Int.one_mul]
  rw [en] at hY
  have hnN : n ≤ n ^ a.toNat := by
    have e : n ^ a.toNat = n ^ (a - 1).toNat * n := by rw [show a.toNat = (a - 1).toNat + 1 by omega, Int.pow_succ]
    have := npw_pos (a := a - 1) n1
    have := mul_mono (m := n) this (by omega)
    rw [e]
    omega
  obtain ⟨t, ht, q⟩ := c_word49 (C := C) (X := X) (Y := Y) (op := 23) (p := n) rfl (oH.rf H _) p3 ha (by omega) H0 H1 (by omega) a3 (by rw [if_pos rfl]) hnN (hX.same (fun _ _ _ => rfl) (by omega)) (hY.same (fun _ _ _ => rfl) (by omega))
  refine ⟨t, ?_, q.1, q.2.1, fun β hb cb u u0 u1 => ?_, q.2.2.2⟩
  · unfold f_127
    rw [if_neg (by omega), zg_pos ⟨by omega, by omega⟩, if_neg (by omega), p1, p2, show H + 1 - 1 = H by omega]
    exact ht
  · rw [q.2.2.1 β hb cb u u0 u1]
    rfl
/-- = and in -/
theorem c_compare {op : Int} (h : CO2 C s n H a a X Y) (a0 : 0 ≤ a) (a3 : a ≤ 3) (hop : zR op) : ∃ t, f_123 op s = some ((), t) ∧ CR C s t n H 0 (fun β _ => if op = 32 then vEq (n ^ a.toNat) (X β) (Y β) else vIn (n ^ a.toNat) (X β) (Y β)) := by
  obtain ⟨p1, p2, p3⟩ := h.pop
  obtain ⟨⟨hn, n1, n5, -⟩, h17, H0, H1, ha, hb, hX, hY⟩ := h
  have hN := npw_b n1 n5 a0 a3
  have sa := p3.size a0 a3
  generalize hNN : n ^ a.toNat = N at *
  generalize hs1 : sI s 17 3 (H + 1) = s1 at *
  have e18 : ∀ i, gJ s1 18 i = gJ s 18 i := fun i => by rw [← hs1]; rfl
  have e19 : ∀ i, gI s1 19 i = gI s 19 i := fun i => by rw [← hs1, gI_nc (by decide)]
  obtain ⟨w, hw, hwb⟩ := zlp_F (B := fun (q : BitVec 64 × Int) => b_123_63 op (H * 125) ((H + 1) * 125) N s1 q.1 q.2) (I := fun q => 0 ≤ q.2 ∧ q.2 ≤ N ∧ ∀ β, β < 64 → C β → q.1.getLsbD β = zany q.2.toNat (fun t => if op = 32 then X β t != Y β t else X β t && !Y β t)) (μ := fun q => (N - q.2).toNat) (Q := fun w => ∀ β, β < 64 → C β → w.getLsbD β = zany N.toNat (fun t => if op = 32 then X β t != Y β t else X β t && !Y β t)) (by
    rintro ⟨w, i⟩ ⟨a1, a2, a3'⟩
    dsimp only at a1 a2 a3' ⊢
    unfold b_123_63
    rw [zg_pos ⟨by omega, by omega⟩, zg_pos ⟨by omega, by omega⟩]
    by_cases hc : i < N
    · left
      rw [if_pos hc, zg_pos ⟨by omega, by omega⟩, zg_pos ⟨by omega, by omega⟩, zg_pos hop]
      have hx : ∀ β, β < 64 → C β → (gJ s1 18 (H * 125 + i)).getLsbD β = X β i := fun β hb cb => by rw [e18]; exact hX β hb cb i a1 hc
      have hy : ∀ β, β < 64 → C β → (gJ s1 18 ((H + 1) * 125 + i)).getLsbD β = Y β i := fun β hb cb => by rw [e18]; exact hY β hb cb i a1 hc
      by_cases ho : op = 32
      · rw [if_pos ho]
        refine ⟨_, rfl, ⟨by dsimp only; omega, by dsimp only; omega, fun β hb cb => ?_⟩, by dsimp only; omega⟩
        dsimp only
        rw [zany_step _ a1, gb_or, gb_or, gb_and, gb_and, gb_not hb, gb_not hb, a3' β hb cb, hx β hb cb, hy β hb cb, if_pos ho]
        cases X β i <;> cases Y β i <;> simp
      · rw [if_neg ho]
        refine ⟨_, rfl, ⟨by dsimp only; omega, by dsimp only; omega, fun β hb cb => ?_⟩, by dsimp only; omega⟩
        dsimp only
        rw [zany_step _ a1, gb_or, gb_and, gb_not hb, a3' β hb cb, hx β hb cb, hy β hb cb, if_neg ho]
    · right
      rw [if_neg hc]
      refine ⟨_, rfl, fun β hb cb => ?_⟩
      rw [a3' β hb cb, show i = N by omega]) (s := (0#64, 0)) ⟨by dsimp only; omega, by dsimp only; omega, fun β hb cb => gb_zero β⟩ (by dsimp only; omega)
  refine ⟨sI (sJ s1 18 (H * 125) (w ^^^ (18446744073709551615#64))) 19 H 0, ?_, ?_, gI_same ⟨by decide, by decide⟩, ?_, ?_, ?_⟩
  · unfold f_123
    rw [if_neg (by omega), p1, p2, show H + 1 - 1 = H by omega, zg_pos ⟨by omega, by omega⟩, ha, zo_of sa, zo_of hw, zg_pos ⟨by omega, by omega⟩]
  · rw [gI_nc (by decide), gI_sJ, p2]
  · intro β hb cb t t0 t1
    have e : t = 0 := by
      have : n ^ (0 : Int).toNat = 1 := Int.pow_zero n
      omega
    rw [e]
    show (gJ (sJ s1 18 (H * 125) (w ^^^ (18446744073709551615#64))) 18 (H * 125 + 0)).getLsbD β = _
    rw [Int.add_zero, gJ_same, gb_not hb, hwb β hb cb]
    by_cases ho : op = 32
    · simp only [if_pos ho]
      rfl
    · simp only [if_neg ho]
      rfl
  · intro i hi
    show gJ (sJ s1 18 (H * 125) (w ^^^ (18446744073709551615#64))) 18 i = _
    rw [gJ_ni (by omega), e18]
  · intro j hj
    rw [gI_ni (by omega), gI_sJ, e19]
end COPS
