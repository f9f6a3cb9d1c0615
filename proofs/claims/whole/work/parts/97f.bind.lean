/-! SEGMENTS of the class's code: what binds. -/
/-- how many tuples a binder's value has, and its arity -/
abbrev bW (n q : Int) : Int := if q = 5 then n else 1
abbrev bR (q : Int) : Int := if q = 5 then 1 else 0
theorem bW_eq {n q : Int} : n ^ (bR q).toNat = bW n q := by
  by_cases h : q = 5
  · rw [bR, bW, if_pos h, if_pos h, npw_1]
  · rw [bR, bW, if_neg h, if_neg h, npw_0]
section BIND
variable {v : Wd} {cd : Cd} {a b c L : Int} {m m1 m2 : Nat} {D D1 D2 : Dn}
theorem CP.remember {σ τ : zS} {w : BitVec 64} {H r p k x : Int} {e : Int → Int} {A : Nat → Int → Bool} {V : Nat → Vl} (hp : CP w σ τ v L H r A V) (hS : CS τ v L (H + 1) e A) (H0 : 0 ≤ H) (H1 : H < 22) (r0 : 0 ≤ r) (r1 : r ≤ 1) (k0 : 0 ≤ k) (k1 : k < v.K) (x0 : 0 ≤ x) (x1 : x < 25) (hpk : p = k * 25 + x) (hW : v.W k = v.n ^ r.toNat) (hF : ∀ β, ∀ i, 0 ≤ i → i < v.n ^ r.toNat → v.F k x (A β) i = V β i) : ∃ ω, f_111 p r w τ = some ((), ω) ∧ CP w σ ω v L H r A V := by
  have n5 := hS.1.2.2.1
  have n1 := hS.1.2.1
  have K40 := hS.2.2.2.2.2.2.1
  have hN : 1 ≤ v.n ^ r.toNat ∧ v.n ^ r.toNat ≤ 5 := by
    have hr : r = 0 ∨ r = 1 := by omega
    rcases hr with rfl | rfl
    · rw [npw_0]; omega
    · rw [npw_1]; omega
  have hpd : p / 25 = k ∧ p % 25 = x := by omega
  obtain ⟨ω, t1, t2, t3, t4, t5, t6, t7, t8⟩ := c_remember (w := w) hS.1 hS.2.2.1 H0 H1 (show 0 ≤ p by omega) (show p < 1000 by omega) r0 r1
  obtain ⟨p1, p2, p3, p4, p5, p6⟩ := hp
  have eI : ∀ c i, gI ω c i = gI τ c i := fun c i => by unfold gI; rw [t2]
  refine ⟨ω, t1, zfr_sub rfl (zfr_tr p1 (zfr_sub rfl (fr_111 t1))), ⟨by rw [eI]; exact p2.1, by rw [eI]; exact p2.2.1, p2.2.2.1.same (fun i _ _ => t4 _ _ (by decide) (by decide)) (by omega), ⟨fun i hi => by rw [t4 _ _ (by decide) (by decide)]; exact p2.2.2.2.1 i hi, fun j hj => by rw [eI]; exact p2.2.2.2.2 j hj⟩⟩, fun j j0 j1 => by rw [eI]; exact p3 j j0 j1, ?_, fun p' hp' => by rw [t5 p' (by omega)]; exact p5 p' hp', fun p' hp' => by rw [t6 p' (by omega)]; exact p6 p' hp'⟩
  intro p' h0 h1 β hb hk i i0 i5 i1
  by_cases hpp : p' = p
  · rw [hpp, hpd.1] at i1
    rw [hpp, hpd.1, hpd.2]
    rw [hpp] at hk
    rw [hW] at i1
    rw [t8 β hb i i0 i1]
    by_cases hw : w.getLsbD β = true
    · rw [if_pos hw, hF β i i0 i1]
      exact p2.2.2.1 β hb hw i i0 i1
    · rw [if_neg hw]
      have hk2 := t7 β hb
      rw [hk, Bool.not_eq_true _ |>.mp hw, Bool.or_false] at hk2
      have := p4 p (by omega) (by omega) β hb hk2.symm i i0 i5 (by rw [hpd.1, hW]; exact i1)
      rw [hpd.1, hpd.2] at this
      exact this
  · have hk2 : gb τ 23 p' β = true := by
      show (gJ τ 23 p').getLsbD β = true
      rw [← t5 p' hpp]; exact hk
    have h4 := p4 p' h0 h1 β hb hk2 i i0 i5 i1
    show (gJ ω 24 (p' * 5 + i)).getLsbD β = _
    rw [t6 _ (by omega)]
    exact h4
end BIND
