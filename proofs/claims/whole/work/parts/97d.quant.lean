/-! THE CLASS'S MACHINE: quantify. -/
theorem zcnt_split {f g : Int → Bool} : ∀ n : Nat, zcnt n f = zcnt n (fun t => f t && g t) + zcnt n (fun t => f t && !g t)
  | 0 => rfl
  | n + 1 => by
    rw [zcnt, zcnt, zcnt, zcnt_split n (f := f) (g := g)]
    cases f n <;> cases g n <;> simp <;> omega
/-- an atom that counts -/
def dHit (q L : Int) (D1 D2 : Dn) (e : Int → Int) (A : Int → Bool) : Vl := fun x => D1 e A x && (if q = 0 then !D2 (eUp e L x) A 0 else D2 (eUp e L x) A 0)
section QUANT
variable {v : Wd} {cd : Cd} {a b c L : Int} {m m1 m2 : Nat} {D D1 D2 : Dn}
/-- one atom more: what the words become, bit by bit -/
theorem q_bits {q cnt : Int} {h u o t : Bool} (c0 : 0 ≤ cnt) (hu : u = if q = 3 ∨ q = 4 then !decide (2 ≤ cnt) else !decide (1 ≤ cnt)) (ho : o = decide (1 ≤ cnt)) (ht : q = 3 ∨ q = 4 → t = decide (2 ≤ cnt)) : ((u && !(if q = 3 ∨ q = 4 then (t || (o && (h && u))) else (o || (h && u)))) = if q = 3 ∨ q = 4 then !decide (2 ≤ cnt + (if h then 1 else 0)) else !decide (1 ≤ cnt + (if h then 1 else 0))) ∧ (o || (h && u)) = decide (1 ≤ cnt + (if h then 1 else 0)) ∧ (q = 3 ∨ q = 4 → (t || (o && (h && u))) = decide (2 ≤ cnt + (if h then 1 else 0))) := by
  have h1 : cnt = 0 ∨ cnt = 1 ∨ 2 ≤ cnt := by omega
  by_cases hq : q = 3 ∨ q = 4
  · have ht := ht hq
    rw [if_pos hq] at hu
    rw [hu, ho, ht, if_pos hq, if_pos hq]
    rcases h1 with rfl | rfl | h1
    · cases h <;> simp
    · cases h <;> simp
    · have e1 : decide (2 ≤ cnt) = true := decide_eq_true h1
      have e2 : decide (1 ≤ cnt) = true := decide_eq_true (by omega)
      have e3 : decide (2 ≤ cnt + (if h then 1 else 0)) = true := decide_eq_true (by split <;> omega)
      have e4 : decide (1 ≤ cnt + (if h then 1 else 0)) = true := decide_eq_true (by split <;> omega)
      rw [e1, e2, e3, e4]
      simp
  · rw [if_neg hq] at hu
    rw [hu, ho, if_neg hq, if_neg hq]
    refine ⟨?_, ?_, fun h => absurd h hq⟩
    · rcases h1 with rfl | rfl | h1
      · cases h <;> simp
      · cases h <;> simp
      · have e2 : decide (1 ≤ cnt) = true := decide_eq_true (by omega)
        have e4 : decide (1 ≤ cnt + (if h then 1 else 0)) = true := decide_eq_true (by split <;> omega)
        rw [e2, e4]
        simp
    · rcases h1 with rfl | rfl | h1
      · cases h <;> simp
      · cases h <;> simp
      · have e2 : decide (1 ≤ cnt) = true := decide_eq_true (by omega)
        have e4 : decide (1 ≤ cnt + (if h then 1 else 0)) = true := decide_eq_true (by split <;> omega)
        rw [e2, e4]
        simp
/-- the words of a quantifier, after x atoms -/
def QW (w : BitVec 64) (q : Int) (u o t : BitVec 64) (cnt : Nat → Int) : Prop := ∀ β, β < 64 → (w.getLsbD β = false → u.getLsbD β = false) ∧ (w.getLsbD β = true → u.getLsbD β = (if q = 3 ∨ q = 4 then !decide (2 ≤ cnt β) else !decide (1 ≤ cnt β)) ∧ o.getLsbD β = decide (1 ≤ cnt β) ∧ (q = 3 ∨ q = 4 → t.getLsbD β = decide (2 ≤ cnt β)))
theorem QW.skip {w u o t : BitVec 64} {q : Int} {cnt cnt2 : Nat → Int} (h : QW w q u o t cnt) (h2 : ∀ β, β < 64 → w.getLsbD β = true → cnt2 β = cnt β ∨ (u.getLsbD β = false ∧ cnt β ≤ cnt2 β)) : QW w q u o t cnt2 := by
  intro β hb
  obtain ⟨g1, g2⟩ := h β hb
  refine ⟨g1, fun hw => ?_⟩
  obtain ⟨k1, k2, k3⟩ := g2 hw
  rcases h2 β hb hw with e | ⟨e1, e2⟩
  · rw [e]; exact ⟨k1, k2, k3⟩
  · rw [e1] at k1
    by_cases hq : q = 3 ∨ q = 4
    · rw [if_pos hq] at k1 ⊢
      have h2c : 2 ≤ cnt β := by
        by_cases hc : 2 ≤ cnt β
        · exact hc
        · rw [decide_eq_false hc] at k1; cases k1
      rw [decide_eq_true (show 2 ≤ cnt2 β by omega), decide_eq_true (show 1 ≤ cnt2 β by omega)]
      rw [decide_eq_true (show 1 ≤ cnt β by omega)] at k2
      have := k3 hq
      rw [decide_eq_true h2c] at this
      exact ⟨e1, k2, fun _ => this⟩
    · rw [if_neg hq] at k1 ⊢
      have h1c : 1 ≤ cnt β := by
        by_cases hc : 1 ≤ cnt β
        · exact hc
        · rw [decide_eq_false hc] at k1; cases k1
      rw [decide_eq_true (show 1 ≤ cnt2 β by omega)]
      rw [decide_eq_true h1c] at k2
      exact ⟨e1, k2, fun h => absurd h hq⟩
end QUANT
