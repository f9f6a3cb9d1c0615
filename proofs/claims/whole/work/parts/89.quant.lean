/-! SEGMENTS of the reference's code: + - &; quantifiers and sets. -/
section SEG4
variable {n R : Int} {ra cd wt al : Int → Int} {a b c L N N1 N2 : Int} {m m1 m2 : Nat} {D D1 D2 : Dn}
/-- the three operators that go word by word -/
theorem both_words {τ : zS} {T : Int} {e : Int → Int} {A : Int → Bool} {V X Y : Vl} {lo hi : BitVec 64} (hM : MS τ n R ra L (T + 2) e A) (h0 : 0 ≤ T) (hT : T ≤ 99) (hV : RV N lo hi V) : ∃ ω, j_208_239 (sJ (sJ (both0 τ T) 177 47 lo) 177 48 hi) = some ((), ω) ∧ MP τ ω T L N V := by
  refine both_end hM h0 hT (zfr_tr (zfr_J rfl) (zfr_J rfl)) ?_
  rw [gJ_ni (i' := 47) (by decide), gJ_same, gJ_same]
  exact hV
theorem tb_and {l1 h1 l2 h2 : BitVec 64} (t : Int) : tb (l1 &&& l2) (h1 &&& h2) t = (tb l1 h1 t && tb l2 h2 t) := by
  unfold tb
  split <;> rw [BitVec.getLsbD_and]
theorem tb_or {l1 h1 l2 h2 : BitVec 64} (t : Int) : tb (l1 ||| l2) (h1 ||| h2) t = (tb l1 h1 t || tb l2 h2 t) := by
  unfold tb
  split <;> rw [BitVec.getLsbD_or]
theorem tb_andn {l1 h1 l2 h2 : BitVec 64} {t : Int} (t0 : 0 ≤ t) (t1 : t < 128) : tb (l1 &&& (l2 ^^^ (18446744073709551615#64))) (h1 &&& (h2 ^^^ (18446744073709551615#64))) t = (tb l1 h1 t && !tb l2 h2 t) := by
  unfold tb
  split <;> rw [bv_andn (by omega)]
theorem seg_plus (h1 : RSeg n R ra cd wt al a c L m1 N D1) (h2 : RSeg n R ra cd wt al c b L m2 N D2) (hm1 : m1 ≤ m) (hm2 : m2 + 1 ≤ m) (hb : 0 ≤ b) (hc : cd b = 34) : RSeg n R ra cd wt al a (b + 1) L m N (fun e A t => D1 e A t || D2 e A t) := by
  refine seg_bin h1 h2 hm1 hm2 (fun τ row e A T hC hM h0 hT hV hV2 => ?_)
  obtain ⟨t1, t2⟩ := both_top hM.2.2.2.2.1 h0 (by omega)
  obtain ⟨ω, w1, w2⟩ := both_words (N := N) (V := fun t => D1 e A t || D2 e A t) (X := D1 e A) (Y := D2 e A) (lo := gJ τ 198 T ||| gJ τ 198 (T + 1)) (hi := gJ τ 199 T ||| gJ τ 199 (T + 1)) hM h0 hT (fun t t0 t1 => by rw [tb_or, hV t t0 t1, hV2 t t0 t1]; cases decide (t < N) <;> rfl)
  refine ⟨ω, m_turn_joint hC (by omega) (by omega) hc (by decide) (by decide) rfl ?_, w2⟩
  unfold f_208
  rw [t1, t2, show T + 1 - 1 = T by omega, zg_pos ⟨h0, by omega⟩, zg_pos (by decide), show t_208_47 34 = 88 from rfl, if_pos rfl, zg_pos ⟨by omega, by omega⟩]
  exact w1
theorem seg_minus (h1 : RSeg n R ra cd wt al a c L m1 N D1) (h2 : RSeg n R ra cd wt al c b L m2 N D2) (hm1 : m1 ≤ m) (hm2 : m2 + 1 ≤ m) (hb : 0 ≤ b) (hc : cd b = 35) : RSeg n R ra cd wt al a (b + 1) L m N (fun e A t => D1 e A t && !D2 e A t) := by
  refine seg_bin h1 h2 hm1 hm2 (fun τ row e A T hC hM h0 hT hV hV2 => ?_)
  obtain ⟨t1, t2⟩ := both_top hM.2.2.2.2.1 h0 (by omega)
  obtain ⟨ω, w1, w2⟩ := both_words (N := N) (V := fun t => D1 e A t && !D2 e A t) (X := D1 e A) (Y := D2 e A) (lo := gJ τ 198 T &&& (gJ τ 198 (T + 1) ^^^ (18446744073709551615#64))) (hi := gJ τ 199 T &&& (gJ τ 199 (T + 1) ^^^ (18446744073709551615#64))) hM h0 hT (fun t t0 t1 => by rw [tb_andn t0 t1, hV t t0 t1, hV2 t t0 t1]; cases decide (t < N) <;> rfl)
  refine ⟨ω, m_turn_joint hC (by omega) (by omega) hc (by decide) (by decide) rfl ?_, w2⟩
  unfold f_208
  rw [t1, t2, show T + 1 - 1 = T by omega, zg_pos ⟨h0, by omega⟩, zg_pos (by decide), show t_208_47 35 = 123 from rfl, if_neg (by decide), if_pos rfl, zg_pos ⟨by omega, by omega⟩]
  exact w1
theorem seg_meet (h1 : RSeg n R ra cd wt al a c L m1 N D1) (h2 : RSeg n R ra cd wt al c b L m2 N D2) (hm1 : m1 ≤ m) (hm2 : m2 + 1 ≤ m) (hb : 0 ≤ b) (hc : cd b = 36) : RSeg n R ra cd wt al a (b + 1) L m N (fun e A t => D1 e A t && D2 e A t) := by
  refine seg_bin h1 h2 hm1 hm2 (fun τ row e A T hC hM h0 hT hV hV2 => ?_)
  obtain ⟨t1, t2⟩ := both_top hM.2.2.2.2.1 h0 (by omega)
  obtain ⟨ω, w1, w2⟩ := both_words (N := N) (V := fun t => D1 e A t && D2 e A t) (X := D1 e A) (Y := D2 e A) (lo := gJ τ 198 T &&& gJ τ 198 (T + 1)) (hi := gJ τ 199 T &&& gJ τ 199 (T + 1)) hM h0 hT (fun t t0 t1 => by rw [tb_and, hV t t0 t1, hV2 t t0 t1]; cases decide (t < N) <;> rfl)
  refine ⟨ω, m_turn_joint hC (by omega) (by omega) hc (by decide) (by decide) rfl ?_, w2⟩
  unfold f_208
  rw [t1, t2, show T + 1 - 1 = T by omega, zg_pos ⟨h0, by omega⟩, zg_pos (by decide), show t_208_47 36 = 166 from rfl, if_neg (by decide), if_neg (by decide), if_pos rfl, zg_pos ⟨by omega, by omega⟩]
  exact w1
/-- one atom more is bound -/
def eUp (e : Int → Int) (L x : Int) : Int → Int := fun j => if j = L then x else e j
/-- what holds of the atoms of a quantifier -/
def dGot (L : Int) (D1 D2 : Dn) (e : Int → Int) (A : Int → Bool) : Vl := fun x => D1 e A x && D2 (eUp e L x) A 0
/-- quantifiers (0 all, 1 some, 2 no, 3 lone, 4 one) and sets (5) -/
def dQ (n w L : Int) (D1 D2 : Dn) : Dn := fun e A t => if w = 5 then dGot L D1 D2 e A t else vQty w (zcnt n.toNat (dGot L D1 D2 e A)) (zcnt n.toNat (D1 e A))
theorem zcnt_5 {n : Int} (n1 : 1 ≤ n) (n5 : n ≤ 5) {f g : Vl} (h : ∀ i, 0 ≤ i → i < 5 → f i = (decide (i < n) && g i)) : zcnt 5 f = zcnt n.toNat g := by
  have e : 5 = n.toNat + (5 - n.toNat) := by omega
  have h1 : zcnt 5 f = zcnt 5 (fun t => decide (t < n) && g t) := zcnt_congr (fun i i0 i1 => h i i0 (by omega))
  rw [h1]
  conv => lhs; rw [e]
  rw [zcnt_ext (fun i hi => by rw [decide_eq_false (by omega), Bool.false_and])]
  exact zcnt_congr (fun i i0 i1 => by rw [decide_eq_true (by omega), Bool.true_and])
/-- the end of a loop: what endLoop leaves -/
theorem m_endLoop {τ : zS} {T w : Int} {e : Int → Int} {A : Int → Bool} {G S : Vl} (hM : MS τ n R ra (L + 1) T e A) (L0 : 0 ≤ L) (hL : L ≤ 30) (hT : T ≤ 100) (hw0 : 0 ≤ w) (hw : w ≤ 5) (hg0 : 0 ≤ gI τ 203 L) (hg1 : gI τ 203 L < 32) (hs0 : 0 ≤ gI τ 202 L) (hs1 : gI τ 202 L < 32) (hG : ∀ i, 0 ≤ i → i < 5 → ib (gI τ 203 L) i = (decide (i < n) && G i)) (hS : ∀ i, 0 ≤ i → i < 5 → ib (gI τ 202 L) i = (decide (i < n) && S i)) : ∃ ω, f_202 w τ = some ((), ω) ∧ MP τ ω T L (if w = 5 then n else 1) (fun t => if w = 5 then G t else vQty w (zcnt n.toNat G) (zcnt n.toNat S)) := by
  obtain ⟨h1, h2, h3, h4, h5, h6, h7, h8, h9⟩ := hM
  have e53 : gI τ 177 53 - 1 = L := by omega
  have g53 : gI (sI τ 177 53 L) 177 53 = L := gI_same ⟨by omega, by omega⟩
  -- the state with one loop less
  have hM2 : MS (sI τ 177 53 L) n R ra L T e A := by
    refine ⟨by rw [gI_ni (by decide)]; exact h1, h2, h3, h4, by rw [gI_ni (by decide)]; exact h5, h6, g53, by omega, fun j j0 j1 => ?_⟩
    rw [gI_nc (by decide)]
    exact h9 j j0 (by omega)
  have hpop : ∀ {ω : zS} {N : Int} {V : Vl}, MP (sI τ 177 53 L) ω T L N V → MP τ ω T L N V := by
    intro ω N V h
    obtain ⟨a1, a2, a3, a4, a5, a6⟩ := h
    exact ⟨zfr_tr (zfr_I rfl) a1, a2, a3, a4, a5, a6⟩
  unfold f_202
  rw [e53, g53, zg_pos ⟨by omega, by omega⟩, zg_pos ⟨by omega, by omega⟩]
  by_cases h5w : w = 5
  · rw [if_pos h5w, if_pos h5w]
    have hval : RV n (BitVec.ofInt 64 (gI τ 203 L)) (0#64) (fun t => if w = 5 then G t else vQty w (zcnt n.toNat G) (zcnt n.toNat S)) := by
      refine RV_of (by omega) (fun t t0 t1 => ?_)
      rw [if_pos h5w]
      show (BitVec.ofInt 64 (gI τ 203 L)).toNat.testBit t.toNat = _
      have hnat : (BitVec.ofInt 64 (gI τ 203 L)).toNat = (gI τ 203 L).toNat := by
        rw [BitVec.toNat_ofInt]
        omega
      rw [hnat]
      by_cases ht : t < 5
      · exact hG t t0 ht
      · rw [decide_eq_false (by omega), Bool.false_and]
        apply Nat.testBit_lt_two_pow
        have : (gI τ 203 L).toNat < 2 ^ 5 := by omega
        exact Nat.lt_of_lt_of_le this (Nat.pow_le_pow_right (by decide) (by omega))
    obtain ⟨ω, w1, w2⟩ := m_give hM2 hT hval
    exact ⟨ω, by rw [zb_of w1], hpop w2⟩
  · rw [if_neg h5w, if_neg h5w]
    have c1 : f_204 (gI τ 203 L) (sI τ 177 53 L) = some (zcnt n.toNat G) := by
      rw [m_many hg0 (zR_gI _ _ _), zcnt_5 h2 h3 hG]
    have c2 : f_204 (gI τ 202 L) (sI τ 177 53 L) = some (zcnt n.toNat S) := by
      rw [m_many hs0 (zR_gI _ _ _), zcnt_5 h2 h3 hS]
    have b1 := zcnt_b G n.toNat
    have b2 := zcnt_b S n.toNat
    obtain ⟨ω, w1, w2⟩ := m_truth (v := vQty w (zcnt n.toNat G) (zcnt n.toNat S)) (V := fun t => if w = 5 then G t else vQty w (zcnt n.toNat G) (zcnt n.toNat S)) hM2 hT (by rw [if_neg h5w])
    exact ⟨ω, by rw [zo_of c1, zo_of c2, m_isQuantity hw0 (by omega) ⟨by omega, by omega⟩ ⟨by omega, by omega⟩, zo_of rfl, zb_of w1], hpop w2⟩
end SEG4
