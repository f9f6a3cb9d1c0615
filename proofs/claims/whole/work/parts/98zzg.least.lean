/-! THE REFERENCE counts fair renamings; FAIR. -/
theorem zor_bit {acc x : Int} (a0 : 0 ≤ acc) (a1 : acc < 4096) (x0 : 0 ≤ x) (x1 : x ≤ 11) : 0 ≤ zor acc (1 * 2 ^ zsh x) ∧ zor acc (1 * 2 ^ zsh x) < 4096 ∧ ∀ b : Nat, (zor acc (1 * 2 ^ zsh x)).toNat.testBit b = true ↔ acc.toNat.testBit b = true ∨ (b : Int) = x := by
  obtain ⟨p1, p2⟩ := zpow_b (i := x) x0 (by omega)
  have hp : (2 ^ x.toNat : Nat) < 2 ^ 12 := Nat.pow_lt_pow_right (by decide) (by omega)
  have e : zor acc (1 * 2 ^ zsh x) = ((acc.toNat ||| 2 ^ x.toNat : Nat) : Int) := by
    rw [p1]
    generalize (2 ^ x.toNat : Nat) = p at hp
    rw [zor_nat a0 ⟨by omega, by omega⟩ (by omega) ⟨by omega, by omega⟩]
    rfl
  have hlt : acc.toNat ||| 2 ^ x.toNat < 2 ^ 12 := Nat.or_lt_two_pow (by omega) hp
  rw [e]
  refine ⟨by omega, by omega, fun b => ?_⟩
  rw [show ((((acc.toNat ||| 2 ^ x.toNat : Nat) : Int)).toNat) = acc.toNat ||| 2 ^ x.toNat from rfl, Nat.testBit_or, Bool.or_eq_true, Nat.testBit_two_pow, decide_eq_true_iff]
  constructor
  · rintro (h | h)
    · exact Or.inl h
    · exact Or.inr (by omega)
  · rintro (h | h)
    · exact Or.inl h
    · exact Or.inr (by omega)
theorem m_digits {s : zS} {n v1 v2 v3 v4 v5 : Int} {k : Nat} (hn : gI s 177 1 = n) (n1 : 1 ≤ n) (n5 : n ≤ 5) (hk : k ≤ 3125) : ∃ t, zlp (fun (q : Int × Int × Int × zS) => b_230_49 v1 v2 v3 v4 v5 q.1 q.2.1 q.2.2.1 q.2.2.2) zF ((k : Int), 0, 0, s) = some t ∧ (∀ x, 0 ≤ x → x < n → gI t.2 204 x = dgI n k x) ∧ (0 ≤ t.1 ∧ t.1 < 4096) ∧ (t.1 = 1 * 2 ^ zsh n - 1 ↔ pcN n.toNat k = true) ∧ zfr 25711008708143844408671393477458601640355247900524685364822016 s t.2 := by
  refine zlp_F (I := fun (q : Int × Int × Int × zS) => 0 ≤ q.2.2.1 ∧ q.2.2.1 ≤ n ∧ q.1 = ((k / n.toNat ^ q.2.2.1.toNat : Nat) : Int) ∧ zfr 25711008708143844408671393477458601640355247900524685364822016 s q.2.2.2 ∧ (∀ x, 0 ≤ x → x < q.2.2.1 → gI q.2.2.2 204 x = dgI n k x) ∧ (0 ≤ q.2.1 ∧ q.2.1 < 4096) ∧ ∀ b : Nat, q.2.1.toNat.testBit b = true ↔ ∃ x, 0 ≤ x ∧ x < q.2.2.1 ∧ dgI n k x = b) (μ := fun q => (n - q.2.2.1).toNat) (Q := fun (t : Int × zS) => (∀ x, 0 ≤ x → x < n → gI t.2 204 x = dgI n k x) ∧ (0 ≤ t.1 ∧ t.1 < 4096) ∧ (t.1 = 1 * 2 ^ zsh n - 1 ↔ pcN n.toNat k = true) ∧ zfr 25711008708143844408671393477458601640355247900524685364822016 s t.2) ?_ ⟨by dsimp only; omega, by dsimp only; omega, by dsimp only; rw [show (0 : Int).toNat = 0 from rfl, Nat.pow_zero, Nat.div_one], zfr_rf _ _, fun x h1 h2 => by dsimp only at h2; omega, ⟨by dsimp only; decide, by dsimp only; decide⟩, fun b => by
    dsimp only
    rw [show (0 : Int).toNat = 0 from rfl, Nat.zero_testBit]
    exact ⟨fun h => absurd h (by decide), fun ⟨x, h1, h2, _⟩ => by omega⟩⟩ (by dsimp only; omega)
  rintro ⟨rest, seen, a, σ⟩ ⟨q1, q2, q3, q4, q5, q6, q7⟩
  dsimp only at q1 q2 q3 q4 q5 q6 q7 ⊢
  have hgn : gI σ 177 1 = n := by rw [q4.i rfl]; exact hn
  unfold b_230_49
  rw [zg_pos ⟨by omega, by omega⟩, hgn]
  by_cases ha : a < n
  · left
    have hle : k / n.toNat ^ a.toNat ≤ k := Nat.div_le_self _ _
    have hrb : 0 ≤ rest ∧ rest ≤ 3125 := by
      rw [q3]
      generalize k / n.toNat ^ a.toNat = y at hle
      omega
    have hd : rest % n = dgI n k a := by
      rw [q3, show a = ((a.toNat : Nat) : Int) by omega, dg_nat n1, Int.natCast_emod, show ((n.toNat : Nat) : Int) = n by omega, show (((a.toNat : Nat) : Int)).toNat = a.toNat from rfl]
    have hr : rest / n = ((k / n.toNat ^ (a + 1).toNat : Nat) : Int) := by
      rw [q3, show (a + 1).toNat = a.toNat + 1 by omega, Nat.pow_succ, ← Nat.div_div_eq_div_mul]
      generalize k / n.toNat ^ a.toNat = y
      rw [Int.natCast_ediv, show ((n.toNat : Nat) : Int) = n by omega]
    obtain ⟨b1, b2⟩ := dgI_b (c := (k : Int)) n1 a
    obtain ⟨o1, o2, o3⟩ := zor_bit (x := dgI n k a) q6.1 q6.2 b1 (by omega)
    rw [if_pos ha, zg_pos ⟨hrb.1, ⟨by have := hrb.1; omega, by have := hrb.2; omega⟩, by omega, ⟨by omega, by omega⟩⟩, zg_pos ⟨q1, by omega⟩, hd, hr]
    refine ⟨_, rfl, ⟨by dsimp only; omega, by dsimp only; omega, rfl, zfr_tr q4 (zfr_IA rfl rfl), fun x h1 h2 => ?_, ⟨o1, o2⟩, fun b => ?_⟩, by dsimp only; omega⟩
    · dsimp only at h2 ⊢
      by_cases e : x = a
      · rw [e, gI_same ⟨by omega, by omega⟩]
      · rw [gI_ni e]
        exact q5 x h1 (by omega)
    · dsimp only
      rw [o3 b, q7 b]
      constructor
      · rintro (⟨x, h1, h2, h3⟩ | h)
        · exact ⟨x, h1, by omega, h3⟩
        · exact ⟨a, q1, by omega, h.symm⟩
      · rintro ⟨x, h1, h2, h3⟩
        by_cases e : x = a
        · exact Or.inr (by rw [← h3, e])
        · exact Or.inl ⟨x, h1, by omega, h3⟩
  · right
    have e : a = n := by omega
    rw [if_neg ha]
    rw [e] at q5 q7
    refine ⟨_, rfl, q5, q6, ?_, q4⟩
    dsimp only
    obtain ⟨p1, p2⟩ := zpow_b (i := n) (by omega) (by omega)
    have hge : 1 ≤ 2 ^ n.toNat := Nat.one_le_two_pow
    rw [p1, pcN_iff n1]
    constructor
    · intro h j j0 j1
      have hs : seen.toNat = 2 ^ n.toNat - 1 := by omega
      have hb : seen.toNat.testBit j.toNat = true := by rw [hs, Nat.testBit_two_pow_sub_one, decide_eq_true (by omega)]
      obtain ⟨x, x0, x1, hx⟩ := (q7 j.toNat).mp hb
      exact ⟨x, x0, x1, by omega⟩
    · intro h
      have hs : seen.toNat = 2 ^ n.toNat - 1 := by
        apply Nat.eq_of_testBit_eq
        intro b
        rw [Nat.testBit_two_pow_sub_one, Bool.eq_iff_iff, q7 b, decide_eq_true_iff]
        constructor
        · rintro ⟨x, x0, x1, hx⟩
          have := (dgI_b (c := (k : Int)) n1 x).2
          omega
        · intro hb
          exact h b (by omega) (by omega)
      omega
theorem imgv_cong {s s2 : zS} (h : zeq 548948668231673891175520578485574893452895062245659761876389693210310469525624621355901256342700176 s s2) (c a : Int) : imgv s2 c a = imgv s c a := by
  have e1 : gI s2 1 0 = gI s 1 0 := h.i rfl
  have e2 : gI s2 1 8 = gI s 1 8 := h.i rfl
  have e3 := h.ia (c := 4) rfl rfl
  have e4 := h.ia (c := 7) rfl rfl
  unfold imgv kim
  simp only [e1, e2, e3, e4]
/-- what the reference counts -/
def lsf (s : zS) (one all : Int) (k : Nat) : Bool := pcN (gI s 1 0).toNat k && (fairb s (k : Int) && (decide (all ≠ 0) || decide (((imgv s (k : Int) one : Nat) : Int) < one)))
theorem m_least {s : zS} {one all : Int} (hW : IW s) (hFl : IFl s) (o0 : 0 ≤ one) (oR : zR one) (hall : all = 0 ∨ all = 1) : ∃ s', f_230 one all s = some (((nbt (lsf s one all) ((gI s 1 0).toNat ^ (gI s 1 0).toNat) : Nat) : Int), s') := by
  obtain ⟨⟨n1, n5, n0⟩, -⟩ := id hW
  obtain ⟨n, hn⟩ : ∃ n, n = gI s 1 0 := ⟨_, rfl⟩
  rw [← hn] at n1 n5 n0 ⊢
  obtain ⟨M, hM⟩ : ∃ M, M = n.toNat ^ n.toNat := ⟨_, rfl⟩
  have hMb : 1 ≤ M ∧ M ≤ 3125 := by
    rw [hM]
    rcases gt_ex n1 n5 with h | h | h | h | h <;> rw [h] <;> decide
  have F12 := hW.2.2.2.2.2.1.2
  have F0 := hW.2.2.2.2.2.1.1
  have hp := pow2_b F0 F12
  have hcast : (2 : Int) ^ (gI s 1 8).toNat = ((2 ^ (gI s 1 8).toNat : Nat) : Int) := by rw [Int.natCast_pow]; rfl
  have allR : zR all := by rcases hall with e | e <;> rw [e] <;> decide
  have l1 : zlp (fun (q : Int × Int) => b_230_5 one all s q.1 q.2) zF (1, 0) = some (M : Int) := by
    have := zlp_F (B := fun (q : Int × Int) => b_230_5 one all s q.1 q.2) (I := fun q => 0 ≤ q.2 ∧ q.2 ≤ n ∧ q.1 = ((n.toNat ^ q.2.toNat : Nat) : Int)) (μ := fun q => (n - q.2).toNat) (Q := fun t => t = (M : Int)) (by
      rintro ⟨y, i⟩ ⟨a1, a2, a3⟩
      dsimp only at a1 a2 a3 ⊢
      unfold b_230_5
      rw [zg_pos ⟨by omega, by omega⟩, n0]
      by_cases hi : i < n
      · left
        rw [if_pos hi]
        refine ⟨_, rfl, ⟨by dsimp only; omega, by dsimp only; omega, ?_⟩, by dsimp only; omega⟩
        dsimp only
        rw [show (i + 1).toNat = i.toNat + 1 by omega, Nat.pow_succ, Int.natCast_mul, a3, show ((n.toNat : Nat) : Int) = n by omega]
      · right
        rw [if_neg hi]
        have e : i = n := by omega
        exact ⟨_, rfl, by rw [a3, e, hM]⟩) (s := (1, 0)) ⟨by dsimp only; omega, by dsimp only; omega, by dsimp only; rfl⟩ (by dsimp only; omega)
    obtain ⟨t, et, ht⟩ := this
    rw [et, ht]
  have l2 := zlp_F (B := fun (q : Int × Int × zS) => b_230_33 one all (M : Int) q.1 q.2.1 q.2.2) (I := fun q => 0 ≤ q.2.1 ∧ q.2.1 ≤ M ∧ zfr 25711008708143844408671393477458601640355247900524685364822016 s q.2.2 ∧ q.1 = (nbt (lsf s one all) q.2.1.toNat : Nat)) (μ := fun q => (M - q.2.1).toNat) (Q := fun t => t.1 = ((nbt (lsf s one all) M : Nat) : Int)) (by
    rintro ⟨cnt, k, σ⟩ ⟨a1, a2, a3, a4⟩
    dsimp only at a1 a2 a3 a4 ⊢
    unfold b_230_33
    rw [zg_pos ⟨by omega, by omega⟩, zg_pos ⟨by omega, by omega⟩]
    by_cases hk : k < M
    · left
      obtain ⟨K, hK⟩ : ∃ K : Nat, k = (K : Int) := ⟨k.toNat, by omega⟩
      obtain ⟨t, et, t1, t2, t3, t4⟩ := m_digits (s := σ) (n := n) (k := K) (v1 := one) (v2 := all) (v3 := (M : Int)) (v4 := cnt) (v5 := k) (by rw [a3.i rfl]; exact n0) n1 n5 (by omega)
      rw [← hK] at et
      have zt : zfr 25711008708143844408671393477458601640355247900524685364822016 s t.2 := zfr_tr a3 t4
      have hWt : IW t.2 := IW.cong (zt.eq rfl) hW
      have gn : gI t.2 1 0 = n := by rw [zt.i rfl]; exact hn.symm
      have gm : gI t.2 177 1 = n := by rw [zt.i rfl]; exact n0
      have hfp := (fps_of (s2 := t.2) hW (zt.i rfl) (fun q _ _ => zt.ia (c := 4) rfl rfl q) (fun k => zt.ia (c := 5) rfl rfl k)).1
      obtain ⟨p1, p2⟩ := zpow_b (i := n) (by omega) (by omega)
      have hzr : zR (1 * 2 ^ zsh n - 1) := by
        rw [p1]
        have h2 := p2
        generalize (2 ^ n.toNat : Nat) = y at h2 ⊢
        exact ⟨by omega, by omega⟩
      have hstep : ∀ (c2 : Int), c2 = cnt + (if lsf s one all K = true then 1 else 0) → ∃ s', (some (Sum.inl (c2, k + 1, t.2)) : Option ((Int × Int × zS) ⊕ (Int × zS))) = some (Sum.inl s') ∧ (0 ≤ s'.2.1 ∧ s'.2.1 ≤ M ∧ zfr 25711008708143844408671393477458601640355247900524685364822016 s s'.2.2 ∧ s'.1 = (nbt (lsf s one all) s'.2.1.toNat : Nat)) ∧ ((M : Int) - s'.2.1).toNat < ((M : Int) - k).toNat := by
        intro c2 hc2
        refine ⟨_, rfl, ⟨by dsimp only; omega, by dsimp only; omega, zt, ?_⟩, by dsimp only; omega⟩
        dsimp only
        rw [hc2, a4, hK, show ((K : Int) + 1).toNat = K + 1 by omega, show ((K : Int)).toNat = K from rfl, nbt]
        cases lsf s one all K
        · rfl
        · rfl
      rw [if_pos hk, zo_of et, gm, zg_pos ⟨by omega, by omega⟩, zg_pos hzr]
      by_cases hs : t.1 = 1 * 2 ^ zsh n - 1
      · have hpc := t3.mp hs
        have hmem : (K : Int) ∈ cps n := (cps_mem n1 n5).mpr ⟨K, rfl, by rw [← hM]; omega, hpc⟩
        have e231 : f_231 0 t.2 = some (if fairb s (K : Int) = true then 1 else 0) := by
          rw [m_isFair (c := (K : Int)) hWt (by rw [gn]; exact hmem) (by rw [gn]; exact t1), hfp]
        have hls : lsf s one all K = (fairb s (K : Int) && (decide (all ≠ 0) || decide (((imgv s (K : Int) one : Nat) : Int) < one))) := by
          unfold lsf
          rw [← hn, hpc, Bool.true_and]
        rw [if_pos hs, zo_of e231]
        cases hf : fairb s (K : Int)
        · rw [if_neg (by decide), zg_pos (by decide), if_pos rfl]
          exact hstep cnt (by rw [hls, hf, Bool.false_and, if_neg (by decide), Int.add_zero])
        · rw [if_pos rfl, zg_pos (by decide), if_neg (by decide), zg_pos allR]
          by_cases h0 : all = 0
          · have e233 : f_233 0 one t.2 = some ((imgv s (K : Int) one : Nat) : Int) := by
              rw [m_image (c := (K : Int)) hWt (IFl.cong (zt.eq rfl) hFl) (by rw [gn]; exact hmem) (by rw [hfp]; exact hf) (by rw [gn]; exact t1) o0 oR, imgv_cong (zt.eq rfl)]
            have hlt := imgv_lt s (K : Int) one
            rw [if_pos h0, zo_of e233, zg_pos ⟨by omega, by omega⟩, zg_pos oR]
            rw [hf, Bool.true_and, decide_eq_false (fun h => h h0), Bool.false_or] at hls
            by_cases hx : ((imgv s (K : Int) one : Nat) : Int) < one
            · rw [if_pos hx]
              exact hstep (cnt + 1) (by rw [hls, decide_eq_true hx, if_pos rfl])
            · rw [if_neg hx]
              exact hstep cnt (by rw [hls, decide_eq_false hx, if_neg (by decide), Int.add_zero])
          · rw [if_neg h0]
            exact hstep (cnt + 1) (by rw [hls, hf, Bool.true_and, decide_eq_true h0, Bool.true_or, if_pos rfl])
      · rw [if_neg hs]
        have hpc : pcN n.toNat K = false := by
          cases h : pcN n.toNat K
          · rfl
          · exact absurd (t3.mpr h) hs
        refine hstep cnt ?_
        unfold lsf
        rw [← hn, hpc, Bool.false_and, if_neg (by decide), Int.add_zero]
    · right
      rw [if_neg hk]
      have e : k = (M : Int) := by omega
      rw [e] at a4
      exact ⟨_, rfl, a4⟩) (s := (0, 0, s)) ⟨by dsimp only; omega, by dsimp only; omega, zfr_rf _ _, rfl⟩ (by dsimp only; omega)
  obtain ⟨t, et, ht⟩ := l2
  refine ⟨t.2, ?_⟩
  unfold f_230
  rw [zo_of l1, zo_of et, ht, hM]
theorem nbt_filter (f : Nat → Bool) : ∀ M : Nat, nbt f M = ((List.range M).filter f).length
  | 0 => rfl
  | M + 1 => by
    rw [nbt, nbt_filter f M, List.range_succ, List.filter_append, List.length_append]
    cases h : f M
    · rw [List.filter_cons_of_neg (by rw [h]; decide)]
      rfl
    · rw [List.filter_cons_of_pos h]
      rfl
theorem cnt_fps {n : Int} {P : Int → Bool} (n1 : 1 ≤ n) (n5 : n ≤ 5) : nbt (fun k => pcN n.toNat k && P (k : Int)) (n.toNat ^ n.toNat) = ((cps n).filter P).length := by
  have hp := List.isPerm_iff.mp (cps_all n1 n5)
  rw [← (hp.filter P).length_eq, List.filter_map, List.length_map, List.filter_filter, nbt_filter]
  congr 1
  apply List.filter_congr
  intro x _
  rw [Bool.and_comm]
  rfl
/-- the class knows the renamings now -/
theorem Inv.ren {s s2 : zS} (hI : Inv s) (h : zfr 14775752323647929704604640037553855176904902226424542500480610026592145664311453979280349845581843365302485697691648 s s2) (hk : IRk s2) : Inv s2 := by
  obtain ⟨⟨a1, a2, a3⟩, ⟨a4, a5, a6, a7⟩, ⟨a8, a9, a10, a11⟩, D, a12⟩ := hI
  refine ⟨⟨IW.cong (h.eq rfl) a1, IT.cong (h.eq rfl) a2, IWd.cong (h.eq rfl) a3⟩, ⟨IS.cong (h.eq rfl) a4, IC.cong (h.eq rfl) a5, IL.cong (h.eq rfl) a6, IV.cong (h.eq rfl) a7⟩, ⟨IRf.cong (h.eq rfl) a8, ⟨fun i => ?_, ?_, ?_, ?_⟩, NNm.cong (h.eq rfl) a10, Or.inr hk⟩, D, IFm.cong (h.eq rfl) a12⟩
  · rw [h.ia (c := 13) rfl rfl]; exact a9.1 i
  · rw [h.i (c := 8) (i := 5) rfl]; exact a9.2.1
  · rw [h.i (c := 10) (i := 16) rfl]; exact a9.2.2.1
  · rw [h.i (c := 8) (i := 1) rfl]; exact a9.2.2.2
/-- after a search -/
theorem Inv.ev {s s2 : zS} {D : Int → Dn} (hI : Inv s) (hF : IFm s D) (h : PEv s s2 D) : Inv s2 := by
  obtain ⟨⟨a1, a2, a3⟩, ⟨a4, a5, a6, a7⟩, ⟨a8, a9, a10, a11⟩, -⟩ := hI
  obtain ⟨b1, b2, b3, b4, z⟩ := h
  refine ⟨⟨IW.cong (z.eq rfl) a1, IT.cong (z.eq rfl) a2, b1⟩, ⟨b3, b4, IL.cong (z.eq rfl) a6, IV.cong (z.eq rfl) a7⟩, ⟨IRf.cong (z.eq rfl) a8, ⟨fun i => ?_, ?_, ?_, ?_⟩, NNm.cong (z.eq rfl) a10, IRn.of a11 a1 (z.i rfl) (fun q _ _ => z.ia (c := 4) rfl rfl q) (z.eq rfl)⟩, D, fun i hi => ?_⟩
  · rw [z.ia (c := 13) rfl rfl]; exact a9.1 i
  · rw [z.i (c := 8) (i := 5) rfl]; exact a9.2.1
  · rw [z.i (c := 10) (i := 16) rfl]; exact a9.2.2.1
  · rw [z.i (c := 8) (i := 1) rfl]; exact a9.2.2.2
  · have hq : zeq 36318037385174770941972385670037179557957094801870868071602424265649254221439621315162474062807056 s s2 := z.eq rfl
    have hi' := (act_cong (hq.sub rfl)).mp hi
    rw [hq.pa (c := 28) rfl rfl]
    exact ⟨(hF i hi').1.eq (hq.sub rfl), b2 i hi'⟩
theorem op_fair {s : zS} (hI : Inv s) : zturnQ s f_29 f_235 Inv := by
  obtain ⟨⟨hW, hT, hWd⟩, -, ⟨hRf, hN, hM, hRn⟩, D, hF⟩ := id hI
  obtain ⟨s3, e130, hk⟩ := c_find hW hRn
  have z3 : zfr 14775752323647929704604640037553855176904902226424542500480610026592145664311453979280349845581843365302485697691648 s s3 := zfr_sub rfl (fr_130 e130)
  have hI3 := hI.ren z3 hk
  have hW3 := hI3.1.1
  obtain ⟨⟨n1, n5, n0⟩, -⟩ := id hW3
  have z0 : zfr 2582249878086908589655919172003011874329705792829223512830659356540647622016841194629645353280137831435903171972747493376 s3 (sI s3 177 0 0) := zfr_I rfl
  obtain ⟨s4, e154, l1, l2⟩ := m_listFree (s := sI s3 177 0 0) (IW.cong (z0.eq rfl) hW3)
  have z4 : zfr 21156373251166042075050945776220676286383279560649828240621592108137544357130470298266984679588495056664558112842186416455680 s3 s4 := zfr_tr (zfr_sub rfl z0) (zfr_sub rfl (fr_154 e154))
  have hFl : IFl s4 := ⟨by rw [l1, z0.i rfl, z4.i rfl], fun i hi hi2 => by
    rw [z4.ia (c := 7) rfl rfl]
    rw [z4.i rfl] at hi2
    have := l2 i hi (by rw [z0.i rfl]; exact hi2)
    rw [z0.ia (c := 7) rfl rfl] at this
    exact this⟩
  obtain ⟨s6, e230⟩ := m_least (s := s4) (one := 0) (all := 1) (IW.cong (z4.eq rfl) hW3) hFl (by decide) (by decide) (Or.inr rfl)
  have hcnt : nbt (lsf s4 0 1) ((gI s4 1 0).toNat ^ (gI s4 1 0).toNat) = (fps s3).length := by
    have hfp := (fps_of (s2 := s4) hW3 (z4.i rfl) (fun q _ _ => z4.ia (c := 4) rfl rfl q) (fun k => z4.ia (c := 5) rfl rfl k)).1
    have gn : gI s4 1 0 = gI s3 1 0 := z4.i rfl
    rw [gn]
    unfold fps
    rw [← cnt_fps n1 n5]
    refine nbt_congr _ (fun k _ => ?_)
    unfold lsf
    rw [gn, hfp, decide_eq_true (by decide), Bool.true_or, Bool.and_true]
  rw [hcnt, ← hk.1] at e230
  have z6 : zfr 21156373251166042075050945776220676286383279560649828240621592133848553065274314706938378157047096697019806013366871781277696 s3 s6 := zfr_tr (zfr_sub rfl z4) (zfr_sub rfl (fr_230 e230))
  refine ⟨gI s3 25 2, s3, s6, ?_, ?_, zR_gI _ _ _, hI3.cong (z6.eq rfl) (IT.cong (z6.eq rfl) hI3.1.2.1)⟩
  · unfold f_29
    rw [zb_of e130]
  · unfold f_235
    rw [zb_of e154, zb_of e230]
