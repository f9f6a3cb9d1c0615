/-! WHAT A FAIR RENAMING MAKES of an assignment: in both. -/
def obs (f : Nat → Bool) : Nat → Nat
  | 0 => 0
  | k + 1 => obs f k ||| (if f k then 2 ^ k else 0)
theorem obs_bit (f : Nat → Bool) (j : Nat) : ∀ k : Nat, (obs f k).testBit j = (decide (j < k) && f j)
  | 0 => by rw [obs, Nat.zero_testBit, decide_eq_false (by omega), Bool.false_and]
  | k + 1 => by
    rw [obs, Nat.testBit_or, obs_bit f j k]
    by_cases e : j = k
    · rw [e, decide_eq_false (by omega), decide_eq_true (by omega), Bool.false_and, Bool.false_or, Bool.true_and]
      cases f k
      · rw [if_neg (by decide), Nat.zero_testBit]
      · rw [if_pos rfl, Nat.testBit_two_pow, decide_eq_true rfl]
    · have h2 : (if f k = true then 2 ^ k else 0).testBit j = false := by
        split
        · rw [Nat.testBit_two_pow, decide_eq_false (by omega)]
        · exact Nat.zero_testBit _
      rw [h2, Bool.or_false]
      congr 1
      apply decide_eq_decide.mpr
      omega
theorem obs_lt (f : Nat → Bool) : ∀ k : Nat, obs f k < 2 ^ k
  | 0 => by rw [obs]; decide
  | k + 1 => by
    have h1 := obs_lt f k
    have h2 : 2 ^ k < 2 ^ (k + 1) := Nat.pow_lt_pow_right (by decide) (by omega)
    rw [obs]
    apply Nat.or_lt_two_pow (by omega)
    split
    · exact h2
    · exact Nat.two_pow_pos _
def imgv (s : zS) (c a : Int) : Nat := obs (fun b => (List.range 12).any (fun i => decide ((i : Int) < gI s 1 8) && a.toNat.testBit (gI s 1 8 - 1 - i).toNat && decide (gI s 7 (gI s 1 8 - 1 - b) = kim s c (gI s 7 i)))) (gI s 1 8).toNat
theorem imgv_lt (s : zS) (c a : Int) : imgv s c a < 2 ^ (gI s 1 8).toNat := obs_lt _ _
theorem imgv_bit {s : zS} {c a : Int} (F12 : gI s 1 8 ≤ 12) (b : Nat) : (imgv s c a).testBit b = true ↔ (b : Int) < gI s 1 8 ∧ ∃ i, 0 ≤ i ∧ i < gI s 1 8 ∧ a.toNat.testBit (gI s 1 8 - 1 - i).toNat = true ∧ gI s 7 (gI s 1 8 - 1 - b) = kim s c (gI s 7 i) := by
  unfold imgv
  rw [obs_bit, Bool.and_eq_true, decide_eq_true_iff, List.any_eq_true]
  constructor
  · rintro ⟨h1, i, hi, h2⟩
    rw [Bool.and_eq_true, Bool.and_eq_true, decide_eq_true_iff, decide_eq_true_iff] at h2
    exact ⟨by omega, i, by omega, h2.1.1, h2.1.2, h2.2⟩
  · rintro ⟨h1, i, i0, i1, h2, h3⟩
    refine ⟨by omega, i.toNat, List.mem_range.mpr (by omega), ?_⟩
    rw [Bool.and_eq_true, Bool.and_eq_true, decide_eq_true_iff, decide_eq_true_iff, show ((i.toNat : Nat) : Int) = i by omega]
    exact ⟨⟨i1, h2⟩, h3⟩
/-- what a loop over the FREE tuples puts together -/
def ORL (s : zS) (a : Int) (to : Int → Int) (k acc : Int) : Prop := 0 ≤ acc ∧ acc < 4096 ∧ ∀ b : Nat, acc.toNat.testBit b = true ↔ ∃ i, 0 ≤ i ∧ i < k ∧ a.toNat.testBit (gI s 1 8 - 1 - i).toNat = true ∧ (b : Int) = gI s 1 8 - 1 - to i
theorem ORL.zero (s : zS) (a : Int) (to : Int → Int) : ORL s a to 0 0 := ⟨by decide, by decide, fun b => by
  rw [show (0 : Int).toNat = 0 from rfl, Nat.zero_testBit]
  exact ⟨fun h => absurd h (by decide), fun ⟨i, i0, i1, _⟩ => by omega⟩⟩
theorem ORL.no {s : zS} {a k acc : Int} {to : Int → Int} (h : ORL s a to k acc) (hb : a.toNat.testBit (gI s 1 8 - 1 - k).toNat = false) : ORL s a to (k + 1) acc := by
  refine ⟨h.1, h.2.1, fun b => (h.2.2 b).trans ⟨fun ⟨i, i0, i1, h1, h2⟩ => ⟨i, i0, by omega, h1, h2⟩, fun ⟨i, i0, i1, h1, h2⟩ => ⟨i, i0, ?_, h1, h2⟩⟩⟩
  by_cases e : i = k
  · rw [e, hb] at h1; cases h1
  · omega
theorem ORL.yes {s : zS} {a k acc : Int} {to : Int → Int} (h : ORL s a to k acc) (k0 : 0 ≤ k) (F12 : gI s 1 8 ≤ 12) (t0 : 0 ≤ to k) (t1 : to k < gI s 1 8) (hb : a.toNat.testBit (gI s 1 8 - 1 - k).toNat = true) : ORL s a to (k + 1) (zor acc (1 * 2 ^ zsh (gI s 1 8 - 1 - to k))) := by
  obtain ⟨a0, a1, a2⟩ := h
  obtain ⟨p1, p2⟩ := zpow_b (i := gI s 1 8 - 1 - to k) (by omega) (by omega)
  have hp : (2 ^ (gI s 1 8 - 1 - to k).toNat : Nat) < 2 ^ 12 := Nat.pow_lt_pow_right (by decide) (by omega)
  have e : zor acc (1 * 2 ^ zsh (gI s 1 8 - 1 - to k)) = ((acc.toNat ||| 2 ^ (gI s 1 8 - 1 - to k).toNat : Nat) : Int) := by
    rw [p1]
    generalize (2 ^ (gI s 1 8 - 1 - to k).toNat : Nat) = p at hp
    rw [zor_nat a0 ⟨by omega, by omega⟩ (by omega) ⟨by omega, by omega⟩]
    rfl
  have hlt : acc.toNat ||| 2 ^ (gI s 1 8 - 1 - to k).toNat < 2 ^ 12 := Nat.or_lt_two_pow (by omega) hp
  rw [e]
  refine ⟨by omega, by omega, fun b => ?_⟩
  rw [show ((((acc.toNat ||| 2 ^ (gI s 1 8 - 1 - to k).toNat : Nat) : Int)).toNat) = acc.toNat ||| 2 ^ (gI s 1 8 - 1 - to k).toNat from rfl, Nat.testBit_or, Bool.or_eq_true, a2 b, Nat.testBit_two_pow, decide_eq_true_iff]
  constructor
  · rintro (⟨i, i0, i1, h1, h2⟩ | h)
    · exact ⟨i, i0, by omega, h1, h2⟩
    · exact ⟨k, k0, by omega, hb, by omega⟩
  · rintro ⟨i, i0, i1, h1, h2⟩
    by_cases e : i = k
    · rw [e] at h2
      exact Or.inr (by omega)
    · exact Or.inl ⟨i, i0, by omega, h1, h2⟩
theorem ORL.done {s : zS} {a c acc : Int} {to : Int → Int} (hW : IW s) (h : ORL s a to (gI s 1 8) acc) (hto : ∀ i, 0 ≤ i → i < gI s 1 8 → 0 ≤ to i ∧ to i < gI s 1 8 ∧ gI s 7 (to i) = kim s c (gI s 7 i)) : acc = (imgv s c a : Nat) := by
  have F12 := hW.2.2.2.2.2.1.2
  obtain ⟨a0, a1, a2⟩ := h
  have : acc.toNat = imgv s c a := by
    apply Nat.eq_of_testBit_eq
    intro b
    rw [Bool.eq_iff_iff, a2 b, imgv_bit F12]
    constructor
    · rintro ⟨i, i0, i1, h1, h2⟩
      obtain ⟨t0, t1, t2⟩ := hto i i0 i1
      refine ⟨by omega, i, i0, i1, h1, ?_⟩
      rw [show gI s 1 8 - 1 - (b : Int) = to i by omega]
      exact t2
    · rintro ⟨h0, i, i0, i1, h1, h2⟩
      obtain ⟨t0, t1, t2⟩ := hto i i0 i1
      refine ⟨i, i0, i1, h1, ?_⟩
      have := fr_inj hW (i := gI s 1 8 - 1 - (b : Int)) (j := to i) (by omega) (by omega) t0 t1 (by rw [h2, t2])
      omega
  omega
/-- the reference's image -/
theorem m_image {s : zS} {c a : Int} (hW : IW s) (hFl : IFl s) (hc : c ∈ cps (gI s 1 0)) (hf : fairb s c = true) (hE : ∀ x, 0 ≤ x → x < gI s 1 0 → gI s 204 x = dgI (gI s 1 0) c x) (a0 : 0 ≤ a) (aR : zR a) : f_233 0 a s = some ((imgv s c a : Nat) : Int) := by
  obtain ⟨⟨n1, n5, n0⟩, -, ⟨r0, r8, r10⟩, har, hst, ⟨F0, F12⟩, hfr, hinc, hall⟩ := id hW
  obtain ⟨l1, l2⟩ := hFl
  have hex : ∀ i : Int, ∃ j : Int, 0 ≤ i → i < gI s 1 8 → 0 ≤ j ∧ j < gI s 1 8 ∧ gI s 7 j = kim s c (gI s 7 i) := by
    intro i
    by_cases hi : 0 ≤ i ∧ i < gI s 1 8
    · obtain ⟨-, -, k0, k1, k5⟩ := kim_free hW hc hf hi.1 hi.2
      obtain ⟨j, j0, j1, j2⟩ := hall _ k0 k1 k5
      exact ⟨j, fun _ _ => ⟨j0, j1, j2⟩⟩
    · exact ⟨0, fun h1 h2 => absurd ⟨h1, h2⟩ hi⟩
  obtain ⟨to, hto⟩ := Classical.axiomOfChoice hex
  have hl := zlp_F (B := fun (q : Int × Int) => b_233_5 0 a s q.1 q.2) (I := fun q => 0 ≤ q.2 ∧ q.2 ≤ gI s 1 8 ∧ ORL s a to q.2 q.1) (μ := fun q => (gI s 1 8 - q.2).toNat) (Q := fun t => t = ((imgv s c a : Nat) : Int)) (by
    rintro ⟨acc, i⟩ ⟨x1, x2, x3⟩
    dsimp only at x1 x2 x3 ⊢
    unfold b_233_5
    rw [zg_pos ⟨by omega, by omega⟩, l1]
    by_cases hi : i < gI s 1 8
    · left
      have e197 := m_isFreeIn (s := s) a0 aR (by omega) x1 (by omega)
      rw [l1] at e197
      rw [if_pos hi, zo_of e197]
      cases hb : a.toNat.testBit (gI s 1 8 - 1 - i).toNat
      · rw [if_neg (by decide), zg_pos (by decide), if_pos rfl]
        exact ⟨_, rfl, ⟨by dsimp only; omega, by dsimp only; omega, x3.no hb⟩, by dsimp only; omega⟩
      · obtain ⟨htk, hk, k0, k1, k5⟩ := kim_free hW hc hf x1 hi
        obtain ⟨t0, t1, t2⟩ := hto i x1 hi
        obtain ⟨g1, g2⟩ := l2 i x1 hi
        have hb2 := tok_b hW htk
        have ha := har _ htk.1 htk.2.1
        have hpt := tok_b hW (pt_tok hW hc htk)
        have e232 : f_232 0 (gI s 182 i) (gI s 183 i) s = some (pt (gI s 1 0) (dgI (gI s 1 0) c) (gI s 4 (gI s 7 i / 125)).toNat (gI s 7 i % 125)) := by
          rw [g1, g2, m_turned (c := c) (n := gI s 1 0) n0 n1 n5 hE (by omega) ⟨by omega, by omega⟩ (by omega) (by omega) (by omega) (by omega), ← ha.2.1]
        obtain ⟨y, hy⟩ : ∃ y, y = pt (gI s 1 0) (dgI (gI s 1 0) c) (gI s 4 (gI s 7 i / 125)).toNat (gI s 7 i % 125) := ⟨_, rfl⟩
        rw [← hy] at e232 hpt hk
        have e234 : f_234 (gI s 182 i) y s = some (to i) := by
          rw [g1]
          have hl2 := zlp_F (B := fun (q : Int) => b_234_2 (gI s 7 i / 125) y s q) (I := fun q => 0 ≤ q ∧ q ≤ to i) (μ := fun q => (to i - q).toNat) (Q := fun t => t = Sum.inr (to i)) (by
            rintro q ⟨q1, q2⟩
            obtain ⟨u1, u2⟩ := l2 q q1 (by omega)
            unfold b_234_2
            rw [zg_pos ⟨by omega, by omega⟩, l1, if_pos (by omega), zg_pos ⟨by omega, by omega⟩, zg_pos ⟨by omega, by omega⟩, u1, u2]
            by_cases e : q = to i
            · right
              have h7 : gI s 7 q = gI s 7 i / 125 * 125 + y := by rw [e, t2, hk]
              rw [if_pos (by omega), zg_pos ⟨by omega, by omega⟩, if_pos (by omega)]
              exact ⟨_, rfl, by rw [e]⟩
            · left
              have hlt := hinc q (to i) q1 (by omega) t1
              rw [t2, hk] at hlt
              by_cases h1 : gI s 7 q / 125 = gI s 7 i / 125
              · rw [if_pos h1, zg_pos ⟨by omega, by omega⟩, if_neg (by omega)]
                exact ⟨_, rfl, ⟨by omega, by omega⟩, by omega⟩
              · rw [if_neg h1]
                exact ⟨_, rfl, ⟨by omega, by omega⟩, by omega⟩) (s := 0) ⟨by decide, t0⟩ (by omega)
          obtain ⟨t, et, ht⟩ := hl2
          unfold f_234
          rw [zo_of et, ht]
          rfl
        rw [if_pos rfl, zg_pos (by decide), if_neg (by decide), zg_pos ⟨by omega, by omega⟩, zo_of e232, zo_of e234]
        exact ⟨_, rfl, ⟨by dsimp only; omega, by dsimp only; omega, x3.yes x1 F12 t0 t1 hb⟩, by dsimp only; omega⟩
    · right
      rw [if_neg hi]
      have e : i = gI s 1 8 := by omega
      rw [e] at x3
      exact ⟨_, rfl, x3.done hW hto⟩) (s := (0, 0)) ⟨by dsimp only; omega, by dsimp only; omega, ORL.zero _ _ _⟩ (by dsimp only; omega)
  obtain ⟨t, et, ht⟩ := hl
  unfold f_233
  rw [zo_of et, ht]
theorem dm64 {x v : Int} (x0 : 0 ≤ x) (v0 : 0 ≤ v) (e : x / 64 = v / 64) : (x % 64).toNat = (v % 64).toNat ↔ x = v := by omega
/-- the class marks what is alike -/
theorem c_mark {s : zS} {a : Int} (hW : IW s) (hk : IRk s) (a0 : 0 ≤ a) (a1 : a < 2 ^ (gI s 1 8).toNat) : ∃ s', f_136 a s = some ((), s') ∧ ∀ x : Int, 0 ≤ x → x < 4096 → ((gJ s' 175 (x / 64)).getLsbD (x % 64).toNat = true ↔ (gJ s 175 (x / 64)).getLsbD (x % 64).toNat = true ∨ ∃ c, c ∈ fps s ∧ x = (imgv s c a : Nat)) := by
  obtain ⟨⟨n1, n5, n0⟩, -, ⟨r0, r8, r10⟩, har, hst, ⟨F0, F12⟩, hfr, hinc, hall⟩ := id hW
  have hp := pow2_b F0 F12
  obtain ⟨k1, k2⟩ := hk
  have hlen : (fps s).length ≤ 120 := Nat.le_trans (List.length_filter_le _ _) (cps_len n1 n5)
  have hcast : (2 : Int) ^ (gI s 1 8).toNat = ((2 ^ (gI s 1 8).toNat : Nat) : Int) := by rw [Int.natCast_pow]; rfl
  have hl := zlp_F (B := fun (q : Int × zS) => b_136_13 a (gI s 1 8 - 1) q.1 q.2) (I := fun q => 0 ≤ q.1 ∧ q.1 ≤ (fps s).length ∧ zfr 47890485652059026823698344598447161988085597568237568 s q.2 ∧ ∀ x : Int, 0 ≤ x → x < 4096 → ((gJ q.2 175 (x / 64)).getLsbD (x % 64).toNat = true ↔ (gJ s 175 (x / 64)).getLsbD (x % 64).toNat = true ∨ ∃ (r : Nat) (c : Int), (r : Int) < q.1 ∧ (fps s)[r]? = some c ∧ x = (imgv s c a : Nat))) (μ := fun q => ((fps s).length - q.1).toNat) (Q := fun t => ∀ x : Int, 0 ≤ x → x < 4096 → ((gJ t 175 (x / 64)).getLsbD (x % 64).toNat = true ↔ (gJ s 175 (x / 64)).getLsbD (x % 64).toNat = true ∨ ∃ (r : Nat) (c : Int), (r : Int) < (fps s).length ∧ (fps s)[r]? = some c ∧ x = (imgv s c a : Nat))) (by
    rintro ⟨r, σ⟩ ⟨x1, x2, x3, x4⟩
    dsimp only at x1 x2 x3 x4 ⊢
    unfold b_136_13
    rw [zg_pos ⟨by omega, by omega⟩, x3.i (c := 25) (i := 2) rfl, k1]
    by_cases hr : r < (fps s).length
    · left
      obtain ⟨c, hc⟩ : ∃ c, (fps s)[r.toNat]? = some c := ⟨_, List.getElem?_eq_getElem (by omega)⟩
      have him := k2 r.toNat c hc
      rw [show ((r.toNat : Nat) : Int) = r by omega] at him
      have hin := zlp_F (B := fun (q : Int × Int) => b_136_28 a (gI s 1 8 - 1) r σ q.1 q.2) (I := fun q => 0 ≤ q.2 ∧ q.2 ≤ gI s 1 8 ∧ ORL s a (fun i => gI s 27 (r * 12 + i)) q.2 q.1) (μ := fun q => (gI s 1 8 - q.2).toNat) (Q := fun t => t = ((imgv s c a : Nat) : Int)) (by
        rintro ⟨acc, i⟩ ⟨y1, y2, y3⟩
        dsimp only at y1 y2 y3 ⊢
        unfold b_136_28
        rw [zg_pos ⟨by omega, by omega⟩, zg_pos ⟨by omega, by omega⟩]
        by_cases hi : gI s 1 8 - 1 < i
        · right
          rw [if_pos hi]
          have e : i = gI s 1 8 := by omega
          rw [e] at y3
          exact ⟨_, rfl, y3.done hW him⟩
        · left
          obtain ⟨t0, t1, -⟩ := him i y1 (by omega)
          rw [if_neg hi, zg_pos ⟨a0, by omega, by omega⟩, ztest a0 ⟨by omega, by omega⟩ (by omega) (by omega)]
          cases hb : a.toNat.testBit (gI s 1 8 - 1 - i).toNat
          · rw [if_pos (by decide)]
            exact ⟨_, rfl, ⟨by dsimp only; omega, by dsimp only; omega, y3.no hb⟩, by dsimp only; omega⟩
          · rw [if_neg (by decide), zg_pos ⟨by omega, by omega⟩, x3.ia (c := 27) rfl rfl]
            exact ⟨_, rfl, ⟨by dsimp only; omega, by dsimp only; omega, y3.yes y1 F12 t0 t1 hb⟩, by dsimp only; omega⟩) (s := (0, 0)) ⟨by dsimp only; omega, by dsimp only; omega, ORL.zero _ _ _⟩ (by dsimp only; omega)
      obtain ⟨v, ev, hv⟩ := hin
      have hlt := imgv_lt s c a
      have v0 : 0 ≤ v := by omega
      have v1 : v < 4096 := by omega
      have hsh : zshl (v % 64) = (v % 64).toNat := zshl_eq (by omega) (by omega)
      rw [if_pos hr, zo_of ev, zg_pos ⟨v0, ⟨by omega, by omega⟩, by decide, by decide⟩, zg_pos ⟨by omega, by omega⟩, zg_pos ⟨by omega, by omega⟩, hsh]
      refine ⟨_, rfl, ⟨by dsimp only; omega, by dsimp only; omega, zfr_tr x3 (zfr_JA rfl rfl), fun x h1 h2 => ?_⟩, by dsimp only; omega⟩
      dsimp only
      rw [gJ_if]
      have hold := x4 x h1 h2
      have hspl : (∃ (r' : Nat) (c : Int), (r' : Int) < r + 1 ∧ (fps s)[r']? = some c ∧ x = (imgv s c a : Nat)) ↔ ((∃ (r' : Nat) (c : Int), (r' : Int) < r ∧ (fps s)[r']? = some c ∧ x = (imgv s c a : Nat)) ∨ x = v) := by
        constructor
        · rintro ⟨r', c', b1, b2, b3⟩
          by_cases e : r' = r.toNat
          · rw [e, hc] at b2
            injection b2 with b2
            right
            rw [b3, ← b2, hv]
          · exact Or.inl ⟨r', c', by omega, b2, b3⟩
        · rintro (⟨r', c', b1, b2, b3⟩ | e)
          · exact ⟨r', c', by omega, b2, b3⟩
          · exact ⟨r.toNat, c, by omega, hc, by rw [e, hv]⟩
      rw [hspl, ← or_assoc, ← hold]
      by_cases e : x / 64 = v / 64
      · rw [if_pos e, bv_setbit _ _ _ (by omega), Bool.or_eq_true, decide_eq_true_iff, dm64 h1 v0 e, e]
      · rw [if_neg e]
        exact ⟨fun h => Or.inl h, fun h => h.elim id (fun h => absurd (by rw [h]) e)⟩
    · right
      rw [if_neg hr]
      have e : r = (fps s).length := by omega
      rw [e] at x4
      exact ⟨_, rfl, x4⟩) (s := (0, s)) ⟨by dsimp only; omega, by dsimp only; omega, zfr_rf _ _, fun x h1 h2 => by
        dsimp only
        exact ⟨fun h => Or.inl h, fun h => h.elim id (fun ⟨r, c, h, _⟩ => by omega)⟩⟩ (by dsimp only; omega)
  obtain ⟨t, et, ht⟩ := hl
  refine ⟨t, by unfold f_136; rw [zo_of et], fun x h1 h2 => (ht x h1 h2).trans (or_congr Iff.rfl ⟨?_, ?_⟩)⟩
  · rintro ⟨r, c, -, b2, b3⟩
    exact ⟨c, List.mem_of_getElem? b2, b3⟩
  · rintro ⟨c, hc, b3⟩
    obtain ⟨r, hr⟩ := List.getElem?_of_mem hc
    refine ⟨r, c, ?_, hr, b3⟩
    obtain ⟨hlt, -⟩ := List.getElem?_eq_some_iff.mp hr
    omega
