/-! TOKENS: what both read of the tape. -/
/-- how far P goes on -/
def zrn (P : Int → Bool) (l : Int) : Nat → Int → Int
  | 0, i => i
  | n + 1, i => if i < l ∧ P i = true then zrn P l n (i + 1) else i
def rn (P : Int → Bool) (l i : Int) : Int := zrn P l 601 i
def Run (P : Int → Bool) (l i j : Int) : Prop := i ≤ j ∧ (∀ k, i ≤ k → k < j → k < l ∧ P k = true) ∧ ¬ (j < l ∧ P j = true)
theorem zrn_spec (P : Int → Bool) (l : Int) : ∀ (n : Nat) (i : Int), i ≤ l → l - i ≤ n → Run P l i (zrn P l n i) ∧ zrn P l n i ≤ l
  | 0, i, h, h2 => by
    refine ⟨⟨Int.le_refl _, fun k k0 k1 => ?_, fun h3 => ?_⟩, h⟩
    · have : k < i := k1
      omega
    · have : i < l := h3.1
      omega
  | n + 1, i, h, h2 => by
    unfold zrn
    by_cases hc : i < l ∧ P i = true
    · rw [if_pos hc]
      obtain ⟨⟨a1, a2, a3⟩, a4⟩ := zrn_spec P l n (i + 1) (by omega) (by omega)
      refine ⟨⟨by omega, fun k k0 k1 => ?_, a3⟩, a4⟩
      by_cases hk : k = i
      · rw [hk]; exact hc
      · exact a2 k (by omega) k1
    · rw [if_neg hc]
      exact ⟨⟨Int.le_refl _, fun k k0 k1 => by omega, hc⟩, h⟩
theorem rn_spec {P : Int → Bool} {l i : Int} (i0 : 0 ≤ i) (h : i ≤ l) (hl : l ≤ 600) : Run P l i (rn P l i) ∧ rn P l i ≤ l := zrn_spec P l 601 i h (by omega)
abbrev zdig (b : Int) : Prop := 48 ≤ b ∧ b ≤ 57
/-- a word of letters, a number of digits -/
def zwd (B : Int → Int) (i : Int) : Nat → BitVec 64
  | 0 => 0#64
  | n + 1 => (zwd B i n <<< 8) ||| BitVec.ofInt 64 (B (i + n))
def znm (B : Int → Int) (i : Int) : Nat → Int
  | 0 => 0
  | n + 1 => 10 * znm B i n + B (i + n) - 48
/-- the kind of a word, of a pair of signs (0: none), of a sign, as the class numbers them -/
def kwk (w : BitVec 64) : Int := match f_148 w with
  | some x => if x = -1 then 2 else x - 6
  | none => 0
def psk (b d : Int) : Int := if b = 45 ∧ d = 62 then 20 else if b = 43 ∧ d = 43 then 21 else if b = 60 ∧ d = 58 then 22 else if b = 58 ∧ d = 62 then 23 else 0
def sgk (b : Int) : Int := match f_164 b with
  | some x => if x = 3 then 1 else x - 10
  | none => 0
/-- a token of the tape B, of length l, from c on: its place, its end, its kind -/
def tkP (B : Int → Int) (l c : Int) : Int := rn (fun i => decide (B i ≤ 32)) l c
def tkN (B : Int → Int) (l p : Int) : Int := if p + 1 < l then B (p + 1) else 0
def tkE (B : Int → Int) (l c : Int) : Int :=
  if tkP B l c < l then
    (if zlet (B (tkP B l c)) then rn (fun i => decide (zlet (B i))) l (tkP B l c)
     else if zdig (B (tkP B l c)) then rn (fun i => decide (zdig (B i))) l (tkP B l c)
     else if psk (B (tkP B l c)) (tkN B l (tkP B l c)) = 0 then tkP B l c + 1 else tkP B l c + 2)
  else tkP B l c
def tkW (B : Int → Int) (l c : Int) : BitVec 64 := zwd B (tkP B l c) (tkE B l c - tkP B l c).toNat
def tkV (B : Int → Int) (l c : Int) : Int := znm B (tkP B l c) (tkE B l c - tkP B l c).toNat
def tkK (B : Int → Int) (l c : Int) : Int :=
  if tkP B l c < l then
    (if zlet (B (tkP B l c)) then (if 7 < tkE B l c - tkP B l c then 1 else if kwk (tkW B l c) = 2 ∧ 6 < tkE B l c - tkP B l c then 1 else kwk (tkW B l c))
     else if zdig (B (tkP B l c)) then (if 3 < tkE B l c - tkP B l c then 1 else 3)
     else if psk (B (tkP B l c)) (tkN B l (tkP B l c)) = 0 then sgk (B (tkP B l c)) else psk (B (tkP B l c)) (tkN B l (tkP B l c)))
  else 0
/-- kinds of the class as the reference numbers them -/
def km (k : Int) : Int := if k = 0 then 0 else if k = 1 then 3 else if k = 2 then 1 else if k = 3 then 2 else if k < 20 then k + 6 else k + 10
def TB (B : Int → Int) (l : Int) : Prop := 0 ≤ l ∧ l ≤ 600 ∧ ∀ i, 0 ≤ i → i < l → 0 ≤ B i ∧ B i ≤ 255
def CT (s : zS) (B : Int → Int) (l : Int) : Prop := gI s 8 1 = l ∧ ∀ i, 0 ≤ i → i < l → gI s 9 i = B i
def MT (s : zS) (B : Int → Int) (l : Int) : Prop := gI s 177 3 = l ∧ ∀ i, 0 ≤ i → i < l → gI s 178 i = B i
theorem kwk_spec (w : BitVec 64) (s : zS) : f_19 w s = some (kwk w) ∧ f_148 w = some (if kwk w = 2 then -1 else kwk w + 6) ∧ (kwk w = 2 ∨ 4 ≤ kwk w) ∧ kwk w ≤ 19 := by
  rcases kw_spec w s with ⟨i, i0, i1, h1, h2⟩ | ⟨h1, h2⟩
  · have hk : kwk w = 4 + i := by
      unfold kwk
      rw [h2]
      dsimp only
      rw [if_neg (by omega)]
      omega
    rw [h1, h2, hk]
    refine ⟨rfl, ?_, by omega, by omega⟩
    rw [if_neg (by omega)]
    congr 1
    omega
  · have hk : kwk w = 2 := by
      unfold kwk
      rw [h2]
      rfl
    rw [h1, h2, hk]
    exact ⟨rfl, rfl, by omega, by omega⟩
section TOK
variable {B : Int → Int} {l c : Int}
theorem tkP_spec (h : TB B l) (c0 : 0 ≤ c) (cl : c ≤ l) : Run (fun i => decide (B i ≤ 32)) l c (tkP B l c) ∧ tkP B l c ≤ l := rn_spec c0 cl h.2.1
theorem c_blanks {s : zS} (h : TB B l) (hT : CT s B l) (c0 : 0 ≤ c) (cl : c ≤ l) : f_63 c s = some (tkP B l c) := by
  obtain ⟨⟨a1, a2, a3⟩, a4⟩ := tkP_spec h c0 cl
  obtain ⟨l0, l6, hb⟩ := h
  generalize tkP B l c = j at a1 a2 a3 a4
  have hl := zlp_F (B := fun (q : Int) => b_63_2 s q) (I := fun q => c ≤ q ∧ q ≤ j) (μ := fun q => (j - q).toNat) (Q := fun t => t = j) (by
    rintro q ⟨q0, q1⟩
    unfold b_63_2
    rw [zg_pos ⟨by omega, by omega⟩, hT.1]
    by_cases hc : q < l
    · rw [if_pos hc, zg_pos ⟨by omega, by omega⟩, hT.2 q (by omega) hc]
      by_cases h32 : 32 < B q
      · right
        rw [if_pos h32]
        refine ⟨q, rfl, ?_⟩
        by_cases hj : q < j
        · have := of_decide_eq_true (a2 q q0 hj).2
          omega
        · omega
      · left
        rw [if_neg h32]
        have hne : q ≠ j := fun e => a3 ⟨by omega, decide_eq_true (by rw [← e]; omega)⟩
        exact ⟨_, rfl, ⟨by omega, by omega⟩, by omega⟩
    · right
      rw [if_neg hc]
      exact ⟨q, rfl, by omega⟩) (s := c) ⟨by omega, a1⟩ (by omega)
  obtain ⟨t, e, ht⟩ := hl
  unfold f_63
  rw [zo_of e, ht]
theorem c_lettersEnd {s : zS} (h : TB B l) (hT : CT s B l) (c0 : 0 ≤ c) (cl : c ≤ l) : f_65 c s = some (rn (fun i => decide (zlet (B i))) l c) := by
  obtain ⟨⟨a1, a2, a3⟩, a4⟩ := rn_spec (P := fun i => decide (zlet (B i))) c0 cl h.2.1
  obtain ⟨l0, l6, hb⟩ := h
  generalize rn (fun i => decide (zlet (B i))) l c = j at a1 a2 a3 a4
  have hl := zlp_F (B := fun (q : Int) => b_65_2 s q) (I := fun q => c ≤ q ∧ q ≤ j) (μ := fun q => (j - q).toNat) (Q := fun t => t = j) (by
    rintro q ⟨q0, q1⟩
    unfold b_65_2
    rw [zg_pos ⟨by omega, by omega⟩, hT.1]
    by_cases hc : q < l
    · have := hb q (by omega) hc
      rw [if_pos hc, zg_pos ⟨by omega, by omega⟩, hT.2 q (by omega) hc, zo_of (c_isLetter ⟨by omega, by omega⟩)]
      by_cases hz : zlet (B q)
      · left
        rw [if_pos hz, zg_pos (by decide), if_neg (by decide)]
        have hne : q ≠ j := fun e => a3 ⟨by omega, decide_eq_true (by rw [← e]; exact hz)⟩
        exact ⟨_, rfl, ⟨by omega, by omega⟩, by omega⟩
      · right
        rw [if_neg hz, zg_pos (by decide), if_pos rfl]
        refine ⟨q, rfl, ?_⟩
        by_cases hj : q < j
        · exact absurd (of_decide_eq_true (a2 q q0 hj).2) hz
        · omega
    · right
      rw [if_neg hc]
      exact ⟨q, rfl, by omega⟩) (s := c) ⟨by omega, a1⟩ (by omega)
  obtain ⟨t, e, ht⟩ := hl
  unfold f_65
  rw [zo_of e, ht]
theorem c_wordBetween {s : zS} {j : Int} (h : TB B l) (hT : CT s B l) (c0 : 0 ≤ c) (cj : c ≤ j) (jl : j ≤ l) : f_66 c j s = some (zwd B c (j - c).toNat) := by
  obtain ⟨l0, l6, hb⟩ := h
  have hl := zlp_F (B := fun (q : BitVec 64 × Int) => b_66_5 j s q.1 q.2) (I := fun q => c ≤ q.2 ∧ q.2 ≤ j ∧ q.1 = zwd B c (q.2 - c).toNat) (μ := fun q => (j - q.2).toNat) (Q := fun t => t = zwd B c (j - c).toNat) (by
    rintro ⟨w, q⟩ ⟨q0, q1, q2⟩
    dsimp only at q0 q1 q2 ⊢
    unfold b_66_5
    rw [zg_pos ⟨by omega, by omega⟩, zg_pos ⟨by omega, by omega⟩]
    by_cases hc : q < j
    · left
      rw [if_pos hc, zg_pos ⟨by omega, by omega⟩, hT.2 q (by omega) (by omega)]
      refine ⟨_, rfl, ⟨by dsimp only; omega, by dsimp only; omega, ?_⟩, by dsimp only; omega⟩
      dsimp only
      rw [show (q + 1 - c).toNat = (q - c).toNat + 1 by omega, zwd, ← q2, show c + ((q - c).toNat : Int) = q by omega]
      rfl
    · right
      rw [if_neg hc]
      refine ⟨w, rfl, ?_⟩
      rw [q2, show q = j by omega]) (s := ((0#64), c)) ⟨by dsimp only; omega, cj, by dsimp only; rw [show (c - c).toNat = 0 by omega]; rfl⟩ (by dsimp only; omega)
  obtain ⟨t, e, ht⟩ := hl
  unfold f_66
  rw [zo_of e, ht]
end TOK
