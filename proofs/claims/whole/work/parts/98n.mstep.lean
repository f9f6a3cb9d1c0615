/-! THE REFERENCE'S PARSER: what ends. -/
/-- the arity that an operator makes, -1 if its operands do not fit -/
def fitv (k l r : Int) : Int := if k = 14 ∨ k = 32 then (if l = r then 0 else -1) else if k = 24 ∨ k = 25 ∨ k = 26 then (if l = r then l else -1) else if k = 20 then (if 3 < l + r then -1 else l + r) else if k = 21 then (if l = 2 ∧ r = 2 then 2 else -1) else if k = 22 then (if l = 1 then r else -1) else if k = 23 then (if r = 1 then l else -1) else if k = 27 then (if l + r < 3 ∨ 5 < l + r then -1 else l + r - 2) else if k = 28 ∨ k = 29 ∨ k = 30 then (if r = 2 then 2 else -1) else 0
theorem fit_tab : ∀ k : Fin 33, ∀ l : Fin 4, ∀ r : Fin 4, f_96 (k.val : Int) (l.val : Int) (r.val : Int) = some (fitv (k.val : Int) (l.val : Int) (r.val : Int)) := by decide +kernel
theorem fit_eq {k l r : Int} (k0 : 0 ≤ k) (k1 : k ≤ 32) (l0 : 0 ≤ l) (l3 : l ≤ 3) (r0 : 0 ≤ r) (r3 : r ≤ 3) : f_96 k l r = some (fitv k l r) := by
  have := fit_tab ⟨k.toNat, by omega⟩ ⟨l.toNat, by omega⟩ ⟨r.toNat, by omega⟩
  dsimp only at this
  rw [show ((k.toNat : Nat) : Int) = k by omega, show ((l.toNat : Nat) : Int) = l by omega, show ((r.toNat : Nat) : Int) = r by omega] at this
  exact this
theorem fit_pre {k l r : Int} (hk : k = 28 ∨ k = 29 ∨ k = 30) (hr : zR r) : f_96 k l r = some (if r = 2 then 2 else -1) := by
  unfold f_96
  rcases hk with rfl | rfl | rfl
  · rw [zg_pos (by decide), show t_96_1 28 = 191 from rfl, if_neg (by decide), if_neg (by decide), if_neg (by decide), if_neg (by decide), if_neg (by decide), if_neg (by decide), if_neg (by decide), if_pos rfl, zg_pos hr]
    split <;> rfl
  · rw [zg_pos (by decide), show t_96_1 29 = 191 from rfl, if_neg (by decide), if_neg (by decide), if_neg (by decide), if_neg (by decide), if_neg (by decide), if_neg (by decide), if_neg (by decide), if_pos rfl, zg_pos hr]
    split <;> rfl
  · rw [zg_pos (by decide), show t_96_1 30 = 191 from rfl, if_neg (by decide), if_neg (by decide), if_neg (by decide), if_neg (by decide), if_neg (by decide), if_neg (by decide), if_neg (by decide), if_pos rfl, zg_pos hr]
    split <;> rfl
theorem fit_0t : ∀ k : Fin 14, t_96_1 (k.val : Int) = 202 := by decide
theorem fit_0 {k l r : Int} (k0 : 0 ≤ k) (k1 : k ≤ 13) : f_96 k l r = some 0 := by
  have ht := fit_0t ⟨k.toNat, by omega⟩
  dsimp only at ht
  rw [show ((k.toNat : Nat) : Int) = k by omega] at ht
  unfold f_96
  rw [zg_pos ⟨by omega, by omega⟩, ht, if_neg (by decide), if_neg (by decide), if_neg (by decide), if_neg (by decide), if_neg (by decide), if_neg (by decide), if_neg (by decide), if_neg (by decide), if_pos rfl]
section MSTEP
variable {τ : zS} {fm len : Int} {S : List Fr} {f : Fr}
theorem lv_tab : ∀ k : Fin 11, f_166 (30 + (k.val : Int)) = some (if k.val = 0 then 13 else if k.val ≤ 3 then 14 else if k.val ≤ 5 then 11 else if k.val = 6 then 12 else if k.val = 7 then 15 else 16) := by decide
theorem mkd_J (h : isJ f) : mkd f = f.k + 10 := by
  obtain ⟨h1, h2, h3⟩ := h
  unfold mkd km
  rw [if_neg (by omega), if_neg (by omega), if_neg (by omega), if_neg (by omega), if_neg (by omega), if_neg (by omega), if_neg (by omega), if_neg (by omega), if_neg (by omega), if_neg (by omega)]
/-- what the joints are, in numbers of the reference -/
theorem m_good {what a b got : Int} {s : zS} (hw : 30 ≤ what ∧ what ≤ 37) (a1 : 1 ≤ a) (a3 : a ≤ 3) (b1 : 1 ≤ b) (b3 : b ≤ 3) (hg : got = if what = 30 then a + b else if what = 37 then a + b - 2 else if what = 32 then b else a) : j_179_130 what b a got s = j_179_246 what b a got (if fitv (what - 10) a b = -1 then 0 else 1) s ∧ (fitv (what - 10) a b ≠ -1 → got = fitv (what - 10) a b) := by
  have hz : zR what ∧ zR a ∧ zR b := ⟨⟨by omega, by omega⟩, ⟨by omega, by omega⟩, ⟨by omega, by omega⟩⟩
  have : what = 30 ∨ what = 31 ∨ what = 32 ∨ what = 33 ∨ what = 34 ∨ what = 35 ∨ what = 36 ∨ what = 37 := by omega
  unfold j_179_130
  rw [zg_pos hz.1]
  simp only [zg_pos hz.2.1, zg_pos hz.2.2]
  rcases this with rfl | rfl | rfl | rfl | rfl | rfl | rfl | rfl
  · rw [if_pos rfl] at hg
    rw [if_neg (by decide), if_neg (by decide), if_neg (by decide), if_pos rfl]
    unfold j_179_212 j_179_228 j_179_229
    rw [zg_pos ⟨by omega, by omega⟩, if_neg (by omega)]
    by_cases h3 : 3 < a + b
    · have hf : fitv (30 - 10) a b = -1 := by show (if 3 < a + b then -1 else a + b) = -1; rw [if_pos h3]
      rw [hf, if_pos (by omega), if_pos rfl]
      exact ⟨rfl, fun h => absurd rfl h⟩
    · have hf : fitv (30 - 10) a b = a + b := by show (if 3 < a + b then -1 else a + b) = a + b; rw [if_neg h3]
      rw [hf, if_neg (by omega), if_neg (by omega)]
      exact ⟨rfl, fun _ => hg⟩
  · rw [if_neg (by decide), if_neg (by decide), if_neg (by decide)] at hg
    rw [if_pos rfl]
    by_cases ha : a = 2
    · rw [if_pos ha]
      by_cases hb : b = 2
      · have hf : fitv (31 - 10) a b = 2 := by show (if a = 2 ∧ b = 2 then 2 else -1) = 2; rw [if_pos ⟨ha, hb⟩]
        rw [hf, if_pos hb, if_neg (by decide)]
        exact ⟨rfl, fun _ => by rw [hg]; exact ha⟩
      · have hf : fitv (31 - 10) a b = -1 := by show (if a = 2 ∧ b = 2 then 2 else -1) = -1; rw [if_neg (fun h => hb h.2)]
        rw [hf, if_neg hb, if_pos rfl]
        exact ⟨rfl, fun h => absurd rfl h⟩
    · have hf : fitv (31 - 10) a b = -1 := by show (if a = 2 ∧ b = 2 then 2 else -1) = -1; rw [if_neg (fun h => ha h.1)]
      rw [hf, if_neg ha, if_pos rfl]
      exact ⟨rfl, fun h => absurd rfl h⟩
  · rw [if_neg (by decide), if_neg (by decide), if_pos rfl] at hg
    rw [if_neg (by decide), if_pos rfl]
    by_cases hc : a = 1
    · have hf : fitv (32 - 10) a b = b := by show (if a = 1 then b else -1) = b; rw [if_pos hc]
      rw [hf, if_pos hc, if_neg (by omega), hg]
      exact ⟨rfl, fun _ => rfl⟩
    · have hf : fitv (32 - 10) a b = -1 := by show (if a = 1 then b else -1) = -1; rw [if_neg hc]
      rw [hf, if_neg hc, if_pos rfl]
      exact ⟨rfl, fun h => absurd rfl h⟩
  · rw [if_neg (by decide), if_neg (by decide), if_neg (by decide)] at hg
    rw [if_neg (by decide), if_neg (by decide), if_pos rfl]
    by_cases hc : b = 1
    · have hf : fitv (33 - 10) a b = a := by show (if b = 1 then a else -1) = a; rw [if_pos hc]
      rw [hf, if_pos hc, if_neg (by omega), hg]
      exact ⟨rfl, fun _ => rfl⟩
    · have hf : fitv (33 - 10) a b = -1 := by show (if b = 1 then a else -1) = -1; rw [if_neg hc]
      rw [hf, if_neg hc, if_pos rfl]
      exact ⟨rfl, fun h => absurd rfl h⟩
  · rw [if_neg (by decide), if_neg (by decide), if_neg (by decide)] at hg
    rw [if_neg (by decide), if_neg (by decide), if_neg (by decide), if_neg (by decide), if_neg (by decide)]
    by_cases hc : a = b
    · have hf : fitv (34 - 10) a b = a := by show (if a = b then a else -1) = a; rw [if_pos hc]
      rw [hf, if_pos hc, if_neg (by omega), hg]
      exact ⟨rfl, fun _ => rfl⟩
    · have hf : fitv (34 - 10) a b = -1 := by show (if a = b then a else -1) = -1; rw [if_neg hc]
      rw [hf, if_neg hc, if_pos rfl]
      exact ⟨rfl, fun h => absurd rfl h⟩
  · rw [if_neg (by decide), if_neg (by decide), if_neg (by decide)] at hg
    rw [if_neg (by decide), if_neg (by decide), if_neg (by decide), if_neg (by decide), if_neg (by decide)]
    by_cases hc : a = b
    · have hf : fitv (35 - 10) a b = a := by show (if a = b then a else -1) = a; rw [if_pos hc]
      rw [hf, if_pos hc, if_neg (by omega), hg]
      exact ⟨rfl, fun _ => rfl⟩
    · have hf : fitv (35 - 10) a b = -1 := by show (if a = b then a else -1) = -1; rw [if_neg hc]
      rw [hf, if_neg hc, if_pos rfl]
      exact ⟨rfl, fun h => absurd rfl h⟩
  · rw [if_neg (by decide), if_neg (by decide), if_neg (by decide)] at hg
    rw [if_neg (by decide), if_neg (by decide), if_neg (by decide), if_neg (by decide), if_neg (by decide)]
    by_cases hc : a = b
    · have hf : fitv (36 - 10) a b = a := by show (if a = b then a else -1) = a; rw [if_pos hc]
      rw [hf, if_pos hc, if_neg (by omega), hg]
      exact ⟨rfl, fun _ => rfl⟩
    · have hf : fitv (36 - 10) a b = -1 := by show (if a = b then a else -1) = -1; rw [if_neg hc]
      rw [hf, if_neg hc, if_pos rfl]
      exact ⟨rfl, fun h => absurd rfl h⟩
  · rw [if_neg (by decide), if_pos rfl] at hg
    rw [if_neg (by decide), if_neg (by decide), if_neg (by decide), if_neg (by decide), if_pos rfl]
    unfold j_179_212 j_179_228 j_179_229
    rw [zg_pos ⟨by omega, by omega⟩]
    by_cases h3 : a + b < 3 ∨ 5 < a + b
    · have hf : fitv (37 - 10) a b = -1 := by show (if a + b < 3 ∨ 5 < a + b then -1 else a + b - 2) = -1; rw [if_pos h3]
      rw [hf, if_pos rfl]
      refine ⟨?_, fun h => absurd rfl h⟩
      by_cases h4 : got < 1
      · rw [if_pos h4]
      · rw [if_neg h4, if_pos (by omega)]
    · have hf : fitv (37 - 10) a b = a + b - 2 := by show (if a + b < 3 ∨ 5 < a + b then -1 else a + b - 2) = a + b - 2; rw [if_neg h3]
      rw [hf, if_neg (by omega), if_neg (by omega), if_neg (by omega)]
      exact ⟨rfl, fun _ => hg⟩
/-- a joint ends -/
theorem m_closeJ {r2 : Int} (h : PMd τ fm (f :: S) len) (hJ : isJ f) (l1 : len < 320) (ho : gI τ 177 40 = jn S + 2) (r1 : 1 ≤ f.r) (r3 : f.r ≤ 3) (h2 : gI τ 195 (jn S + 1) = r2) (q1 : 1 ≤ r2) (q3 : r2 ≤ 3) : ∃ τ', f_179 τ = some (if fitv f.k f.r r2 = -1 then 5 else 0, τ') ∧ (fitv f.k f.r r2 = -1 → gI τ' 177 5 = f.pl) ∧ (fitv f.k f.r r2 ≠ -1 → PMd τ' fm S (len + 1) ∧ mAdd τ τ' len (f.k + 10) f.r r2 ∧ gI τ' 177 40 = jn S + 1 ∧ gI τ' 195 (jn S) = fitv f.k f.r r2) := by
  obtain ⟨t38, t20, t3, ⟨t4, t5, -, -, -, -, t6⟩, -⟩ := h.top
  have t7 := t6 hJ
  have jb := jn_b S
  obtain ⟨hp, k1, k2⟩ := id hJ
  rw [mkd_J hJ] at t4
  obtain ⟨lv, hlv, hlz, hl16⟩ : ∃ lv, f_166 (f.k + 10) = some lv ∧ zR lv ∧ lv ≠ 16 := by
    have ht := lv_tab ⟨(f.k - 20).toNat, by omega⟩
    dsimp only at ht
    rw [show (30 : Int) + ((f.k - 20).toNat : Nat) = f.k + 10 by omega] at ht
    refine ⟨_, ht, ?_, ?_⟩
    · repeat' split
      all_goals decide
    · repeat' split
      all_goals omega
  have e1 : gI (sI τ 177 38 (gI τ 177 38 - 1)) 177 38 = S.length + 1 := by rw [gI_same ⟨by omega, by omega⟩]; omega
  have e2 : gI (sI (sI τ 177 38 (gI τ 177 38 - 1)) 177 40 (gI τ 177 40 - 1)) 177 40 - 1 = jn S := by rw [gI_same ⟨by omega, by omega⟩]; omega
  have e3 : gI τ 177 40 - 1 = jn S + 1 := by omega
  obtain ⟨G, hG⟩ : ∃ G, G = if f.k + 10 = 30 then f.r + r2 else if f.k + 10 = 37 then f.r + r2 - 2 else if f.k + 10 = 32 then r2 else f.r := ⟨_, rfl⟩
  have hgo := m_good (s := sI (sI τ 177 38 (gI τ 177 38 - 1)) 177 40 (gI τ 177 40 - 1)) (what := f.k + 10) (a := f.r) (b := r2) (got := G) (by omega) r1 r3 q1 q3 hG
  rw [show f.k + 10 - 10 = f.k by omega] at hgo
  have hGz : zR G := by
    rw [hG]
    repeat' split
    all_goals exact ⟨by omega, by omega⟩
  have e179 : f_179 τ = j_179_246 (f.k + 10) r2 f.r G (if fitv f.k f.r r2 = -1 then 0 else 1) (sI (sI τ 177 38 (gI τ 177 38 - 1)) 177 40 (gI τ 177 40 - 1)) := by
    rw [← hgo.1]
    unfold f_179
    rw [e1, zg_pos ⟨by omega, by omega⟩, e3, zg_pos ⟨by omega, by omega⟩, t4, zo_of hlv, zg_pos hlz, if_neg hl16, ← e3, e2, zg_pos ⟨by omega, by omega⟩, e3, h2, t7]
    by_cases x30 : f.k + 10 = 30
    · rw [if_pos x30] at hG ⊢
      rw [hG]
    · rw [if_neg x30] at hG ⊢
      by_cases x37 : f.k + 10 = 37
      · rw [if_pos x37] at hG ⊢
        rw [hG]
      · rw [if_neg x37] at hG ⊢
        by_cases x32 : f.k + 10 = 32
        · rw [if_pos x32] at hG ⊢
          rw [hG]
        · rw [if_neg x32] at hG ⊢
          rw [hG]
  have n1 : ∀ x i, x ≠ 177 → gI (sI (sI (sI τ 177 38 (gI τ 177 38 - 1)) 177 40 (gI τ 177 40 - 1)) 195 (jn S) G) x i = if x = 195 ∧ i = jn S then G else gI τ x i := by
    intro x i hx
    by_cases h195 : x = 195
    · rw [h195, gI_if hGz]
      by_cases hi : i = jn S
      · rw [if_pos hi, if_pos ⟨rfl, hi⟩]
      · rw [if_neg hi, if_neg (fun h => hi h.2), gI_nc (by decide), gI_nc (by decide)]
    · rw [if_neg (fun h => h195 h.1), gI_nc h195, gI_nc hx, gI_nc hx]
  have n2 : ∀ i, i ≠ 38 → i ≠ 40 → gI (sI (sI (sI τ 177 38 (gI τ 177 38 - 1)) 177 40 (gI τ 177 40 - 1)) 195 (jn S) G) 177 i = gI τ 177 i := fun i h38 h40 => by rw [gI_nc (by decide), gI_ni h40, gI_ni h38]
  obtain ⟨τ', a1, a2, a3, a4⟩ := m_lay (τ := sI (sI (sI τ 177 38 (gI τ 177 38 - 1)) 177 40 (gI τ 177 40 - 1)) 195 (jn S) G) (len := len) (op := f.k + 10) (a := f.r) (b := r2) (by rw [n2 41 (by decide) (by decide)]; exact h.2.2.2.1) h.2.2.2.2 l1 ⟨by omega, by omega⟩ ⟨by omega, by omega⟩ ⟨by omega, by omega⟩
  have ms : ∀ x i, x ≠ 184 → x ≠ 185 → x ≠ 186 → x ≠ 177 → gI τ' x i = if x = 195 ∧ i = jn S then G else gI τ x i := fun x i h4 h5 h6 h7 => by rw [a4.1 x i h4 h5 h6 (fun h => absurd h h7), n1 x i h7]
  have m38 : gI τ' 177 38 = S.length + 1 := by
    rw [a4.1 177 38 (by decide) (by decide) (by decide) (fun _ => by decide), gI_nc (by decide), gI_ni (by decide)]
    exact e1
  rw [e179]
  unfold j_179_246
  rw [e2, zg_pos ⟨by omega, by omega⟩, zb_of a1]
  by_cases hf : fitv f.k f.r r2 = -1
  · rw [if_pos hf, if_pos hf, zg_pos (by decide), if_pos rfl, m38, zg_pos ⟨by omega, by omega⟩]
    have e180 : f_180 (gI τ' 190 (S.length + 1)) τ' = some (5, sI τ' 177 5 (gI τ' 190 (S.length + 1))) := rfl
    rw [zb_of e180]
    refine ⟨_, rfl, fun _ => ?_, fun h => absurd hf h⟩
    rw [gI_same (zR_gI _ _ _), ms 190 _ (by decide) (by decide) (by decide) (by decide), if_neg (by omega)]
    exact t5
  · rw [if_neg hf, if_neg hf, zg_pos (by decide), if_neg (by decide)]
    refine ⟨τ', rfl, fun h => absurd h hf, fun _ => ⟨h.pop m38 ?_ (fun i _ _ => ⟨?_, ?_, ?_, ?_, ?_, ?_⟩) (fun i i0 i1 => ?_) a2 (by have := h.2.2.2.2; omega), ⟨fun k hk => ?_, a3.2.1, a3.2.2.1, a3.2.2.2⟩, ?_, ?_⟩⟩
    · rw [ms 189 0 (by decide) (by decide) (by decide) (by decide), if_neg (by omega)]
    · rw [ms 189 i (by decide) (by decide) (by decide) (by decide), if_neg (by omega)]
    · rw [ms 190 i (by decide) (by decide) (by decide) (by decide), if_neg (by omega)]
    · rw [ms 191 i (by decide) (by decide) (by decide) (by decide), if_neg (by omega)]
    · rw [ms 192 i (by decide) (by decide) (by decide) (by decide), if_neg (by omega)]
    · rw [ms 193 i (by decide) (by decide) (by decide) (by decide), if_neg (by omega)]
    · rw [a4.2]; rfl
    · rw [ms 195 i (by decide) (by decide) (by decide) (by decide), if_neg (by omega)]
    · obtain ⟨r1, r2, r3⟩ := a3.1 k hk
      refine ⟨r1.trans ?_, r2.trans ?_, r3.trans ?_⟩
      · show gI _ 184 (5440 + k) = gI τ 184 (5440 + k)
        rw [n1 184 _ (by decide), if_neg (by omega)]
      · show gI _ 185 (5440 + k) = gI τ 185 (5440 + k)
        rw [n1 185 _ (by decide), if_neg (by omega)]
      · show gI _ 186 (5440 + k) = gI τ 186 (5440 + k)
        rw [n1 186 _ (by decide), if_neg (by omega)]
    · rw [a4.1 177 40 (by decide) (by decide) (by decide) (fun _ => by decide), gI_nc (by decide), gI_same ⟨by omega, by omega⟩]
      omega
    · rw [ms 195 _ (by decide) (by decide) (by decide) (by decide), if_pos ⟨rfl, rfl⟩]
      exact hgo.2 hf
end MSTEP
