/-! SEGMENTS of the reference's code: what running them leaves. -/
/-- a loop comes from one state to another in at most c turns -/
def zrch {S T : Type} (B : S → Option (S ⊕ T)) (c : Nat) (q q2 : S) : Prop := ∃ m, m ≤ c ∧ ∀ n, zlp B (n + m) q = zlp B n q2
theorem zrch.rf {S T : Type} {B : S → Option (S ⊕ T)} (q : S) : zrch B 0 q q := ⟨0, Nat.le_refl _, fun _ => rfl⟩
theorem zrch.one {S T : Type} {B : S → Option (S ⊕ T)} {q q2 : S} (h : B q = some (.inl q2)) : zrch B 1 q q2 := ⟨1, Nat.le_refl _, fun _ => zlp_l h⟩
theorem zrch.tr {S T : Type} {B : S → Option (S ⊕ T)} {c c2 : Nat} {q q2 q3 : S} (h : zrch B c q q2) (h2 : zrch B c2 q2 q3) : zrch B (c + c2) q q3 := by
  obtain ⟨m, hm, e⟩ := h
  obtain ⟨m2, hm2, e2⟩ := h2
  exact ⟨m2 + m, by omega, fun n => by rw [← Nat.add_assoc, e, e2]⟩
theorem zrch.le {S T : Type} {B : S → Option (S ⊕ T)} {c c2 : Nat} {q q2 : S} (h : zrch B c q q2) (hc : c ≤ c2) : zrch B c2 q q2 := by
  obtain ⟨m, hm, e⟩ := h
  exact ⟨m, by omega, e⟩
theorem zrch.ends {S T : Type} {B : S → Option (S ⊕ T)} {c n : Nat} {q q2 : S} {t : T} (h : zrch B c q q2) (h2 : B q2 = some (.inr t)) (hn : c < n) : zlp B n q = some t := by
  obtain ⟨m, hm, e⟩ := h
  obtain ⟨k, rfl⟩ : ∃ k, n = (k + 1) + m := ⟨n - m - 1, by omega⟩
  rw [e, zlp_r h2]
/-- denotations: of the atoms that are bound, and of which tuples are there -/
abbrev Dn : Type := (Int → Int) → (Int → Bool) → Vl
/-- the reference at work: n atoms, R relations with their arities, L loops, T values -/
def MS (σ : zS) (n R : Int) (ra : Int → Int) (L T : Int) (e : Int → Int) (A : Int → Bool) : Prop :=
  gI σ 177 1 = n ∧ 1 ≤ n ∧ n ≤ 5 ∧ (R ≤ 8 ∧ ∀ r, 0 ≤ r → r < R → RV (n ^ (ra r).toNat) (gJ σ 196 r) (gJ σ 197 r) (fun t => A (125 * r + t))) ∧ gI σ 177 46 = T ∧ 0 ≤ T ∧ gI σ 177 53 = L ∧ 0 ≤ L ∧ ∀ j, 0 ≤ j → j < L → gI σ 201 j = e j ∧ 0 ≤ e j ∧ e j < n
/-- one value more: V, of N tuples -/
def MP (σ τ : zS) (T L N : Int) (V : Vl) : Prop :=
  zfr 24530806944976732556039678516220153034435395923196984534500294222346575973852489186456027058429306240630108415201208202408871792121741312 σ τ ∧ gI τ 177 46 = T + 1 ∧ gI τ 177 53 = L ∧ RV N (gJ τ 198 T) (gJ τ 199 T) V ∧ (∀ j, 0 ≤ j → j < T → gJ τ 198 j = gJ σ 198 j ∧ gJ τ 199 j = gJ σ 199 j) ∧ ∀ j, 0 ≤ j → j < L → gI τ 200 j = gI σ 200 j ∧ gI τ 201 j = gI σ 201 j ∧ gI τ 202 j = gI σ 202 j ∧ gI τ 203 j = gI σ 203 j
theorem MS.next {σ τ : zS} {n R L T N : Int} {ra : Int → Int} {e : Int → Int} {A : Int → Bool} {V : Vl} (h : MS σ n R ra L T e A) (p : MP σ τ T L N V) : MS τ n R ra L (T + 1) e A := by
  obtain ⟨h1, h2, h3, ⟨h4, h4'⟩, h5, h6, h7, h8, h9⟩ := h
  obtain ⟨p1, p2, p3, -, -, p6⟩ := p
  refine ⟨by rw [p1.i rfl]; exact h1, h2, h3, ⟨h4, fun r r0 r1 => ?_⟩, p2, by omega, p3, h8, fun j j0 j1 => ?_⟩
  · rw [p1.ja (c := 196) rfl rfl, p1.ja (c := 197) rfl rfl]
    exact h4' r r0 r1
  · rw [(p6 j j0 j1).2.1]
    exact h9 j j0 j1
/-- the code of a row from a to b is this -/
def RC (σ : zS) (row a b : Int) (cd wt al : Int → Int) : Prop := 0 ≤ row ∧ row < 18 ∧ 0 ≤ a ∧ b ≤ gI σ 187 row ∧ gI σ 187 row ≤ 320 ∧ ∀ k, a ≤ k → k < b → gI σ 184 (320 * row + k) = cd k ∧ gI σ 185 (320 * row + k) = wt k ∧ gI σ 186 (320 * row + k) = al k
theorem RC.fr {σ τ : zS} {row a b : Int} {cd wt al : Int → Int} (h : RC σ row a b cd wt al) (p : zfr 24530806944976732556039678516220153034435395923196984534500294222346575973852489186456027058429306240630108415201208202408871792121741312 σ τ) : RC τ row a b cd wt al := by
  obtain ⟨h1, h2, h3, h4, h5, h6⟩ := h
  refine ⟨h1, h2, h3, by rw [p.ia (c := 187) rfl rfl]; exact h4, by rw [p.ia (c := 187) rfl rfl]; exact h5, fun k k0 k1 => ?_⟩
  rw [p.ia (c := 184) rfl rfl, p.ia (c := 185) rfl rfl, p.ia (c := 186) rfl rfl]
  exact h6 k k0 k1
theorem RC.sub {σ : zS} {row a b a2 b2 : Int} {cd wt al : Int → Int} (h : RC σ row a b cd wt al) (ha : a ≤ a2) (hb : b2 ≤ b) : RC σ row a2 b2 cd wt al := by
  obtain ⟨h1, h2, h3, h4, h5, h6⟩ := h
  exact ⟨h1, h2, by omega, by omega, h5, fun k k0 k1 => h6 k (by omega) (by omega)⟩
/-- the code from a to b leaves D, of N tuples, under L loops; m: how deep it goes -/
def RSeg (n R : Int) (ra : Int → Int) (cd wt al : Int → Int) (a b L : Int) (m : Nat) (N : Int) (D : Dn) : Prop := a < b ∧ ∀ (σ : zS) (row : Int) (e : Int → Int) (A : Int → Bool) (T : Int), RC σ row a b cd wt al → MS σ n R ra L T e A → T + m ≤ 100 → L + m ≤ 30 → ∃ τ, zrch (fun (q : Int × zS) => b_199_12 row q.1 q.2) ((b - a).toNat * 6 ^ m) (a, σ) (b, τ) ∧ MP σ τ T L N (D e A)
section SEG
variable {n R : Int} {ra cd wt al : Int → Int} {a b L N : Int} {m : Nat} {D : Dn}
/-- a value is put on the stack -/
theorem m_give {σ : zS} {lo hi : BitVec 64} {e : Int → Int} {A : Int → Bool} {T : Int} {V : Vl} (h : MS σ n R ra L T e A) (hT : T ≤ 100) (hV : RV N lo hi V) : ∃ τ, f_203 lo hi σ = some ((), τ) ∧ MP σ τ T L N V := by
  obtain ⟨h1, h2, h3, h4, h5, h6, h7, h8, h9⟩ := h
  have e203 : f_203 lo hi σ = some ((), sI (sJ (sJ σ 198 T lo) 199 T hi) 177 46 (T + 1)) := by
    unfold f_203
    rw [h5, zg_pos ⟨by omega, by omega⟩]
  refine ⟨_, e203, zfr_sub rfl (fr_203 e203), gI_same ⟨by omega, by omega⟩, ?_, ?_, fun j j0 j1 => ?_, fun j j0 j1 => ⟨rfl, rfl, rfl, rfl⟩⟩
  · rw [gI_ni (by decide)]; exact h7
  · show RV N (gJ (sJ (sJ σ 198 T lo) 199 T hi) 198 T) (gJ (sJ (sJ σ 198 T lo) 199 T hi) 199 T) V
    rw [gJ_nc (by decide), gJ_same, gJ_same]
    exact hV
  · show gJ (sJ (sJ σ 198 T lo) 199 T hi) 198 j = _ ∧ gJ (sJ (sJ σ 198 T lo) 199 T hi) 199 j = _
    rw [gJ_nc (by decide), gJ_ni (by omega), gJ_ni (by omega), gJ_nc (by decide)]
    exact ⟨rfl, rfl⟩
theorem m_truth {σ : zS} {v : Bool} {e : Int → Int} {A : Int → Bool} {T : Int} {V : Vl} (h : MS σ n R ra L T e A) (hT : T ≤ 100) (hV : V 0 = v) : ∃ τ, f_206 (if v then 1 else 0) σ = some ((), τ) ∧ MP σ τ T L 1 V := by
  obtain ⟨τ, h1, h2⟩ := m_give (lo := zw v) (hi := 0#64) h hT (RV1_of v V hV)
  refine ⟨τ, ?_, h2⟩
  unfold f_206
  cases v with
  | true =>
    have h1' : f_203 (1#64) (0#64) σ = some ((), τ) := h1
    rw [if_pos rfl, zg_pos (by decide), if_neg (by decide), zb_of h1']
  | false =>
    have h1' : f_203 (0#64) (0#64) σ = some ((), τ) := h1
    rw [if_neg (by decide), zg_pos (by decide), if_pos rfl, zb_of h1']
/-- one turn of the loop at an instruction that is simple -/
theorem m_turn_simple {σ : zS} {row k c : Int} (hC : RC σ row a b cd wt al) (ka : a ≤ k) (kb : k < b) (hc : cd k = c) (hcR : zR c) (h3 : c ≠ 3) (h4 : c ≠ 4) (l1 : f_167 c = some 0) {lv : Int} (l2 : f_166 c = some lv) (hlv : zR lv) (hne : lv ≠ 16) (l3 : f_168 c = some 0) {τ : zS} (h : f_220 c (wt k) (al k) σ = some ((), τ)) : b_199_12 row k σ = some (.inl (k + 1, τ)) := by
  obtain ⟨r0, r1, a0, r2, r3, r4⟩ := hC
  obtain ⟨c1, c2, c3⟩ := r4 k ka kb
  unfold b_199_12
  rw [zg_pos ⟨r0, r1⟩, zg_pos ⟨by omega, by omega⟩, if_pos (by omega), zg_pos ⟨by omega, by omega⟩, c1, c2, c3, hc, if_neg h3, if_neg h4, zo_of l1, zg_pos (by decide), if_pos rfl, zo_of l2, zg_pos hlv, if_neg hne, zo_of l3, zg_pos (by decide), if_pos rfl, zb_of h]
/-- a leaf: one instruction that puts a value -/
theorem seg_leaf {c : Int} (a0 : 0 ≤ a) (hc : cd a = c) (hcR : zR c) (h3 : c ≠ 3) (h4 : c ≠ 4) (l1 : f_167 c = some 0) {lv : Int} (l2 : f_166 c = some lv) (hlv : zR lv) (hne : lv ≠ 16) (l3 : f_168 c = some 0) (h : ∀ (σ : zS) (e : Int → Int) (A : Int → Bool) (T : Int), MS σ n R ra L T e A → T ≤ 100 → L ≤ 30 → ∃ τ, f_220 c (wt a) (al a) σ = some ((), τ) ∧ MP σ τ T L N (D e A)) : RSeg n R ra cd wt al a (a + 1) L 0 N D := by
  refine ⟨by omega, fun σ row e A T hC hM hT hL => ?_⟩
  obtain ⟨τ, h1, h2⟩ := h σ e A T hM (by omega) (by omega)
  refine ⟨τ, (zrch.one (m_turn_simple hC (by omega) (by omega) hc hcR h3 h4 l1 l2 hlv hne l3 h1)).le ?_, h2⟩
  rw [show (a + 1 - a).toNat = 1 by omega]
  decide
theorem seg_rel {r : Int} (a0 : 0 ≤ a) (hc : cd a = 1) (hw : wt a = r) (r0 : 0 ≤ r) (r1 : r < R) : RSeg n R ra cd wt al a (a + 1) L 0 (n ^ (ra r).toNat) (fun _ A t => A (125 * r + t)) := by
  refine seg_leaf (lv := 0) a0 hc (by decide) (by decide) (by decide) rfl rfl (by decide) (by decide) rfl (fun σ e A T hM hT hL => ?_)
  have h4 := hM.2.2.2.1
  obtain ⟨τ, h1, h2⟩ := m_give hM hT (h4.2 r r0 r1)
  refine ⟨τ, ?_, h2⟩
  unfold f_220
  rw [zg_pos (by decide), show t_220_1 1 = 184 from rfl, if_pos rfl, hw, zg_pos ⟨r0, by omega⟩, zb_of h1]
theorem seg_none (a0 : 0 ≤ a) (hc : cd a = 21) : RSeg n R ra cd wt al a (a + 1) L 0 n (fun _ _ _ => false) := by
  refine seg_leaf (lv := 0) a0 hc (by decide) (by decide) (by decide) rfl rfl (by decide) (by decide) rfl (fun σ e A T hM hT hL => ?_)
  obtain ⟨τ, h1, h2⟩ := m_give (lo := 0#64) (hi := 0#64) (N := n) (V := fun _ => false) hM hT (fun t t0 t1 => by
    unfold tb
    split <;> simp)
  refine ⟨τ, ?_, h2⟩
  unfold f_220
  rw [zg_pos (by decide), show t_220_1 21 = 219 from rfl, if_neg (by decide), if_neg (by decide), if_pos rfl, zb_of h1]
theorem seg_univ (a0 : 0 ≤ a) (hc : cd a = 22) : RSeg n R ra cd wt al a (a + 1) L 0 n (fun _ _ _ => true) := by
  refine seg_leaf (lv := 0) a0 hc (by decide) (by decide) (by decide) rfl rfl (by decide) (by decide) rfl (fun σ e A T hM hT hL => ?_)
  obtain ⟨τ, h1, h2⟩ := m_give (lo := ((1#64) <<< zshl n) - (1#64)) (hi := 0#64) (N := n) (V := fun _ => true) hM hT (RV_of (by have := hM.2.2.1; omega) (fun t t0 t1 => by
    rw [zshl_eq (by have := hM.2.1; omega) (by have := hM.2.2.1; omega), bv_mask _ _ (by have := hM.2.2.1; omega) (by omega), Bool.and_true]
    apply decide_eq_decide.mpr
    have := hM.2.1
    omega))
  refine ⟨τ, ?_, h2⟩
  unfold f_220
  rw [zg_pos (by decide), show t_220_1 22 = 228 from rfl, if_neg (by decide), if_neg (by decide), if_neg (by decide), if_pos rfl, hM.1, zb_of h1]
theorem seg_iden (a0 : 0 ≤ a) (hc : cd a = 23) : RSeg n R ra cd wt al a (a + 1) L 0 (n * n) (fun _ _ => vIden n) := by
  refine seg_leaf (lv := 0) a0 hc (by decide) (by decide) (by decide) rfl rfl (by decide) (by decide) rfl (fun σ e A T hM hT hL => ?_)
  have hnn := nn25 hM.2.1 hM.2.2.1
  obtain ⟨w, w1, w2⟩ := m_identity (s := σ) hM.1 hM.2.1 hM.2.2.1
  obtain ⟨τ, h1, h2⟩ := m_give (N := n * n) (V := vIden n) hM hT (RV_of (by omega) w2)
  refine ⟨τ, ?_, h2⟩
  unfold f_220
  rw [zg_pos (by decide), show t_220_1 23 = 244 from rfl, if_neg (by decide), if_neg (by decide), if_neg (by decide), if_neg (by decide), if_pos rfl, zo_of w1, zb_of h1]
theorem seg_true (a0 : 0 ≤ a) (hc : cd a = 24) : RSeg n R ra cd wt al a (a + 1) L 0 1 (fun _ _ _ => true) := by
  refine seg_leaf (lv := 0) a0 hc (by decide) (by decide) (by decide) rfl rfl (by decide) (by decide) rfl (fun σ e A T hM hT hL => ?_)
  obtain ⟨τ, h1, h2⟩ := m_truth (v := true) (V := fun _ => true) hM hT rfl
  refine ⟨τ, ?_, h2⟩
  unfold f_220
  rw [zg_pos (by decide), show t_220_1 24 = 256 from rfl, if_neg (by decide), if_neg (by decide), if_neg (by decide), if_neg (by decide), if_neg (by decide), if_pos rfl, if_pos rfl, zb_of (show f_206 1 σ = some ((), τ) from h1)]
theorem seg_false (a0 : 0 ≤ a) (hc : cd a = 25) : RSeg n R ra cd wt al a (a + 1) L 0 1 (fun _ _ _ => false) := by
  refine seg_leaf (lv := 0) a0 hc (by decide) (by decide) (by decide) rfl rfl (by decide) (by decide) rfl (fun σ e A T hM hT hL => ?_)
  obtain ⟨τ, h1, h2⟩ := m_truth (v := false) (V := fun _ => false) hM hT rfl
  refine ⟨τ, ?_, h2⟩
  unfold f_220
  rw [zg_pos (by decide), show t_220_1 25 = 256 from rfl, if_neg (by decide), if_neg (by decide), if_neg (by decide), if_neg (by decide), if_neg (by decide), if_pos rfl, if_neg (by decide), zb_of (show f_206 0 σ = some ((), τ) from h1)]
theorem seg_var {j : Int} (a0 : 0 ≤ a) (hc : cd a = 2) (hw : wt a = j) (j0 : 0 ≤ j) (j1 : j < L) : RSeg n R ra cd wt al a (a + 1) L 0 n (fun e _ t => decide (t = e j)) := by
  refine seg_leaf (lv := 0) a0 hc (by decide) (by decide) (by decide) rfl rfl (by decide) (by decide) rfl (fun σ e A T hM hT hL => ?_)
  obtain ⟨x1, x2, x3⟩ := hM.2.2.2.2.2.2.2.2 j j0 j1
  have n5 := hM.2.2.1
  obtain ⟨τ, h1, h2⟩ := m_give (lo := (1#64) <<< zshl (e j)) (hi := 0#64) (N := n) (V := fun t => decide (t = e j)) hM hT (RV_of (by omega) (fun t t0 t1 => by
    rw [zshl_eq x2 (by omega), bv_shl1 _ _ (by omega)]
    by_cases ht : t = e j
    · rw [decide_eq_true (show t.toNat = (e j).toNat by omega), decide_eq_true ht, decide_eq_true (show t < n by omega)]
      rfl
    · rw [decide_eq_false (show ¬ t.toNat = (e j).toNat by omega), decide_eq_false ht, Bool.and_false]))
  refine ⟨τ, ?_, h2⟩
  unfold f_220
  rw [zg_pos (by decide), show t_220_1 2 = 203 from rfl, if_neg (by decide), if_pos rfl, hw, zg_pos ⟨j0, by omega⟩, x1, zb_of h1]
end SEG
