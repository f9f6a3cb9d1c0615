/-! THE ORDERS of atoms: the class goes from one to the next; all of them are there. -/
theorem gt_ex {n : Int} (n1 : 1 ≤ n) (n5 : n ≤ 5) : n = 1 ∨ n = 2 ∨ n = 3 ∨ n = 4 ∨ n = 5 := by omega
def nxA (e : Int → Int) : Nat → Int
  | 0 => -1
  | k + 1 => if e ((k : Int) + 1) < e k then nxA e k else k
def nxB (e : Int → Int) (a : Int) : Nat → Int
  | 0 => 0
  | k + 1 => if a < (k : Int) + 1 then (if e ((k : Int) + 1) < e a then nxB e a k else (k : Int) + 1) else (k : Int) + 1
def swp (e : Int → Int) (i j : Int) : Int → Int := fun x => if x = j then e i else if x = i then e j else e x
def rvs : Nat → (Int → Int) → Int → Int → (Int → Int)
  | 0, e, _, _ => e
  | f + 1, e, i, j => if i < j then rvs f (swp e i j) (i + 1) (j - 1) else e
def nxt (n : Int) (e : Int → Int) : Option (Int → Int) := if nxA e (n - 1).toNat < 0 then none else some (rvs 6 (swp e (nxA e (n - 1).toNat) (nxB e (nxA e (n - 1).toNat) (n - 1).toNat)) (nxA e (n - 1).toNat + 1) (n - 1))
theorem nxA_b (e : Int → Int) : ∀ k : Nat, -1 ≤ nxA e k ∧ nxA e k < k ∨ k = 0 ∧ nxA e k = -1
  | 0 => Or.inr ⟨rfl, rfl⟩
  | k + 1 => by
    rw [nxA]
    split
    · rcases nxA_b e k with h | h <;> omega
    · left; omega
theorem nxB_b (e : Int → Int) (a : Int) : ∀ k : Nat, 0 ≤ nxB e a k ∧ nxB e a k ≤ k
  | 0 => ⟨Int.le_refl _, Int.le_refl _⟩
  | k + 1 => by
    have := nxB_b e a k
    rw [nxB]
    split
    · split <;> omega
    · omega
theorem c_step {s : zS} {n : Int} {e : Int → Int} (hn : gI s 1 0 = n) (n1 : 1 ≤ n) (n5 : n ≤ 5) (hE : ∀ x, 0 ≤ x → x < n → gI s 26 x = e x) : (nxt n e = none → f_134 s = some (0, s)) ∧ ∀ e', nxt n e = some e' → ∃ s', f_134 s = some (1, s') ∧ ∀ x, 0 ≤ x → x < n → gI s' 26 x = e' x := by
  obtain ⟨a, ha⟩ : ∃ a, a = nxA e (n - 1).toNat := ⟨_, rfl⟩
  have hab := nxA_b e (n - 1).toNat
  rw [← ha] at hab
  have l1 : zlp (fun (q : Int) => b_134_12 n s q) zF (n - 2) = some a := by
    have := zlp_F (B := fun (q : Int) => b_134_12 n s q) (I := fun q => -1 ≤ q ∧ q ≤ n - 2 ∧ nxA e (q + 1).toNat = a) (μ := fun q => (q + 1).toNat) (Q := fun t => t = a) (by
      rintro q ⟨q1, q2, q3⟩
      unfold b_134_12
      rw [zg_pos ⟨by omega, by omega⟩]
      by_cases h0 : q < 0
      · right
        have : q = -1 := by omega
        rw [if_pos h0]
        refine ⟨_, rfl, ?_⟩
        rw [this] at q3 ⊢
        exact q3
      · rw [if_neg h0, zg_pos ⟨by omega, by omega⟩, zg_pos ⟨by omega, by omega⟩, hE q (by omega) (by omega), hE (q + 1) (by omega) (by omega)]
        rw [show (q + 1).toNat = q.toNat + 1 by omega, nxA, show ((q.toNat : Nat) : Int) = q by omega] at q3
        by_cases hc : e (q + 1) < e q
        · left
          rw [if_pos hc] at q3 ⊢
          exact ⟨_, rfl, ⟨by omega, by omega, by rw [show (q + -1 + 1).toNat = q.toNat by omega]; exact q3⟩, by omega⟩
        · right
          rw [if_neg hc] at q3 ⊢
          exact ⟨_, rfl, q3⟩) (s := n - 2) ⟨by omega, by omega, by rw [show (n - 2 + 1).toNat = (n - 1).toNat by omega]; exact ha.symm⟩ (by omega)
    obtain ⟨t, et, ht⟩ := this
    rw [et, ht]
  by_cases hneg : a < 0
  · refine ⟨fun _ => ?_, fun e' he' => ?_⟩
    · unfold f_134 j_134_39
      rw [hn, zo_of l1, zg_pos ⟨by omega, by omega⟩, if_pos hneg]
    · unfold nxt at he'
      rw [← ha, if_pos hneg] at he'
      cases he'
  · refine ⟨fun h => ?_, fun e' he' => ?_⟩
    · unfold nxt at h
      rw [← ha, if_neg hneg] at h
      cases h
    · unfold nxt at he'
      rw [← ha, if_neg hneg] at he'
      injection he' with he'
      obtain ⟨b, hb⟩ : ∃ b, b = nxB e a (n - 1).toNat := ⟨_, rfl⟩
      have hbb := nxB_b e a (n - 1).toNat
      rw [← hb] at hbb he'
      have l2 : zlp (fun (q : Int) => b_134_49 n a s q) zF (n - 1) = some b := by
        have := zlp_F (B := fun (q : Int) => b_134_49 n a s q) (I := fun q => 0 ≤ q ∧ q ≤ n - 1 ∧ nxB e a q.toNat = b) (μ := fun q => q.toNat) (Q := fun t => t = b) (by
          rintro q ⟨q1, q2, q3⟩
          unfold b_134_49
          rw [zg_pos ⟨by omega, by omega⟩, zg_pos ⟨by omega, by omega⟩]
          by_cases h0 : a < q
          · rw [if_pos h0, zg_pos ⟨by omega, by omega⟩, zg_pos ⟨by omega, by omega⟩, hE q (by omega) (by omega), hE a (by omega) (by omega)]
            have hq : q.toNat = (q - 1).toNat + 1 := by omega
            rw [hq, nxB, show (((q - 1).toNat : Nat) : Int) + 1 = q by omega, if_pos h0] at q3
            by_cases hc : e q < e a
            · left
              rw [if_pos hc] at q3 ⊢
              exact ⟨_, rfl, ⟨by omega, by omega, by rw [show (q + -1).toNat = (q - 1).toNat by omega]; exact q3⟩, by omega⟩
            · right
              rw [if_neg hc] at q3 ⊢
              exact ⟨_, rfl, q3⟩
          · right
            rw [if_neg h0]
            refine ⟨_, rfl, ?_⟩
            by_cases hz : q = 0
            · rw [hz] at q3 ⊢
              exact q3
            · rw [show q.toNat = (q - 1).toNat + 1 by omega, nxB, show (((q - 1).toNat : Nat) : Int) + 1 = q by omega, if_neg h0] at q3
              exact q3) (s := n - 1) ⟨by omega, by omega, hb.symm⟩ (by omega)
        obtain ⟨t, et, ht⟩ := this
        rw [et, ht]
      -- exchanging two
      have hsw : ∀ (σ : zS) (g : Int → Int) (i j : Int), 0 ≤ i → i < n → 0 ≤ j → j < n → (∀ x, 0 ≤ x → x < n → gI σ 26 x = g x) → ∃ σ', f_135 i j σ = some ((), σ') ∧ ∀ x, 0 ≤ x → x < n → gI σ' 26 x = swp g i j x := by
        intro σ g i j i0 i1 j0 j1 hg
        refine ⟨_, by unfold f_135; rw [zg_pos ⟨by omega, by omega⟩, zg_pos ⟨by omega, by omega⟩], fun x x0 x1 => ?_⟩
        unfold swp
        by_cases h1 : x = j
        · rw [if_pos h1, h1, gI_same (zR_gI _ _ _), hg i i0 i1]
        · rw [if_neg h1, gI_ni h1]
          by_cases h2 : x = i
          · rw [if_pos h2, h2, gI_same (zR_gI _ _ _), hg j j0 j1]
          · rw [if_neg h2, gI_ni h2, hg x x0 x1]
      obtain ⟨s3, e135, h3⟩ := hsw s e a b (by omega) (by omega) (by omega) (by omega) hE
      have l3 : ∀ (f : Nat) (σ : zS) (g : Int → Int) (i j : Int), 0 ≤ i → i ≤ n → -1 ≤ j → j < n → j - i < f → (∀ x, 0 ≤ x → x < n → gI σ 26 x = g x) → ∃ σ', (∀ m, zlp (fun (q : Int × Int × zS) => b_134_91 q.1 q.2.1 q.2.2) (m + f + 1) (i, j, σ) = some σ') ∧ ∀ x, 0 ≤ x → x < n → gI σ' 26 x = rvs f g i j x := by
        intro f
        induction f with
        | zero =>
          intro σ g i j i0 i1 j0 j1 hf hg
          refine ⟨σ, fun m => zlp_r ?_, hg⟩
          show b_134_91 i j σ = _
          unfold b_134_91
          rw [zg_pos ⟨by omega, by omega⟩, zg_pos ⟨by omega, by omega⟩, if_neg (by omega)]
        | succ f ih =>
          intro σ g i j i0 i1 j0 j1 hf hg
          by_cases hij : i < j
          · obtain ⟨σ2, e2, h2⟩ := hsw σ g i j i0 (by omega) (by omega) j1 hg
            obtain ⟨σ', e', h'⟩ := ih σ2 (swp g i j) (i + 1) (j - 1) (by omega) (by omega) (by omega) (by omega) (by omega) h2
            refine ⟨σ', fun m => ?_, fun x x0 x1 => by rw [rvs, if_pos hij]; exact h' x x0 x1⟩
            have hB : b_134_91 i j σ = some (.inl (i + 1, j - 1, σ2)) := by
              unfold b_134_91
              rw [zg_pos ⟨by omega, by omega⟩, zg_pos ⟨by omega, by omega⟩, if_pos hij, zb_of e2]
              rfl
            have hm := e' m
            rw [show m + (f + 1) + 1 = (m + f + 1) + 1 by omega]
            exact (zlp_l (B := fun (q : Int × Int × zS) => b_134_91 q.1 q.2.1 q.2.2) hB).trans hm
          · refine ⟨σ, fun m => zlp_r ?_, fun x x0 x1 => by rw [rvs, if_neg hij]; exact hg x x0 x1⟩
            show b_134_91 i j σ = _
            unfold b_134_91
            rw [zg_pos ⟨by omega, by omega⟩, zg_pos ⟨by omega, by omega⟩, if_neg hij]
      obtain ⟨s4, e4, h4⟩ := l3 6 s3 (swp e a b) (a + 1) (n - 1) (by omega) (by omega) (by omega) (by omega) (by omega) h3
      have hF := zF_big
      have e4' := e4 (zF - 7)
      rw [show zF - 7 + 6 + 1 = zF by omega] at e4'
      refine ⟨s4, ?_, fun x x0 x1 => by rw [h4 x x0 x1, he']⟩
      unfold f_134 j_134_39 j_134_75
      rw [hn, zo_of l1, zg_pos ⟨by omega, by omega⟩, if_neg hneg, zo_of l2, zb_of e135, zo_of e4']
/-- the table goes from each to the next -/
def stepOk (n : Int) : List Int → Bool
  | [] => true
  | [c] => (nxt n (dgI n c)).isNone
  | c :: d :: l => (match nxt n (dgI n c) with
    | some e => (List.range n.toNat).all (fun a : Nat => decide (e a = dgI n d a))
    | none => false) && stepOk n (d :: l)
theorem stepOk_cps {n : Int} (n1 : 1 ≤ n) (n5 : n ≤ 5) : stepOk n (cps n) = true := by
  rcases gt_ex n1 n5 with rfl | rfl | rfl | rfl | rfl <;> decide +kernel
theorem stepOk_tl {n c : Int} {l : List Int} (h : stepOk n (c :: l) = true) : stepOk n l = true := by
  cases l with
  | nil => rfl
  | cons d l =>
    rw [stepOk, Bool.and_eq_true] at h
    exact h.2
theorem stepOk_suf {n : Int} : ∀ {a l : List Int}, stepOk n (a ++ l) = true → stepOk n l = true
  | [], _, h => h
  | _ :: _, _, h => stepOk_suf (stepOk_tl h)
theorem stepOk_last {n c : Int} (h : stepOk n [c] = true) : nxt n (dgI n c) = none := by
  rw [stepOk] at h
  cases hx : nxt n (dgI n c)
  · rfl
  · rw [hx] at h; cases h
theorem stepOk_next {n c d : Int} {l : List Int} (h : stepOk n (c :: d :: l) = true) : ∃ e, nxt n (dgI n c) = some e ∧ ∀ x, 0 ≤ x → x < n → e x = dgI n d x := by
  rw [stepOk, Bool.and_eq_true] at h
  cases hx : nxt n (dgI n c) with
  | none => rw [hx] at h; cases h.1
  | some e =>
    rw [hx] at h
    refine ⟨e, rfl, fun x x0 x1 => ?_⟩
    have := List.all_eq_true.mp h.1 x.toNat (List.mem_range.mpr (by omega))
    rw [decide_eq_true_iff, show ((x.toNat : Nat) : Int) = x by omega] at this
    exact this
/-- a number is the code of a renaming -/
def pcN (n k : Nat) : Bool := (List.range n).all (fun j => (List.range n).any (fun a => Nat.beq (k / n ^ a % n) j))
theorem cps_all {n : Int} (n1 : 1 ≤ n) (n5 : n ≤ 5) : (((List.range (n.toNat ^ n.toNat)).filter (pcN n.toNat)).map (fun k : Nat => (k : Int))).isPerm (cps n) = true := by
  rcases gt_ex n1 n5 with rfl | rfl | rfl | rfl | rfl <;> decide +kernel
def ivOk (n : Int) (l : List Int) : Bool := l.all (fun c => l.any (fun d => (List.range n.toNat).all (fun a : Nat => decide (dgI n d (dgI n c a) = a) && decide (dgI n c (dgI n d a) = a))))
theorem ivOk_cps {n : Int} (n1 : 1 ≤ n) (n5 : n ≤ 5) : ivOk n (cps n) = true := by
  rcases gt_ex n1 n5 with rfl | rfl | rfl | rfl | rfl <;> decide +kernel
theorem cps_first {n : Int} (n1 : 1 ≤ n) (n5 : n ≤ 5) : ∃ c l, cps n = c :: l ∧ ∀ x, 0 ≤ x → x < n → dgI n c x = x := by
  rcases gt_ex n1 n5 with rfl | rfl | rfl | rfl | rfl
  · exact ⟨_, _, rfl, fun x x0 x1 => by have : x = 0 := by omega
                                        subst this; decide⟩
  · exact ⟨_, _, rfl, fun x x0 x1 => by have : x = 0 ∨ x = 1 := by omega
                                        rcases this with rfl | rfl <;> decide⟩
  · exact ⟨_, _, rfl, fun x x0 x1 => by have : x = 0 ∨ x = 1 ∨ x = 2 := by omega
                                        rcases this with rfl | rfl | rfl <;> decide⟩
  · exact ⟨_, _, rfl, fun x x0 x1 => by have : x = 0 ∨ x = 1 ∨ x = 2 ∨ x = 3 := by omega
                                        rcases this with rfl | rfl | rfl | rfl <;> decide⟩
  · exact ⟨_, _, rfl, fun x x0 x1 => by have : x = 0 ∨ x = 1 ∨ x = 2 ∨ x = 3 ∨ x = 4 := by omega
                                        rcases this with rfl | rfl | rfl | rfl | rfl <;> decide⟩
theorem cps_len {n : Int} (n1 : 1 ≤ n) (n5 : n ≤ 5) : (cps n).length ≤ 120 := by
  rcases gt_ex n1 n5 with rfl | rfl | rfl | rfl | rfl <;> decide +kernel
theorem dgI_b {n c : Int} (n1 : 1 ≤ n) (a : Int) : 0 ≤ dgI n c a ∧ dgI n c a < n := ⟨Int.emod_nonneg _ (by omega), Int.emod_lt_of_pos _ (by omega)⟩
theorem cps_iv {n c : Int} (n1 : 1 ≤ n) (n5 : n ≤ 5) (hc : c ∈ cps n) : ∃ d, d ∈ cps n ∧ PM n (dgI n c) (dgI n d) := by
  have h := List.all_eq_true.mp (ivOk_cps n1 n5) c hc
  obtain ⟨d, hd, h2⟩ := List.any_eq_true.mp h
  refine ⟨d, hd, n1, fun x x0 x1 => ?_⟩
  have h3 := List.all_eq_true.mp h2 x.toNat (List.mem_range.mpr (by omega))
  rw [Bool.and_eq_true, decide_eq_true_iff, decide_eq_true_iff, show ((x.toNat : Nat) : Int) = x by omega] at h3
  obtain ⟨b1, b2⟩ := dgI_b (c := c) n1 x
  obtain ⟨b3, b4⟩ := dgI_b (c := d) n1 x
  exact ⟨b1, b2, b3, b4, h3.2, h3.1⟩
/-- in the table: a number below n to the n, with all digits -/
theorem cps_mem {n c : Int} (n1 : 1 ≤ n) (n5 : n ≤ 5) : c ∈ cps n ↔ ∃ k : Nat, c = k ∧ k < n.toNat ^ n.toNat ∧ pcN n.toNat k = true := by
  have hp := List.isPerm_iff.mp (cps_all n1 n5)
  rw [← hp.mem_iff, List.mem_map]
  constructor
  · rintro ⟨k, hk, e⟩
    rw [List.mem_filter, List.mem_range] at hk
    exact ⟨k, e.symm, hk.1, hk.2⟩
  · rintro ⟨k, e, h1, h2⟩
    exact ⟨k, by rw [List.mem_filter, List.mem_range]; exact ⟨h1, h2⟩, e.symm⟩
theorem dg_nat {n : Int} {k a : Nat} (n1 : 1 ≤ n) : dgI n (k : Int) (a : Int) = ((k / n.toNat ^ a % n.toNat : Nat) : Int) := by
  unfold dgI
  rw [show ((a : Int)).toNat = a from rfl, Int.natCast_emod, Int.natCast_ediv, Int.natCast_pow, show ((n.toNat : Nat) : Int) = n by omega]
theorem pcN_iff {n : Int} {k : Nat} (n1 : 1 ≤ n) : pcN n.toNat k = true ↔ ∀ j, 0 ≤ j → j < n → ∃ a, 0 ≤ a ∧ a < n ∧ dgI n k a = j := by
  unfold pcN
  rw [List.all_eq_true]
  constructor
  · intro h j j0 j1
    obtain ⟨a, ha, h2⟩ := List.any_eq_true.mp (h j.toNat (List.mem_range.mpr (by omega)))
    have h3 := Nat.eq_of_beq_eq_true h2
    have := List.mem_range.mp ha
    refine ⟨a, by omega, by omega, ?_⟩
    rw [dg_nat n1, h3]
    omega
  · intro h j hj
    have := List.mem_range.mp hj
    obtain ⟨a, a0, a1, h2⟩ := h j (by omega) (by omega)
    refine List.any_eq_true.mpr ⟨a.toNat, List.mem_range.mpr (by omega), ?_⟩
    rw [show a = ((a.toNat : Nat) : Int) by omega, dg_nat n1] at h2
    have h3 : k / n.toNat ^ a.toNat % n.toNat = j := by omega
    rw [h3]
    exact Nat.beq_refl j
