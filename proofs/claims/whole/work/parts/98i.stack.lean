/-! WHAT STANDS OPEN while a text is read: frames of class and reference. -/
/-- kind, part, place, name, left arity, left denotation, where it begins and ends in both codes -/
def Fr : Type := Int × Int × Int × BitVec 64 × Int × Dn × Int × Int × Int × Int
abbrev Fr.k (f : Fr) : Int := f.1
abbrev Fr.p (f : Fr) : Int := f.2.1
abbrev Fr.pl (f : Fr) : Int := f.2.2.1
abbrev Fr.nm (f : Fr) : BitVec 64 := f.2.2.2.1
abbrev Fr.r (f : Fr) : Int := f.2.2.2.2.1
abbrev Fr.D (f : Fr) : Dn := f.2.2.2.2.2.1
abbrev Fr.ca (f : Fr) : Int := f.2.2.2.2.2.2.1
abbrev Fr.ce (f : Fr) : Int := f.2.2.2.2.2.2.2.1
abbrev Fr.ra (f : Fr) : Int := f.2.2.2.2.2.2.2.2.1
abbrev Fr.re (f : Fr) : Int := f.2.2.2.2.2.2.2.2.2
abbrev mkF (k p pl : Int) (nm : BitVec 64) (r : Int) (D : Dn) (ca ce ra re : Int) : Fr := (k, p, pl, nm, r, D, ca, ce, ra, re)
/-- how many variables are bound, and by which of the open things -/
def Lv : List Fr → Int
  | [] => 0
  | f :: S => Lv S + (if f.p = 2 then 1 else 0)
def slo : List Fr → Int → Int
  | [] => fun _ => 0
  | f :: S => fun j => if f.p = 2 ∧ j = Lv S then (S.length : Int) else slo S j
/-- where the codes of all that is open end -/
def cE : List Fr → Int
  | [] => 0
  | f :: _ => f.ce
def rE : List Fr → Int
  | [] => 0
  | f :: _ => f.re
abbrev isJ (f : Fr) : Prop := f.p = 0 ∧ 20 ≤ f.k ∧ f.k ≤ 27
/-- how many operands wait; how many instructions will still be written -/
def jn : List Fr → Int
  | [] => 0
  | f :: S => jn S + (if isJ f then 1 else 0)
def pnC : List Fr → Int
  | [] => 0
  | f :: S => pnC S + (if f.p = 0 ∧ f.k ≠ 10 ∧ f.k ≠ 11 ∧ f.k ≠ 12 ∧ f.k ≠ 35 ∧ f.k ≠ 37 then 1 else 0)
def pnM : List Fr → Int
  | [] => 0
  | f :: S => pnM S + (if f.p = 0 ∧ (f.k = 35 ∨ f.k = 37) then 0 else 1)
/-- a formula must be there -/
def AW (fm : Int) : List Fr → Prop
  | [] => fm = 1
  | f :: _ => f.p = 2 ∨ (f.p = 0 ∧ (9 ≤ f.k ∧ f.k ≤ 13 ∨ f.k = 37))
def vv (v : Wd) (S : List Fr) : Wd := (v.n, v.R, v.ra, slo S, v.K, v.W, v.F)
abbrev bk (k : Int) : Prop := (4 ≤ k ∧ k ≤ 8) ∨ k = 39
def BC (cd : Cd) (f : Fr) (S : List Fr) : Prop := cd.op f.ca = 45 ∧ cd.arg f.ca = S.length ∧ cd.sg f.ca = f.k ∧ cd.us f.ca = 0 ∧ cd.mm f.ca = -1
/-- what an open thing means -/
def FS (v : Wd) (cd : Cd) (rc : Rc) (fm : Int) (S : List Fr) (f : Fr) : Prop :=
  (f.ca = cE S ∧ f.ra = rE S ∧ f.ca ≤ f.ce ∧ f.ra ≤ f.re) ∧
  ((f.p = 0 ∧ ((20 ≤ f.k ∧ f.k ≤ 27) ∨ f.k = 14 ∨ f.k = 32) ∧ 1 ≤ f.r ∧ Sg (vv v S) cd rc S.length (Lv S) f.ca f.ce f.ra f.re f.r f.D ∧ (f.k = 14 ∨ f.k = 32 → AW fm S)) ∨
   (f.p = 0 ∧ f.k = 13 ∧ f.r = 0 ∧ Sg (vv v S) cd rc S.length (Lv S) f.ca f.ce f.ra f.re 0 f.D ∧ AW fm S) ∨
   (f.p = 0 ∧ (10 ≤ f.k ∧ f.k ≤ 12) ∧ (f.ca < f.ce ∧ cd.op (f.ce - 1) = f.k) ∧ Sg (vv v S) cd rc S.length (Lv S) f.ca (f.ce - 1) f.ra f.re 0 f.D ∧ AW fm S) ∨
   (f.p = 0 ∧ (28 ≤ f.k ∧ f.k ≤ 30 ∨ f.k = 35) ∧ f.ce = f.ca ∧ f.re = f.ra) ∨
   (f.p = 0 ∧ (5 ≤ f.k ∧ f.k ≤ 9 ∨ f.k = 31 ∨ f.k = 37) ∧ (f.ce = f.ca ∧ f.re = f.ra) ∧ AW fm S) ∨
   (f.p = 1 ∧ bk f.k ∧ (f.ce = f.ca + 1 ∧ f.re = f.ra) ∧ BC cd f S ∧ (f.k ≠ 39 → AW fm S)) ∨
   (f.p = 2 ∧ bk f.k ∧ (f.ca < f.ce ∧ f.ra < f.re) ∧ (BC cd f S ∧ cd.md f.ca = f.ce) ∧ Sg (vv v S) cd rc (S.length + 1) (Lv S) (f.ca + 1) f.ce f.ra (f.re - 1) 1 f.D ∧ rc.1 (f.re - 1) = 3 ∧ (f.k ≠ 39 → AW fm S)))
def SFr (v : Wd) (cd : Cd) (rc : Rc) (fm : Int) : List Fr → Prop
  | [] => True
  | f :: S => SFr v cd rc fm S ∧ FS v cd rc fm S f
/-- more memos -/
def vLe (v v' : Wd) : Prop := v'.n = v.n ∧ v'.R = v.R ∧ v'.ra = v.ra ∧ 0 ≤ v.K ∧ v.K ≤ v'.K ∧ ∀ k, 0 ≤ k → k < v.K → v'.W k = v.W k ∧ v'.F k = v.F k
def cdE (cd cd' : Cd) (k : Int) : Prop := cd'.op k = cd.op k ∧ cd'.arg k = cd.arg k ∧ cd'.sg k = cd.sg k ∧ cd'.md k = cd.md k ∧ cd'.en k = cd.en k ∧ cd'.us k = cd.us k ∧ cd'.mm k = cd.mm k
def rcE (rc rc' : Rc) (k : Int) : Prop := rc'.1 k = rc.1 k ∧ rc'.2.1 k = rc.2.1 k ∧ rc'.2.2 k = rc.2.2 k
theorem vLe.rf {v : Wd} (h : 0 ≤ v.K) : vLe v v := ⟨rfl, rfl, rfl, h, Int.le_refl _, fun _ _ _ => ⟨rfl, rfl⟩⟩
theorem Sg.up {v v' : Wd} {S : List Fr} {cd cd' : Cd} {rc rc' : Rc} {dp L a b a' b' r : Int} {D : Dn} (h : Sg (vv v S) cd rc dp L a b a' b' r D) (hv : vLe v v') (hc : ∀ k, a ≤ k → k < b → cdE cd cd' k) (hr : ∀ k, a' ≤ k → k < b' → rcE rc rc' k) : Sg (vv v' S) cd' rc' dp L a b a' b' r D :=
  h.mono hv.1 hv.2.1 hv.2.2.1 (fun _ _ _ => rfl) hv.2.2.2.1 hv.2.2.2.2.1 hv.2.2.2.2.2 hc hr
theorem BC.up {cd cd' : Cd} {f : Fr} {S : List Fr} (h : BC cd f S) (hc : cdE cd cd' f.ca) : BC cd' f S := by
  obtain ⟨h1, h2, h3, h4, h5⟩ := h
  obtain ⟨c1, c2, c3, -, -, c6, c7⟩ := hc
  exact ⟨by rw [c1]; exact h1, by rw [c2]; exact h2, by rw [c3]; exact h3, by rw [c6]; exact h4, by rw [c7]; exact h5⟩
theorem FS.up {v v' : Wd} {S : List Fr} {cd cd' : Cd} {rc rc' : Rc} {fm : Int} {f : Fr} (h : FS v cd rc fm S f) (hv : vLe v v') (hc : ∀ k, k < f.ce → cdE cd cd' k) (hr : ∀ k, k < f.re → rcE rc rc' k) : FS v' cd' rc' fm S f := by
  obtain ⟨h0, h⟩ := h
  refine ⟨h0, ?_⟩
  rcases h with ⟨h1, h2, h3, h4, h5⟩ | ⟨h1, h2, h3, h4, h5⟩ | ⟨h1, h2, h3, h4, h5⟩ | h1 | h1 | ⟨h1, h2, h3, h4, h5⟩ | ⟨h1, h2, h3, h4, h5, h6, h7⟩
  · exact Or.inl ⟨h1, h2, h3, h4.up hv (fun k _ k1 => hc k k1) (fun k _ k1 => hr k k1), h5⟩
  · exact Or.inr (Or.inl ⟨h1, h2, h3, h4.up hv (fun k _ k1 => hc k k1) (fun k _ k1 => hr k k1), h5⟩)
  · exact Or.inr (Or.inr (Or.inl ⟨h1, h2, ⟨h3.1, by rw [(hc _ (by omega)).1]; exact h3.2⟩, h4.up hv (fun k _ k1 => hc k (by omega)) (fun k _ k1 => hr k k1), h5⟩))
  · exact Or.inr (Or.inr (Or.inr (Or.inl h1)))
  · exact Or.inr (Or.inr (Or.inr (Or.inr (Or.inl h1))))
  · exact Or.inr (Or.inr (Or.inr (Or.inr (Or.inr (Or.inl ⟨h1, h2, h3, h4.up (hc _ (by omega)), h5⟩)))))
  · exact Or.inr (Or.inr (Or.inr (Or.inr (Or.inr (Or.inr ⟨h1, h2, h3, ⟨h4.1.up (hc _ (by omega)), by rw [(hc _ (by omega)).2.2.2.1]; exact h4.2⟩, h5.up hv (fun k _ k1 => hc k k1) (fun k _ k1 => hr k (by omega)), by rw [(hr _ (by omega)).1]; exact h6, h7⟩)))))
theorem SFr.up {v v' : Wd} {cd cd' : Cd} {rc rc' : Rc} {fm : Int} (hv : vLe v v') : ∀ {S : List Fr}, SFr v cd rc fm S → (∀ k, k < cE S → cdE cd cd' k) → (∀ k, k < rE S → rcE rc rc' k) → SFr v' cd' rc' fm S
  | [], _, _, _ => trivial
  | f :: S, h, hc, hr => by
    obtain ⟨h1, h2⟩ := h
    have h0 := h2.1
    exact ⟨SFr.up hv h1 (fun k hk => hc k (by show k < f.ce; omega)) (fun k hk => hr k (by show k < f.re; omega)), h2.up hv hc hr⟩
theorem SFr.pos {v : Wd} {cd : Cd} {rc : Rc} {fm : Int} : ∀ {S : List Fr}, SFr v cd rc fm S → 0 ≤ cE S ∧ 0 ≤ rE S
  | [], _ => ⟨Int.le_refl _, Int.le_refl _⟩
  | f :: S, h => by
    have h1 := SFr.pos h.1
    have h0 := h.2.1
    show 0 ≤ f.ce ∧ 0 ≤ f.re
    omega
theorem Lv_b : ∀ S : List Fr, 0 ≤ Lv S ∧ Lv S ≤ S.length
  | [] => ⟨Int.le_refl _, Int.le_refl _⟩
  | f :: S => by
    have := Lv_b S
    rw [Lv, List.length_cons]
    split <;> omega
theorem jn_b : ∀ S : List Fr, 0 ≤ jn S ∧ jn S ≤ S.length
  | [] => ⟨Int.le_refl _, Int.le_refl _⟩
  | f :: S => by
    have := jn_b S
    rw [jn, List.length_cons]
    split <;> omega
theorem pn_b : ∀ S : List Fr, 0 ≤ pnC S ∧ 0 ≤ pnM S
  | [] => ⟨Int.le_refl _, Int.le_refl _⟩
  | f :: S => by
    have := pn_b S
    rw [pnC, pnM]
    split <;> split <;> omega
theorem slo_b : ∀ S : List Fr, ∀ j, 0 ≤ j → j < Lv S → 0 ≤ slo S j ∧ slo S j < S.length
  | [], j, h0, h1 => by
    have : j < (0 : Int) := h1
    omega
  | f :: S, j, h0, h1 => by
    rw [Lv] at h1
    rw [slo, List.length_cons]
    dsimp only
    by_cases h : f.p = 2 ∧ j = Lv S
    · rw [if_pos h]; omega
    · rw [if_neg h]
      have := slo_b S j h0 (by split at h1 <;> omega)
      omega
theorem slo_inj : ∀ S : List Fr, ∀ i j, 0 ≤ i → i < Lv S → 0 ≤ j → j < Lv S → slo S i = slo S j → i = j
  | [], i, j, h0, h1, _, _, _ => by
    have : i < (0 : Int) := h1
    omega
  | f :: S, i, j, h0, h1, h2, h3, h => by
    rw [Lv] at h1 h3
    rw [slo] at h
    by_cases hp : f.p = 2
    · rw [if_pos hp] at h1 h3
      by_cases hi : i = Lv S
      · by_cases hj : j = Lv S
        · omega
        · have := slo_b S j h2 (by omega)
          dsimp only at h
          rw [if_pos ⟨hp, hi⟩, if_neg (fun h => hj h.2)] at h
          omega
      · have hb := slo_b S i h0 (by omega)
        dsimp only at h
        rw [if_neg (fun h => hi h.2)] at h
        by_cases hj : j = Lv S
        · rw [if_pos ⟨hp, hj⟩] at h
          omega
        · rw [if_neg (fun h => hj h.2)] at h
          exact slo_inj S i j h0 (by omega) h2 (by omega) h
    · rw [if_neg hp] at h1 h3
      dsimp only at h
      rw [if_neg (fun h => hp h.1), if_neg (fun h => hp h.1)] at h
      exact slo_inj S i j h0 (by omega) h2 (by omega) h
/-- the class's rows of open things -/
def FC (σ : zS) (i : Int) (f : Fr) : Prop :=
  gI σ 11 i = f.k ∧ gI σ 12 i = f.p ∧ gI σ 13 i = f.pl ∧ (f.p = 0 → (20 ≤ f.k ∧ f.k ≤ 27) ∨ f.k = 14 ∨ f.k = 32 → gI σ 14 i = f.r) ∧ (f.p = 0 → 10 ≤ f.k → f.k ≤ 12 → gI σ 15 i = f.ce - 1) ∧ (f.p ≠ 0 → gI σ 15 i = f.ca)
def CFr (σ : zS) : List Fr → Prop
  | [] => True
  | f :: S => CFr σ S ∧ FC σ S.length f ∧ (f.p ≠ 0 → gJ σ 16 S.length = f.nm)
/-- the same as the reference numbers it -/
def mkd (f : Fr) : Int := if f.p = 1 then (if f.k = 39 then 64 else 62) else if f.p = 2 then (if f.k = 39 then 65 else 63) else if f.k = 14 ∨ f.k = 32 then 68 else if 5 ≤ f.k ∧ f.k ≤ 8 then 106 else if f.k = 31 then 66 else km f.k
def FM (τ : zS) (S : List Fr) (f : Fr) : Prop :=
  gI τ 189 (S.length + 1) = mkd f ∧ gI τ 190 (S.length + 1) = f.pl ∧ (f.p = 0 → f.k = 14 ∨ f.k = 32 → gI τ 191 (S.length + 1) = f.r ∧ gI τ 193 (S.length + 1) = km f.k) ∧ (f.p = 0 → 5 ≤ f.k → f.k ≤ 8 → gI τ 193 (S.length + 1) = f.k - 4) ∧ (f.p ≠ 0 → gI τ 193 (S.length + 1) = if f.k = 39 then 5 else f.k - 4) ∧ (f.p = 2 → gI τ 192 (S.length + 1) = f.re - 1) ∧ (isJ f → gI τ 195 (jn S) = f.r)
def MFr (τ : zS) : List Fr → Prop
  | [] => True
  | f :: S => MFr τ S ∧ FM τ S f ∧ (f.p ≠ 0 → gJ τ 194 (S.length + 1) = f.nm)
theorem CFr.up {σ σ' : zS} : ∀ {S : List Fr}, CFr σ S → (∀ i : Int, 0 ≤ i → i < S.length → gI σ' 11 i = gI σ 11 i ∧ gI σ' 12 i = gI σ 12 i ∧ gI σ' 13 i = gI σ 13 i ∧ gI σ' 14 i = gI σ 14 i ∧ gI σ' 15 i = gI σ 15 i ∧ gJ σ' 16 i = gJ σ 16 i) → CFr σ' S
  | [], _, _ => trivial
  | f :: S, h, he => by
    obtain ⟨h1, h2, h3⟩ := h
    have hl : ((f :: S).length : Int) = S.length + 1 := by rw [List.length_cons]; omega
    obtain ⟨e1, e2, e3, e4, e5, e6⟩ := he S.length (by omega) (by omega)
    refine ⟨CFr.up h1 (fun i i0 i1 => he i i0 (by omega)), ?_, by rw [e6]; exact h3⟩
    unfold FC at h2 ⊢
    rw [e1, e2, e3, e4, e5]
    exact h2
theorem MFr.up {τ τ' : zS} : ∀ {S : List Fr}, MFr τ S → (∀ i : Int, 1 ≤ i → i ≤ S.length → gI τ' 189 i = gI τ 189 i ∧ gI τ' 190 i = gI τ 190 i ∧ gI τ' 191 i = gI τ 191 i ∧ gI τ' 192 i = gI τ 192 i ∧ gI τ' 193 i = gI τ 193 i ∧ gJ τ' 194 i = gJ τ 194 i) → (∀ i : Int, 0 ≤ i → i < jn S → gI τ' 195 i = gI τ 195 i) → MFr τ' S
  | [], _, _, _ => trivial
  | f :: S, h, he, hj => by
    obtain ⟨h1, h2, h3⟩ := h
    have hl : ((f :: S).length : Int) = S.length + 1 := by rw [List.length_cons]; omega
    obtain ⟨e1, e2, e3, e4, e5, e6⟩ := he (S.length + 1) (by omega) (by omega)
    have hb := jn_b S
    refine ⟨MFr.up h1 (fun i i0 i1 => he i i0 (by omega)) (fun i i0 i1 => hj i i0 (by rw [jn]; split <;> omega)), ?_, by rw [e6]; exact h3⟩
    unfold FM at h2 ⊢
    rw [e1, e2, e3, e4, e5]
    obtain ⟨a1, a2, a3, a4, a5, a6, a7⟩ := h2
    refine ⟨a1, a2, a3, a4, a5, a6, fun hJ => ?_⟩
    rw [hj (jn S) hb.1 (by rw [jn, if_pos hJ]; omega)]
    exact a7 hJ
