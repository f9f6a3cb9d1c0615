/-! FRAMES (2). By program. -/
theorem frb_27_4 {v1 : Int} {v2 : Int} {s : zS} {q : (Int × Int × zS) ⊕ (Int × zS)} (h : b_27_4 v1 v2 s = some q) : zfr 19239260838083241802870625048898248928261591440656956380834163556656095378008990142613071030139516279435820793920 s (Sum.elim (fun e : (Int × Int × zS) => e.2.2) (fun e : (Int × zS) => e.2) q) := by
  unfold b_27_4 at h
  obtain ⟨r2, h1, h⟩ := zo_some h
  obtain ⟨hg3, h⟩ := zg_some h
  obtain ⟨hg4, h⟩ := zg_some h
  by_cases hc5 : v2 < r2
  · rw [if_pos hc5] at h
    obtain ⟨r7, h6, h⟩ := zo_some h
    obtain ⟨r9, s10, h8, h⟩ := zb_some h
    have f11 := zfr_tr (zfr_rf _ _) (zfr_sub (m2 := 19239260838083241802870625048898248928261591440656956380834163556656095378008990142613071030139516279435820793920) rfl (fr_26 h8))
    obtain ⟨r13, h12, h⟩ := zo_some h
    cases h
    exact f11
  · rw [if_neg hc5] at h
    cases h
    exact (zfr_rf _ _)
theorem frl_27_4 {n : Nat} {e0 : (Int × Int × zS)} {t : (Int × zS)} (h : zlp (fun (q : Int × Int × zS) => b_27_4 q.1 q.2.1 q.2.2) n e0 = some t) : zfr 19239260838083241802870625048898248928261591440656956380834163556656095378008990142613071030139516279435820793920 ((fun e : (Int × Int × zS) => e.2.2) e0) ((fun e : (Int × zS) => e.2) t) := zfr_lp (f := (fun e : (Int × Int × zS) => e.2.2)) (g := (fun e : (Int × zS) => e.2)) (fun e q h1 => frb_27_4 h1) n e0 t h
theorem fr_27 {s : zS} {q : (Int × zS)} (h : f_27 s = some q) : zfr 19239260838083241802870625048898248928261591440656956380834163556656095378008990142613071030139516279435820793920 s q.2 := by
  unfold f_27 at h
  obtain ⟨e1, h2, h⟩ := zo_some h
  have f3 : zfr 19239260838083241802870625048898248928261591440656956380834163556656095378008990142613071030139516279435820793920 s e1.2 := zfr_tr (zfr_rf _ _) (frl_27_4 h2)
  cases h
  exact f3
theorem frb_130_15 {v1 : Int} {s : zS} {q : (Int × zS) ⊕ (zS)} (h : b_130_15 v1 s = some q) : zfr 14775752323647929704604640037553855176904902226424542500480610026592145664311453979280349845581843365302485697691648 s (Sum.elim (fun e : (Int × zS) => e.2) (fun e : (zS) => e) q) := by
  unfold b_130_15 at h
  obtain ⟨hg1, h⟩ := zg_some h
  by_cases hc2 : v1 < 5
  · rw [if_pos hc2] at h
    obtain ⟨hg3, h⟩ := zg_some h
    cases h
    exact (zfr_tr (zfr_rf _ _) (zfr_IA rfl rfl))
  · rw [if_neg hc2] at h
    cases h
    exact (zfr_rf _ _)
theorem frl_130_15 {n : Nat} {e0 : (Int × zS)} {t : (zS)} (h : zlp (fun (q : Int × zS) => b_130_15 q.1 q.2) n e0 = some t) : zfr 14775752323647929704604640037553855176904902226424542500480610026592145664311453979280349845581843365302485697691648 ((fun e : (Int × zS) => e.2) e0) ((fun e : (zS) => e) t) := zfr_lp (f := (fun e : (Int × zS) => e.2)) (g := (fun e : (zS) => e)) (fun e q h1 => frb_130_15 h1) n e0 t h
theorem fr_135 {v1 : Int} {v2 : Int} {s : zS} {q : (Unit × zS)} (h : f_135 v1 v2 s = some q) : zfr 67108864 s q.2 := by
  unfold f_135 at h
  obtain ⟨hg1, h⟩ := zg_some h
  obtain ⟨hg2, h⟩ := zg_some h
  cases h
  exact (zfr_tr (zfr_tr (zfr_rf _ _) (zfr_IA rfl rfl)) (zfr_IA rfl rfl))
theorem frb_134_91 {v4 : Int} {v5 : Int} {s : zS} {q : (Int × Int × zS) ⊕ (zS)} (h : b_134_91 v4 v5 s = some q) : zfr 67108864 s (Sum.elim (fun e : (Int × Int × zS) => e.2.2) (fun e : (zS) => e) q) := by
  unfold b_134_91 at h
  obtain ⟨hg1, h⟩ := zg_some h
  obtain ⟨hg2, h⟩ := zg_some h
  by_cases hc3 : v4 < v5
  · rw [if_pos hc3] at h
    obtain ⟨r5, s6, h4, h⟩ := zb_some h
    have f7 := zfr_tr (zfr_rf _ _) (zfr_sub (m2 := 67108864) rfl (fr_135 h4))
    cases h
    exact f7
  · rw [if_neg hc3] at h
    cases h
    exact (zfr_rf _ _)
theorem frl_134_91 {n : Nat} {e0 : (Int × Int × zS)} {t : (zS)} (h : zlp (fun (q : Int × Int × zS) => b_134_91 q.1 q.2.1 q.2.2) n e0 = some t) : zfr 67108864 ((fun e : (Int × Int × zS) => e.2.2) e0) ((fun e : (zS) => e) t) := zfr_lp (f := (fun e : (Int × Int × zS) => e.2.2)) (g := (fun e : (zS) => e)) (fun e q h1 => frb_134_91 h1) n e0 t h
theorem frj_134_75 {v1 : Int} {v2 : Int} {v3 : Int} {s : zS} {q : (Int × zS)} (h : j_134_75 v1 v2 v3 s = some q) : zfr 67108864 s q.2 := by
  unfold j_134_75 at h
  obtain ⟨r2, s3, h1, h⟩ := zb_some h
  have f4 := zfr_tr (zfr_rf _ _) (zfr_sub (m2 := 67108864) rfl (fr_135 h1))
  obtain ⟨e5, h6, h⟩ := zo_some h
  have f7 : zfr 67108864 s e5 := zfr_tr f4 (frl_134_91 h6)
  cases h
  exact f7
theorem frj_134_39 {v1 : Int} {v2 : Int} {s : zS} {q : (Int × zS)} (h : j_134_39 v1 v2 s = some q) : zfr 67108864 s q.2 := by
  unfold j_134_39 at h
  obtain ⟨hg1, h⟩ := zg_some h
  by_cases hc2 : v2 < 0
  · rw [if_pos hc2] at h
    cases h
    exact (zfr_rf _ _)
  · rw [if_neg hc2] at h
    obtain ⟨e3, h4, h⟩ := zo_some h
    exact zfr_tr (zfr_rf _ _) (frj_134_75 h)
theorem fr_134 {s : zS} {q : (Int × zS)} (h : f_134 s = some q) : zfr 67108864 s q.2 := by
  unfold f_134 at h
  obtain ⟨e1, h2, h⟩ := zo_some h
  exact zfr_tr (zfr_rf _ _) (frj_134_39 h)
theorem frb_133_2 {v1 : Int} {s : zS} {q : (Int × zS) ⊕ (zS)} (h : b_133_2 v1 s = some q) : zfr 9850501549098619803069760025035903451269934817616361666987073351061430442874302652853566563721228910201657131794432 s (Sum.elim (fun e : (Int × zS) => e.2) (fun e : (zS) => e) q) := by
  unfold b_133_2 at h
  obtain ⟨hg1, h⟩ := zg_some h
  by_cases hc2 : v1 < (gI s 1 8)
  · rw [if_pos hc2] at h
    obtain ⟨hg3, h⟩ := zg_some h
    obtain ⟨hg4, h⟩ := zg_some h
    obtain ⟨hg5, h⟩ := zg_some h
    obtain ⟨r7, h6, h⟩ := zo_some h
    obtain ⟨r9, h8, h⟩ := zo_some h
    obtain ⟨hg10, h⟩ := zg_some h
    cases h
    exact (zfr_tr (zfr_rf _ _) (zfr_IA rfl rfl))
  · rw [if_neg hc2] at h
    cases h
    exact (zfr_rf _ _)
theorem frl_133_2 {n : Nat} {e0 : (Int × zS)} {t : (zS)} (h : zlp (fun (q : Int × zS) => b_133_2 q.1 q.2) n e0 = some t) : zfr 9850501549098619803069760025035903451269934817616361666987073351061430442874302652853566563721228910201657131794432 ((fun e : (Int × zS) => e.2) e0) ((fun e : (zS) => e) t) := zfr_lp (f := (fun e : (Int × zS) => e.2)) (g := (fun e : (zS) => e)) (fun e q h1 => frb_133_2 h1) n e0 t h
theorem fr_133 {s : zS} {q : (Unit × zS)} (h : f_133 s = some q) : zfr 9850501549098619803069760025035903451269934817616361666987073351061430442874302652853566563721228910201657131794432 s q.2 := by
  unfold f_133 at h
  obtain ⟨e1, h2, h⟩ := zo_some h
  have f3 : zfr 9850501549098619803069760025035903451269934817616361666987073351061430442874302652853566563721228910201657131794432 s e1 := zfr_tr (zfr_rf _ _) (frl_133_2 h2)
  cases h
  exact (zfr_tr f3 (zfr_I rfl))
theorem frb_130_37 {v1 : Int} {v2 : Int} {s : zS} {q : (Int × Int × zS) ⊕ (zS)} (h : b_130_37 v1 v2 s = some q) : zfr 14775752323647929704604640037553855176904902226424542500480610026592145664311453979280349845581843365302485697691648 s (Sum.elim (fun e : (Int × Int × zS) => e.2.2) (fun e : (zS) => e) q) := by
  unfold b_130_37 at h
  obtain ⟨hg1, h⟩ := zg_some h
  by_cases hc2 : v2 < 120
  · rw [if_pos hc2] at h
    obtain ⟨hg3, h⟩ := zg_some h
    by_cases hc4 : v1 = 0
    · rw [if_pos hc4] at h
      cases h
      exact (zfr_rf _ _)
    · rw [if_neg hc4] at h
      obtain ⟨r6, h5, h⟩ := zo_some h
      obtain ⟨hg7, h⟩ := zg_some h
      by_cases hc8 : r6 = 0
      · rw [if_pos hc8] at h
        obtain ⟨r10, s11, h9, h⟩ := zb_some h
        have f12 := zfr_tr (zfr_rf _ _) (zfr_sub (m2 := 14775752323647929704604640037553855176904902226424542500480610026592145664311453979280349845581843365302485697691648) rfl (fr_134 h9))
        cases h
        exact f12
      · rw [if_neg hc8] at h
        obtain ⟨r14, s15, h13, h⟩ := zb_some h
        have f16 := zfr_tr (zfr_rf _ _) (zfr_sub (m2 := 14775752323647929704604640037553855176904902226424542500480610026592145664311453979280349845581843365302485697691648) rfl (fr_133 h13))
        obtain ⟨r18, s19, h17, h⟩ := zb_some h
        have f20 := zfr_tr f16 (zfr_sub (m2 := 14775752323647929704604640037553855176904902226424542500480610026592145664311453979280349845581843365302485697691648) rfl (fr_134 h17))
        cases h
        exact f20
  · rw [if_neg hc2] at h
    cases h
    exact (zfr_rf _ _)
theorem frl_130_37 {n : Nat} {e0 : (Int × Int × zS)} {t : (zS)} (h : zlp (fun (q : Int × Int × zS) => b_130_37 q.1 q.2.1 q.2.2) n e0 = some t) : zfr 14775752323647929704604640037553855176904902226424542500480610026592145664311453979280349845581843365302485697691648 ((fun e : (Int × Int × zS) => e.2.2) e0) ((fun e : (zS) => e) t) := zfr_lp (f := (fun e : (Int × Int × zS) => e.2.2)) (g := (fun e : (zS) => e)) (fun e q h1 => frb_130_37 h1) n e0 t h
theorem fr_130 {s : zS} {q : (Unit × zS)} (h : f_130 s = some q) : zfr 14775752323647929704604640037553855176904902226424542500480610026592145664311453979280349845581843365302485697691648 s q.2 := by
  unfold f_130 at h
  by_cases hc1 : (gI s 25 1) = 0
  · rw [if_pos hc1] at h
    obtain ⟨e2, h3, h⟩ := zo_some h
    have f4 : zfr 14775752323647929704604640037553855176904902226424542500480610026592145664311453979280349845581843365302485697691648 s e2 := zfr_tr (zfr_tr (zfr_rf _ _) (zfr_I rfl)) (frl_130_15 h3)
    obtain ⟨e5, h6, h⟩ := zo_some h
    have f7 : zfr 14775752323647929704604640037553855176904902226424542500480610026592145664311453979280349845581843365302485697691648 s e5 := zfr_tr f4 (frl_130_37 h6)
    cases h
    exact (zfr_tr f7 (zfr_I rfl))
  · rw [if_neg hc1] at h
    cases h
    exact (zfr_rf _ _)
theorem frb_270_175_6 {w1 : BitVec 64} {v4 : Int} {v3 : Int} {s : zS} {q : (Int × zS) ⊕ (zS)} (h : b_270_175_6 w1 v4 v3 s = some q) : zfr 47890485652059026823698344598447161988085597568237568 s (Sum.elim (fun e : (Int × zS) => e.2) (fun e : (zS) => e) q) := by
  unfold b_270_175_6 at h
  obtain ⟨hg1, h⟩ := zg_some h
  obtain ⟨hg2, h⟩ := zg_some h
  by_cases hc3 : v3 < v4
  · rw [if_pos hc3] at h
    obtain ⟨hg4, h⟩ := zg_some h
    cases h
    exact (zfr_tr (zfr_rf _ _) (zfr_JA rfl rfl))
  · rw [if_neg hc3] at h
    cases h
    exact (zfr_rf _ _)
theorem frl_270_175_6 {w1 : BitVec 64} {v4 : Int} {n : Nat} {e0 : (Int × zS)} {t : (zS)} (h : zlp (fun (q : Int × zS) => b_270_175_6 w1 v4 q.1 q.2) n e0 = some t) : zfr 47890485652059026823698344598447161988085597568237568 ((fun e : (Int × zS) => e.2) e0) ((fun e : (zS) => e) t) := zfr_lp (f := (fun e : (Int × zS) => e.2)) (g := (fun e : (zS) => e)) (fun e q h1 => frb_270_175_6 h1) n e0 t h
theorem fr_270_175 {w1 : BitVec 64} {s : zS} {q : (Unit × zS)} (h : f_270_175 w1 s = some q) : zfr 47890485652059026823698344598447161988085597568237568 s q.2 := by
  unfold f_270_175 at h
  obtain ⟨e1, h2, h⟩ := zo_some h
  have f3 : zfr 47890485652059026823698344598447161988085597568237568 s e1 := zfr_tr (zfr_rf _ _) (frl_270_175_6 h2)
  cases h
  exact f3
theorem frb_136_13 {v1 : Int} {v3 : Int} {v4 : Int} {s : zS} {q : (Int × zS) ⊕ (zS)} (h : b_136_13 v1 v3 v4 s = some q) : zfr 47890485652059026823698344598447161988085597568237568 s (Sum.elim (fun e : (Int × zS) => e.2) (fun e : (zS) => e) q) := by
  unfold b_136_13 at h
  obtain ⟨hg1, h⟩ := zg_some h
  by_cases hc2 : v4 < (gI s 25 2)
  · rw [if_pos hc2] at h
    obtain ⟨e3, h4, h⟩ := zo_some h
    obtain ⟨hg5, h⟩ := zg_some h
    obtain ⟨hg6, h⟩ := zg_some h
    obtain ⟨hg7, h⟩ := zg_some h
    cases h
    exact (zfr_tr (zfr_rf _ _) (zfr_JA rfl rfl))
  · rw [if_neg hc2] at h
    cases h
    exact (zfr_rf _ _)
theorem frl_136_13 {v1 : Int} {v3 : Int} {n : Nat} {e0 : (Int × zS)} {t : (zS)} (h : zlp (fun (q : Int × zS) => b_136_13 v1 v3 q.1 q.2) n e0 = some t) : zfr 47890485652059026823698344598447161988085597568237568 ((fun e : (Int × zS) => e.2) e0) ((fun e : (zS) => e) t) := zfr_lp (f := (fun e : (Int × zS) => e.2)) (g := (fun e : (zS) => e)) (fun e q h1 => frb_136_13 h1) n e0 t h
theorem fr_136 {v1 : Int} {s : zS} {q : (Unit × zS)} (h : f_136 v1 s = some q) : zfr 47890485652059026823698344598447161988085597568237568 s q.2 := by
  unfold f_136 at h
  obtain ⟨e1, h2, h⟩ := zo_some h
  have f3 : zfr 47890485652059026823698344598447161988085597568237568 s e1 := zfr_tr (zfr_rf _ _) (frl_136_13 h2)
  cases h
  exact f3
theorem frb_28_43 {v2 : Int} {w3 : BitVec 64} {v1 : Int} {v5 : Int} {s : zS} {q : (Int × Int × zS) ⊕ (Int × zS)} (h : b_28_43 v2 w3 v1 v5 s = some q) : zfr 14794991584486012946407510662602753425833163817865199456861444238039287411748489793121307515059144869667519086723136 s (Sum.elim (fun e : (Int × Int × zS) => e.2.2) (fun e : (Int × zS) => e.2) q) := by
  unfold b_28_43 at h
  obtain ⟨hg1, h⟩ := zg_some h
  by_cases hc2 : v5 < 64
  · rw [if_pos hc2] at h
    by_cases hc3 : w3 = (0#64)
    · rw [if_pos hc3] at h
      cases h
      exact (zfr_rf _ _)
    · rw [if_neg hc3] at h
      obtain ⟨hg4, h⟩ := zg_some h
      by_cases hc5 : (((w3 &&& ((gJ s 175 v2) ^^^ (18446744073709551615#64))) >>> zshl v5) &&& (1#64)) = (0#64)
      · rw [if_pos hc5] at h
        cases h
        exact (zfr_rf _ _)
      · rw [if_neg hc5] at h
        obtain ⟨r7, s8, h6, h⟩ := zb_some h
        have f9 := zfr_tr (zfr_rf _ _) (zfr_sub (m2 := 14794991584486012946407510662602753425833163817865199456861444238039287411748489793121307515059144869667519086723136) rfl (fr_136 h6))
        cases h
        exact f9
  · rw [if_neg hc2] at h
    cases h
    exact (zfr_rf _ _)
theorem frl_28_43 {v2 : Int} {w3 : BitVec 64} {n : Nat} {e0 : (Int × Int × zS)} {t : (Int × zS)} (h : zlp (fun (q : Int × Int × zS) => b_28_43 v2 w3 q.1 q.2.1 q.2.2) n e0 = some t) : zfr 14794991584486012946407510662602753425833163817865199456861444238039287411748489793121307515059144869667519086723136 ((fun e : (Int × Int × zS) => e.2.2) e0) ((fun e : (Int × zS) => e.2) t) := zfr_lp (f := (fun e : (Int × Int × zS) => e.2.2)) (g := (fun e : (Int × zS) => e.2)) (fun e q h1 => frb_28_43 h1) n e0 t h
theorem frb_28_19 {v1 : Int} {v2 : Int} {s : zS} {q : (Int × Int × zS) ⊕ (Int × zS)} (h : b_28_19 v1 v2 s = some q) : zfr 14794991584486012946407510662602753425833163817865199456861444238039287411748489793121307515059144869667519086723136 s (Sum.elim (fun e : (Int × Int × zS) => e.2.2) (fun e : (Int × zS) => e.2) q) := by
  unfold b_28_19 at h
  obtain ⟨r2, h1, h⟩ := zo_some h
  obtain ⟨hg3, h⟩ := zg_some h
  obtain ⟨hg4, h⟩ := zg_some h
  by_cases hc5 : v2 < r2
  · rw [if_pos hc5] at h
    obtain ⟨r7, h6, h⟩ := zo_some h
    obtain ⟨r9, s10, h8, h⟩ := zb_some h
    have f11 := zfr_tr (zfr_rf _ _) (zfr_sub (m2 := 14794991584486012946407510662602753425833163817865199456861444238039287411748489793121307515059144869667519086723136) rfl (fr_26 h8))
    obtain ⟨e12, h13, h⟩ := zo_some h
    have f14 : zfr 14794991584486012946407510662602753425833163817865199456861444238039287411748489793121307515059144869667519086723136 s e12.2 := zfr_tr f11 (frl_28_43 h13)
    cases h
    exact f14
  · rw [if_neg hc5] at h
    cases h
    exact (zfr_rf _ _)
theorem frl_28_19 {n : Nat} {e0 : (Int × Int × zS)} {t : (Int × zS)} (h : zlp (fun (q : Int × Int × zS) => b_28_19 q.1 q.2.1 q.2.2) n e0 = some t) : zfr 14794991584486012946407510662602753425833163817865199456861444238039287411748489793121307515059144869667519086723136 ((fun e : (Int × Int × zS) => e.2.2) e0) ((fun e : (Int × zS) => e.2) t) := zfr_lp (f := (fun e : (Int × Int × zS) => e.2.2)) (g := (fun e : (Int × zS) => e.2)) (fun e q h1 => frb_28_19 h1) n e0 t h
theorem fr_28 {s : zS} {q : (Int × zS)} (h : f_28 s = some q) : zfr 14794991584486012946407510662602753425833163817865199456861444238039287411748489793121307515059144869667519086723136 s q.2 := by
  unfold f_28 at h
  obtain ⟨r2, s3, h1, h⟩ := zb_some h
  have f4 := zfr_tr (zfr_rf _ _) (zfr_sub (m2 := 14794991584486012946407510662602753425833163817865199456861444238039287411748489793121307515059144869667519086723136) rfl (fr_130 h1))
  obtain ⟨r6, s7, h5, h⟩ := zb_some h
  have f8 := zfr_tr f4 (zfr_sub (m2 := 14794991584486012946407510662602753425833163817865199456861444238039287411748489793121307515059144869667519086723136) rfl (fr_270_175 h5))
  obtain ⟨e9, h10, h⟩ := zo_some h
  have f11 : zfr 14794991584486012946407510662602753425833163817865199456861444238039287411748489793121307515059144869667519086723136 s e9.2 := zfr_tr f8 (frl_28_19 h10)
  cases h
  exact f11
theorem fr_29 {s : zS} {q : (Int × zS)} (h : f_29 s = some q) : zfr 14775752323647929704604640037553855176904902226424542500480610026592145664311453979280349845581843365302485697691648 s q.2 := by
  unfold f_29 at h
  obtain ⟨r2, s3, h1, h⟩ := zb_some h
  have f4 := zfr_tr (zfr_rf _ _) (zfr_sub (m2 := 14775752323647929704604640037553855176904902226424542500480610026592145664311453979280349845581843365302485697691648) rfl (fr_130 h1))
  cases h
  exact f4
theorem frb_71_5 {w1 : BitVec 64} {v4 : Int} {s : zS} {q : (Int × zS) ⊕ (zS)} (h : b_71_5 w1 v4 s = some q) : zfr 4479489484355608421114884561136888556243290994469299069799978201927583742360321890761754986543214232064 s (Sum.elim (fun e : (Int × zS) => e.2) (fun e : (zS) => e) q) := by
  unfold b_71_5 at h
  obtain ⟨hg1, h⟩ := zg_some h
  by_cases hc2 : v4 < 0
  · rw [if_pos hc2] at h
    cases h
    exact (zfr_rf _ _)
  · rw [if_neg hc2] at h
    by_cases hc3 : (gI s 8 1) < 600
    · rw [if_pos hc3] at h
      obtain ⟨hg4, h⟩ := zg_some h
      obtain ⟨hg5, h⟩ := zg_some h
      cases h
      exact (zfr_tr (zfr_tr (zfr_rf _ _) (zfr_IA rfl rfl)) (zfr_I rfl))
    · rw [if_neg hc3] at h
      cases h
      exact (zfr_rf _ _)
theorem frl_71_5 {w1 : BitVec 64} {n : Nat} {e0 : (Int × zS)} {t : (zS)} (h : zlp (fun (q : Int × zS) => b_71_5 w1 q.1 q.2) n e0 = some t) : zfr 4479489484355608421114884561136888556243290994469299069799978201927583742360321890761754986543214232064 ((fun e : (Int × zS) => e.2) e0) ((fun e : (zS) => e) t) := zfr_lp (f := (fun e : (Int × zS) => e.2)) (g := (fun e : (zS) => e)) (fun e q h1 => frb_71_5 h1) n e0 t h
theorem fr_71 {w1 : BitVec 64} {v3 : Int} {s : zS} {q : (Unit × zS)} (h : f_71 w1 v3 s = some q) : zfr 4479489484355608421114884561136888556243290994469299069799978201927583742360321890761754986543214232064 s q.2 := by
  unfold f_71 at h
  obtain ⟨e1, h2, h⟩ := zo_some h
  have f3 : zfr 4479489484355608421114884561136888556243290994469299069799978201927583742360321890761754986543214232064 s e1 := zfr_tr (zfr_rf _ _) (frl_71_5 h2)
  cases h
  exact f3
theorem fr_32 {w1 : BitVec 64} {v3 : Int} {s : zS} {q : ((Int ⊕ Nat) × zS)} (h : f_32 w1 v3 s = some q) : zfr 4479489484355608421114884561136888556243290994469299069799978201927583742360321890761754986543214232064 s q.2 := by
  unfold f_32 at h
  obtain ⟨hg1, h⟩ := zg_some h
  by_cases hc2 : v3 < 1
  · rw [if_pos hc2] at h
    cases h
    exact (zfr_rf _ _)
  · rw [if_neg hc2] at h
    by_cases hc3 : 8 < v3
    · rw [if_pos hc3] at h
      cases h
      exact (zfr_rf _ _)
    · rw [if_neg hc3] at h
      obtain ⟨hg4, h⟩ := zg_some h
      by_cases hc5 : 600 < ((gI s 8 1) + v3)
      · rw [if_pos hc5] at h
        cases h
        exact (zfr_rf _ _)
      · rw [if_neg hc5] at h
        obtain ⟨r7, s8, h6, h⟩ := zb_some h
        have f9 := zfr_tr (zfr_rf _ _) (zfr_sub (m2 := 4479489484355608421114884561136888556243290994469299069799978201927583742360321890761754986543214232064) rfl (fr_71 h6))
        cases h
        exact f9
theorem fr_2 {w1 : BitVec 64} {v3 : Int} {s : zS} {q : (Int × zS)} (h : f_2 w1 v3 s = some q) : zfr 4479489484355608421114884561136888556243342416486715357488795544714538659563602601257556035913943876096 s q.2 := by
  unfold f_2 at h
  obtain ⟨r2, s3, h1, h⟩ := zb_some h
  have f6 := zfr_tr (zfr_rf _ _) (zfr_sub (m2 := 4479489484355608421114884561136888556243342416486715357488795544714538659563602601257556035913943876096) rfl (fr_32 h1))
  rcases r2 with v4 | c5
  · simp only [ze_l] at h
    obtain ⟨hg7, h⟩ := zg_some h
    cases h
    exact (zfr_tr f6 (zfr_JA rfl rfl))
  · simp only [ze_r] at h
    by_cases hc8 : c5 = 8
    · rw [if_pos hc8] at h
      cases h
      exact f6
    · rw [if_neg hc8] at h
      by_cases hc9 : c5 = 9
      · rw [if_pos hc9] at h
        cases h
        exact f6
      · rw [if_neg hc9] at h
        cases h
theorem fr_54 {w1 : BitVec 64} {v3 : Int} {s : zS} {q : (Int × zS)} (h : f_54 w1 v3 s = some q) : zfr 34175792574734561318320347298712833833643272357706444319152665725155515612490248800367393390985240 s q.2 := by
  unfold f_54 at h
  obtain ⟨hg1, h⟩ := zg_some h
  cases h
  exact (zfr_tr (zfr_tr (zfr_tr (zfr_rf _ _) (zfr_JA rfl rfl)) (zfr_IA rfl rfl)) (zfr_I rfl))
theorem fr_33 {w1 : BitVec 64} {v3 : Int} {s : zS} {q : ((Int ⊕ Nat) × zS)} (h : f_33 w1 v3 s = some q) : zfr 34184136274093627373329702852252558646590939172246899994035271356436071158294079427515920586637336 s q.2 := by
  unfold f_33 at h
  obtain ⟨r2, h1, h⟩ := zo_some h
  obtain ⟨hg3, h⟩ := zg_some h
  by_cases hc4 : r2 = 0
  · rw [if_pos hc4] at h
    cases h
    exact (zfr_rf _ _)
  · rw [if_neg hc4] at h
    obtain ⟨r6, h5, h⟩ := zo_some h
    obtain ⟨hg7, h⟩ := zg_some h
    by_cases hc8 : r6 = (-1)
    · rw [if_pos hc8] at h
      obtain ⟨hg9, h⟩ := zg_some h
      by_cases hc10 : v3 < 1
      · rw [if_pos hc10] at h
        cases h
        exact (zfr_rf _ _)
      · rw [if_neg hc10] at h
        by_cases hc11 : 3 < v3
        · rw [if_pos hc11] at h
          cases h
          exact (zfr_rf _ _)
        · rw [if_neg hc11] at h
          by_cases hc12 : (gI s 1 4) < 8
          · rw [if_pos hc12] at h
            obtain ⟨r14, s15, h13, h⟩ := zb_some h
            have f16 := zfr_tr (zfr_tr (zfr_rf _ _) (zfr_I rfl)) (zfr_sub (m2 := 34184136274093627373329702852252558646590939172246899994035271356436071158294079427515920586637336) rfl (fr_54 h13))
            cases h
            exact f16
          · rw [if_neg hc12] at h
            cases h
            exact (zfr_rf _ _)
    · rw [if_neg hc8] at h
      cases h
      exact (zfr_rf _ _)
theorem fr_3 {w1 : BitVec 64} {v3 : Int} {s : zS} {q : (Int × zS)} (h : f_3 w1 v3 s = some q) : zfr 34184136274093627373329702852252558698012956588534588811378058311353274439004575228565291316281368 s q.2 := by
  unfold f_3 at h
  obtain ⟨r2, s3, h1, h⟩ := zb_some h
  have f6 := zfr_tr (zfr_rf _ _) (zfr_sub (m2 := 34184136274093627373329702852252558698012956588534588811378058311353274439004575228565291316281368) rfl (fr_33 h1))
  rcases r2 with v4 | c5
  · simp only [ze_l] at h
    obtain ⟨hg7, h⟩ := zg_some h
    cases h
    exact (zfr_tr f6 (zfr_JA rfl rfl))
  · simp only [ze_r] at h
    by_cases hc8 : c5 = 8
    · rw [if_pos hc8] at h
      cases h
      exact f6
    · rw [if_neg hc8] at h
      by_cases hc9 : c5 = 9
      · rw [if_pos hc9] at h
        cases h
        exact f6
      · rw [if_neg hc9] at h
        cases h
theorem frb_57_4 {v1 : Int} {v2 : Int} {v3 : Int} {s : zS} {q : (Int × Int × zS) ⊕ (Int × zS)} (h : b_57_4 v1 v2 v3 s = some q) : zfr 546812681195752981093125556779405341338292357723303109106442651602488249799843980805878294255763584 s (Sum.elim (fun e : (Int × Int × zS) => e.2.2) (fun e : (Int × zS) => e.2) q) := by
  unfold b_57_4 at h
  obtain ⟨hg1, h⟩ := zg_some h
  by_cases hc2 : v3 < (gI s 1 8)
  · rw [if_pos hc2] at h
    obtain ⟨hg3, h⟩ := zg_some h
    obtain ⟨hg4, h⟩ := zg_some h
    by_cases hc5 : (gI s 7 v3) = v1
    · rw [if_pos hc5] at h
      cases h
      exact (zfr_rf _ _)
    · rw [if_neg hc5] at h
      obtain ⟨hg6, h⟩ := zg_some h
      cases h
      exact (zfr_tr (zfr_rf _ _) (zfr_IA rfl rfl))
  · rw [if_neg hc2] at h
    cases h
    exact (zfr_rf _ _)
theorem frl_57_4 {v1 : Int} {n : Nat} {e0 : (Int × Int × zS)} {t : (Int × zS)} (h : zlp (fun (q : Int × Int × zS) => b_57_4 v1 q.1 q.2.1 q.2.2) n e0 = some t) : zfr 546812681195752981093125556779405341338292357723303109106442651602488249799843980805878294255763584 ((fun e : (Int × Int × zS) => e.2.2) e0) ((fun e : (Int × zS) => e.2) t) := zfr_lp (f := (fun e : (Int × Int × zS) => e.2.2)) (g := (fun e : (Int × zS) => e.2)) (fun e q h1 => frb_57_4 h1) n e0 t h
theorem fr_57 {v1 : Int} {s : zS} {q : (Unit × zS)} (h : f_57 v1 s = some q) : zfr 546812681195752981093125556779405341338292357723303109106442651602488249799843980805878294255763584 s q.2 := by
  unfold f_57 at h
  obtain ⟨e1, h2, h⟩ := zo_some h
  have f3 : zfr 546812681195752981093125556779405341338292357723303109106442651602488249799843980805878294255763584 s e1.2 := zfr_tr (zfr_rf _ _) (frl_57_4 h2)
  cases h
  exact (zfr_tr f3 (zfr_I rfl))
theorem frb_58_5 {v1 : Int} {v2 : Int} {s : zS} {q : (Int × zS) ⊕ (Int × zS)} (h : b_58_5 v1 v2 s = some q) : zfr 546812681195752981093125556779405341338292357723303109106442651602488249799843980805878294255763584 s (Sum.elim (fun e : (Int × zS) => e.2) (fun e : (Int × zS) => e.2) q) := by
  unfold b_58_5 at h
  obtain ⟨hg1, h⟩ := zg_some h
  by_cases hc2 : 0 < v2
  · rw [if_pos hc2] at h
    obtain ⟨hg3, h⟩ := zg_some h
    obtain ⟨hg4, h⟩ := zg_some h
    by_cases hc5 : v1 < (gI s 7 (v2 - 1))
    · rw [if_pos hc5] at h
      obtain ⟨hg6, h⟩ := zg_some h
      cases h
      exact (zfr_tr (zfr_rf _ _) (zfr_IA rfl rfl))
    · rw [if_neg hc5] at h
      cases h
      exact (zfr_rf _ _)
  · rw [if_neg hc2] at h
    cases h
    exact (zfr_rf _ _)
theorem frl_58_5 {v1 : Int} {n : Nat} {e0 : (Int × zS)} {t : (Int × zS)} (h : zlp (fun (q : Int × zS) => b_58_5 v1 q.1 q.2) n e0 = some t) : zfr 546812681195752981093125556779405341338292357723303109106442651602488249799843980805878294255763584 ((fun e : (Int × zS) => e.2) e0) ((fun e : (Int × zS) => e.2) t) := zfr_lp (f := (fun e : (Int × zS) => e.2)) (g := (fun e : (Int × zS) => e.2)) (fun e q h1 => frb_58_5 h1) n e0 t h
theorem fr_58 {v1 : Int} {s : zS} {q : (Unit × zS)} (h : f_58 v1 s = some q) : zfr 546812681195752981093125556779405341338292357723303109106442651602488249799843980805878294255763584 s q.2 := by
  unfold f_58 at h
  obtain ⟨e1, h2, h⟩ := zo_some h
  have f3 : zfr 546812681195752981093125556779405341338292357723303109106442651602488249799843980805878294255763584 s e1.2 := zfr_tr (zfr_rf _ _) (frl_58_5 h2)
  obtain ⟨hg4, h⟩ := zg_some h
  cases h
  exact (zfr_tr (zfr_tr f3 (zfr_IA rfl rfl)) (zfr_I rfl))
theorem frj_56_25 {v1 : Int} {v2 : Int} {s : zS} {q : (Unit × zS)} (h : j_56_25 v1 v2 s = some q) : zfr 546812681195752981093125556779405341338292357723303109106442651602488249799843980805878294255763680 s q.2 := by
  unfold j_56_25 at h
  obtain ⟨hg1, h⟩ := zg_some h
  obtain ⟨hg2, h⟩ := zg_some h
  by_cases hc3 : v2 = 2
  · rw [if_pos hc3] at h
    cases h
    exact (zfr_tr (zfr_tr (zfr_rf _ _) (zfr_IA rfl rfl)) (zfr_JA rfl rfl))
  · rw [if_neg hc3] at h
    cases h
    exact (zfr_tr (zfr_tr (zfr_rf _ _) (zfr_IA rfl rfl)) (zfr_JA rfl rfl))
theorem frj_56_15 {v1 : Int} {v2 : Int} {s : zS} {q : (Unit × zS)} (h : j_56_15 v1 v2 s = some q) : zfr 546812681195752981093125556779405341338292357723303109106442651602488249799843980805878294255763680 s q.2 := by
  unfold j_56_15 at h
  obtain ⟨hg1, h⟩ := zg_some h
  by_cases hc2 : v2 = 1
  · rw [if_pos hc2] at h
    obtain ⟨r4, s5, h3, h⟩ := zb_some h
    have f6 := zfr_tr (zfr_rf _ _) (zfr_sub (m2 := 546812681195752981093125556779405341338292357723303109106442651602488249799843980805878294255763680) rfl (fr_58 h3))
    exact zfr_tr f6 (frj_56_25 h)
  · rw [if_neg hc2] at h
    exact zfr_tr (zfr_rf _ _) (frj_56_25 h)
theorem fr_56 {v1 : Int} {v2 : Int} {s : zS} {q : (Unit × zS)} (h : f_56 v1 v2 s = some q) : zfr 546812681195752981093125556779405341338292357723303109106442651602488249799843980805878294255763680 s q.2 := by
  unfold f_56 at h
  obtain ⟨hg1, h⟩ := zg_some h
  by_cases hc2 : (gI s 5 v1) = 1
  · rw [if_pos hc2] at h
    obtain ⟨r4, s5, h3, h⟩ := zb_some h
    have f6 := zfr_tr (zfr_rf _ _) (zfr_sub (m2 := 546812681195752981093125556779405341338292357723303109106442651602488249799843980805878294255763680) rfl (fr_57 h3))
    exact zfr_tr f6 (frj_56_15 h)
  · rw [if_neg hc2] at h
    exact zfr_tr (zfr_rf _ _) (frj_56_15 h)
theorem frb_270_174_6 {w1 : BitVec 64} {v4 : Int} {v3 : Int} {s : zS} {q : (Int × zS) ⊕ (zS)} (h : b_270_174_6 w1 v4 v3 s = some q) : zfr 23945242826029513411849172299223580994042798784118784 s (Sum.elim (fun e : (Int × zS) => e.2) (fun e : (zS) => e) q) := by
  unfold b_270_174_6 at h
  obtain ⟨hg1, h⟩ := zg_some h
  obtain ⟨hg2, h⟩ := zg_some h
  by_cases hc3 : v3 < v4
  · rw [if_pos hc3] at h
    obtain ⟨hg4, h⟩ := zg_some h
    cases h
    exact (zfr_tr (zfr_rf _ _) (zfr_JA rfl rfl))
  · rw [if_neg hc3] at h
    cases h
    exact (zfr_rf _ _)
theorem frl_270_174_6 {w1 : BitVec 64} {v4 : Int} {n : Nat} {e0 : (Int × zS)} {t : (zS)} (h : zlp (fun (q : Int × zS) => b_270_174_6 w1 v4 q.1 q.2) n e0 = some t) : zfr 23945242826029513411849172299223580994042798784118784 ((fun e : (Int × zS) => e.2) e0) ((fun e : (zS) => e) t) := zfr_lp (f := (fun e : (Int × zS) => e.2)) (g := (fun e : (zS) => e)) (fun e q h1 => frb_270_174_6 h1) n e0 t h
theorem fr_270_174 {w1 : BitVec 64} {s : zS} {q : (Unit × zS)} (h : f_270_174 w1 s = some q) : zfr 23945242826029513411849172299223580994042798784118784 s q.2 := by
  unfold f_270_174 at h
  obtain ⟨e1, h2, h⟩ := zo_some h
  have f3 : zfr 23945242826029513411849172299223580994042798784118784 s e1 := zfr_tr (zfr_rf _ _) (frl_270_174_6 h2)
  cases h
  exact f3
theorem frj_35_94 {v3 : Int} {v4 : Int} {v5 : Int} {s : zS} {q : ((Int ⊕ Nat) × zS)} (h : j_35_94 v3 v4 v5 s = some q) : zfr 4925250774549310448355904907629998873769879741753246984733561237319522828791921972044760926732006882170448734322912 s q.2 := by
  unfold j_35_94 at h
  obtain ⟨hg1, h⟩ := zg_some h
  obtain ⟨hg2, h⟩ := zg_some h
  by_cases hc3 : v5 = v3
  · rw [if_pos hc3] at h
    cases h
    exact (zfr_tr (zfr_rf _ _) (zfr_I rfl))
  · rw [if_neg hc3] at h
    obtain ⟨r5, s6, h4, h⟩ := zb_some h
    have f7 := zfr_tr (zfr_tr (zfr_rf _ _) (zfr_I rfl)) (zfr_sub (m2 := 4925250774549310448355904907629998873769879741753246984733561237319522828791921972044760926732006882170448734322912) rfl (fr_56 h4))
    obtain ⟨r9, s10, h8, h⟩ := zb_some h
    have f11 := zfr_tr f7 (zfr_sub (m2 := 4925250774549310448355904907629998873769879741753246984733561237319522828791921972044760926732006882170448734322912) rfl (fr_270_174 h8))
    cases h
    exact (zfr_tr f11 (zfr_I rfl))
theorem fr_35 {v1 : Int} {v2 : Int} {v3 : Int} {s : zS} {q : ((Int ⊕ Nat) × zS)} (h : f_35 v1 v2 v3 s = some q) : zfr 4925250774549310448355904907629998873769879741753246984733561237319522828791921972044760926732006882170448734322912 s q.2 := by
  unfold f_35 at h
  obtain ⟨r2, h1, h⟩ := zo_some h
  obtain ⟨hg3, h⟩ := zg_some h
  by_cases hc4 : r2 = 0
  · rw [if_pos hc4] at h
    cases h
    exact (zfr_rf _ _)
  · rw [if_neg hc4] at h
    obtain ⟨hg5, h⟩ := zg_some h
    by_cases hc6 : v3 < 0
    · rw [if_pos hc6] at h
      cases h
      exact (zfr_rf _ _)
    · rw [if_neg hc6] at h
      by_cases hc7 : 2 < v3
      · rw [if_pos hc7] at h
        cases h
        exact (zfr_rf _ _)
      · rw [if_neg hc7] at h
        obtain ⟨hg8, h⟩ := zg_some h
        by_cases hc9 : v3 = 1
        · rw [if_pos hc9] at h
          by_cases hc10 : (gI s 5 ((v1 * 125) + v2)) = 1
          · rw [if_pos hc10] at h
            exact zfr_tr (zfr_rf _ _) (frj_35_94 h)
          · rw [if_neg hc10] at h
            by_cases hc11 : (gI s 1 8) < 12
            · rw [if_pos hc11] at h
              exact zfr_tr (zfr_rf _ _) (frj_35_94 h)
            · rw [if_neg hc11] at h
              cases h
              exact (zfr_rf _ _)
        · rw [if_neg hc9] at h
          exact zfr_tr (zfr_rf _ _) (frj_35_94 h)
theorem fr_4 {v1 : Int} {v2 : Int} {v3 : Int} {s : zS} {q : (Int × zS)} (h : f_4 v1 v2 v3 s = some q) : zfr 4925250774549310448355904907629998873769879741753247036155578653607211646134708926961964207442502683219819463966944 s q.2 := by
  unfold f_4 at h
  obtain ⟨r2, s3, h1, h⟩ := zb_some h
  have f6 := zfr_tr (zfr_rf _ _) (zfr_sub (m2 := 4925250774549310448355904907629998873769879741753247036155578653607211646134708926961964207442502683219819463966944) rfl (fr_35 h1))
  rcases r2 with v4 | c5
  · simp only [ze_l] at h
    obtain ⟨hg7, h⟩ := zg_some h
    cases h
    exact (zfr_tr f6 (zfr_JA rfl rfl))
  · simp only [ze_r] at h
    by_cases hc8 : c5 = 10
    · rw [if_pos hc8] at h
      cases h
      exact f6
    · rw [if_neg hc8] at h
      by_cases hc9 : c5 = 8
      · rw [if_pos hc9] at h
        cases h
        exact f6
      · rw [if_neg hc9] at h
        by_cases hc10 : c5 = 9
        · rw [if_pos hc10] at h
          cases h
          exact f6
        · rw [if_neg hc10] at h
          cases h
theorem fr_36 {s : zS} {q : ((Int ⊕ Nat) × zS)} (h : f_36 s = some q) : zfr 226625754138375570051944726007565062661101748019624250892363049091283426870635870494005939324955361707030607872 s q.2 := by
  unfold f_36 at h
  by_cases hc1 : (gI s 0 10) < 16
  · rw [if_pos hc1] at h
    obtain ⟨r3, s4, h2, h⟩ := zb_some h
    have f5 := zfr_tr (zfr_rf _ _) (zfr_sub (m2 := 226625754138375570051944726007565062661101748019624250892363049091283426870635870494005939324955361707030607872) rfl (fr_17 h2))
    obtain ⟨hg6, h⟩ := zg_some h
    by_cases hc7 : r3 = 0
    · rw [if_pos hc7] at h
      obtain ⟨r9, s10, h8, h⟩ := zb_some h
      have f11 := zfr_tr f5 (zfr_sub (m2 := 226625754138375570051944726007565062661101748019624250892363049091283426870635870494005939324955361707030607872) rfl (fr_22 h8))
      cases h
      exact (zfr_tr f11 (zfr_I rfl))
    · rw [if_neg hc7] at h
      cases h
      exact f5
  · rw [if_neg hc1] at h
    obtain ⟨r13, s14, h12, h⟩ := zb_some h
    have f15 := zfr_tr (zfr_rf _ _) (zfr_sub (m2 := 226625754138375570051944726007565062661101748019624250892363049091283426870635870494005939324955361707030607872) rfl (fr_70 h12))
    cases h
    exact f15
theorem fr_5 {s : zS} {q : (Int × zS)} (h : f_5 s = some q) : zfr 226625754138375570051944726007565062661101748019675672909779336780100769657590787697286649820756411077760251904 s q.2 := by
  unfold f_5 at h
  obtain ⟨r2, s3, h1, h⟩ := zb_some h
  have f6 := zfr_tr (zfr_rf _ _) (zfr_sub (m2 := 226625754138375570051944726007565062661101748019675672909779336780100769657590787697286649820756411077760251904) rfl (fr_36 h1))
  rcases r2 with v4 | c5
  · simp only [ze_l] at h
    obtain ⟨hg7, h⟩ := zg_some h
    cases h
    exact (zfr_tr f6 (zfr_JA rfl rfl))
  · simp only [ze_r] at h
    by_cases hc8 : c5 = 9
    · rw [if_pos hc8] at h
      cases h
      exact f6
    · rw [if_neg hc8] at h
      cases h
theorem fr_37 {s : zS} {q : ((Int ⊕ Nat) × zS)} (h : f_37 s = some q) : zfr 27117022916964678780405549004105642079917147256480943368468301661805523862449538232713385869312 s q.2 := by
  unfold f_37 at h
  by_cases hc1 : (gI s 0 10) = 0
  · rw [if_pos hc1] at h
    cases h
    exact (zfr_rf _ _)
  · rw [if_neg hc1] at h
    cases h
    exact (zfr_tr (zfr_tr (zfr_tr (zfr_rf _ _) (zfr_I rfl)) (zfr_I rfl)) (zfr_I rfl))
theorem fr_6 {s : zS} {q : (Int × zS)} (h : f_6 s = some q) : zfr 27117022916964678780405549004105693501934563544169760711255256579008804572945339282084115513344 s q.2 := by
  unfold f_6 at h
  obtain ⟨r2, s3, h1, h⟩ := zb_some h
  have f6 := zfr_tr (zfr_rf _ _) (zfr_sub (m2 := 27117022916964678780405549004105693501934563544169760711255256579008804572945339282084115513344) rfl (fr_37 h1))
  rcases r2 with v4 | c5
  · simp only [ze_l] at h
    obtain ⟨hg7, h⟩ := zg_some h
    cases h
    exact (zfr_tr f6 (zfr_JA rfl rfl))
  · simp only [ze_r] at h
    by_cases hc8 : c5 = 11
    · rw [if_pos hc8] at h
      cases h
      exact f6
    · rw [if_neg hc8] at h
      cases h
theorem fr_38 {s : zS} {q : ((Int ⊕ Nat) × zS)} (h : f_38 s = some q) : zfr 19239260838083241811214324407964303937617144980381769328500978097111770260614621423168616833970143427963016446016 s q.2 := by
  unfold f_38 at h
  by_cases hc1 : (gI s 0 12) = (-1)
  · rw [if_pos hc1] at h
    cases h
    exact (zfr_rf _ _)
  · rw [if_neg hc1] at h
    obtain ⟨r3, h2, h⟩ := zo_some h
    obtain ⟨r5, s6, h4, h⟩ := zb_some h
    have f7 := zfr_tr (zfr_rf _ _) (zfr_sub (m2 := 19239260838083241811214324407964303937617144980381769328500978097111770260614621423168616833970143427963016446016) rfl (fr_25 h4))
    by_cases hc8 : (gI (sI s6 0 12 r5) 0 12) = (-1)
    · rw [if_pos hc8] at h
      cases h
      exact (zfr_tr f7 (zfr_I rfl))
    · rw [if_neg hc8] at h
      cases h
      exact (zfr_tr f7 (zfr_I rfl))
theorem fr_7 {s : zS} {q : (Int × zS)} (h : f_7 s = some q) : zfr 19239260838083241811214324407964303937617144980381820750518394384800587603401576340371897544465944477333746090048 s q.2 := by
  unfold f_7 at h
  obtain ⟨r2, s3, h1, h⟩ := zb_some h
  have f6 := zfr_tr (zfr_rf _ _) (zfr_sub (m2 := 19239260838083241811214324407964303937617144980381820750518394384800587603401576340371897544465944477333746090048) rfl (fr_38 h1))
  rcases r2 with v4 | c5
  · simp only [ze_l] at h
    obtain ⟨hg7, h⟩ := zg_some h
    cases h
    exact (zfr_tr f6 (zfr_JA rfl rfl))
  · simp only [ze_r] at h
    by_cases hc8 : c5 = 11
    · rw [if_pos hc8] at h
      cases h
      exact f6
    · rw [if_neg hc8] at h
      cases h
theorem fr_39 {s : zS} {q : ((Int ⊕ Nat) × zS)} (h : f_39 s = some q) : zfr 19239260838083241811214324407964303937617144980381769328500978097111770260614621423168616833970143427963016446016 s q.2 := by
  unfold f_39 at h
  by_cases hc1 : (gI s 0 11) = 0
  · rw [if_pos hc1] at h
    cases h
    exact (zfr_rf _ _)
  · rw [if_neg hc1] at h
    obtain ⟨r3, h2, h⟩ := zo_some h
    obtain ⟨r5, s6, h4, h⟩ := zb_some h
    have f7 := zfr_tr (zfr_rf _ _) (zfr_sub (m2 := 19239260838083241811214324407964303937617144980381769328500978097111770260614621423168616833970143427963016446016) rfl (fr_25 h4))
    by_cases hc8 : (gI (sI s6 0 12 r5) 0 12) = (-1)
    · rw [if_pos hc8] at h
      cases h
      exact (zfr_tr f7 (zfr_I rfl))
    · rw [if_neg hc8] at h
      cases h
      exact (zfr_tr f7 (zfr_I rfl))
theorem fr_8 {s : zS} {q : (Int × zS)} (h : f_8 s = some q) : zfr 19239260838083241811214324407964303937617144980381820750518394384800587603401576340371897544465944477333746090048 s q.2 := by
  unfold f_8 at h
  obtain ⟨r2, s3, h1, h⟩ := zb_some h
  have f6 := zfr_tr (zfr_rf _ _) (zfr_sub (m2 := 19239260838083241811214324407964303937617144980381820750518394384800587603401576340371897544465944477333746090048) rfl (fr_39 h1))
  rcases r2 with v4 | c5
  · simp only [ze_l] at h
    obtain ⟨hg7, h⟩ := zg_some h
    cases h
    exact (zfr_tr f6 (zfr_JA rfl rfl))
  · simp only [ze_r] at h
    by_cases hc8 : c5 = 11
    · rw [if_pos hc8] at h
      cases h
      exact f6
    · rw [if_neg hc8] at h
      cases h
theorem fr_40 {v1 : Int} {v2 : Int} {s : zS} {q : ((Int ⊕ Nat) × zS)} (h : f_40 v1 v2 s = some q) : zfr 0 s q.2 := by
  unfold f_40 at h
  obtain ⟨r2, h1, h⟩ := zo_some h
  obtain ⟨hg3, h⟩ := zg_some h
  by_cases hc4 : r2 = 0
  · rw [if_pos hc4] at h
    cases h
    exact (zfr_rf _ _)
  · rw [if_neg hc4] at h
    by_cases hc5 : (gI s 0 12) = (-1)
    · rw [if_pos hc5] at h
      cases h
      exact (zfr_rf _ _)
    · rw [if_neg hc5] at h
      obtain ⟨r7, h6, h⟩ := zo_some h
      obtain ⟨hg8, h⟩ := zg_some h
      cases h
      exact (zfr_rf _ _)
theorem fr_9 {v1 : Int} {v2 : Int} {s : zS} {q : (Int × zS)} (h : f_9 v1 v2 s = some q) : zfr 51422017416287688817342786954917203280710495801049370729644032 s q.2 := by
  unfold f_9 at h
  obtain ⟨r2, s3, h1, h⟩ := zb_some h
  have f6 := zfr_tr (zfr_rf _ _) (zfr_sub (m2 := 51422017416287688817342786954917203280710495801049370729644032) rfl (fr_40 h1))
  rcases r2 with v4 | c5
  · simp only [ze_l] at h
    obtain ⟨hg7, h⟩ := zg_some h
    by_cases hc8 : v4 = 0
    · rw [if_pos hc8] at h
      cases h
      exact (zfr_tr f6 (zfr_JA rfl rfl))
    · rw [if_neg hc8] at h
      cases h
      exact (zfr_tr f6 (zfr_JA rfl rfl))
  · simp only [ze_r] at h
    by_cases hc9 : c5 = 10
    · rw [if_pos hc9] at h
      cases h
      exact f6
    · rw [if_neg hc9] at h
      by_cases hc10 : c5 = 11
      · rw [if_pos hc10] at h
        cases h
        exact f6
      · rw [if_neg hc10] at h
        cases h
theorem frb_41_27 {v1 : Int} {v2 : Int} {s : zS} {q : (Int × Int × zS) ⊕ (Int × zS)} (h : b_41_27 v1 v2 s = some q) : zfr 19239260838083241819558023767030358946972698520106582276167792637567445143220252703724162637800770576490212098112 s (Sum.elim (fun e : (Int × Int × zS) => e.2.2) (fun e : (Int × zS) => e.2) q) := by
  unfold b_41_27 at h
  obtain ⟨hg1, h⟩ := zg_some h
  by_cases hc2 : v2 < (gI s 0 10)
  · rw [if_pos hc2] at h
    obtain ⟨r4, s5, h3, h⟩ := zb_some h
    have f6 := zfr_tr (zfr_rf _ _) (zfr_sub (m2 := 19239260838083241819558023767030358946972698520106582276167792637567445143220252703724162637800770576490212098112) rfl (fr_25 h3))
    obtain ⟨hg7, h⟩ := zg_some h
    by_cases hc8 : r4 = (-1)
    · rw [if_pos hc8] at h
      cases h
      exact f6
    · rw [if_neg hc8] at h
      cases h
      exact f6
  · rw [if_neg hc2] at h
    cases h
    exact (zfr_rf _ _)
theorem frl_41_27 {n : Nat} {e0 : (Int × Int × zS)} {t : (Int × zS)} (h : zlp (fun (q : Int × Int × zS) => b_41_27 q.1 q.2.1 q.2.2) n e0 = some t) : zfr 19239260838083241819558023767030358946972698520106582276167792637567445143220252703724162637800770576490212098112 ((fun e : (Int × Int × zS) => e.2.2) e0) ((fun e : (Int × zS) => e.2) t) := zfr_lp (f := (fun e : (Int × Int × zS) => e.2.2)) (g := (fun e : (Int × zS) => e.2)) (fun e q h1 => frb_41_27 h1) n e0 t h
theorem fr_41 {s : zS} {q : ((Int ⊕ Nat) × zS)} (h : f_41 s = some q) : zfr 19239260838083241819558023767030358946972698520106582276167792637567445143220252703724162637800770576490212098112 s q.2 := by
  unfold f_41 at h
  obtain ⟨r2, h1, h⟩ := zo_some h
  obtain ⟨r4, s5, h3, h⟩ := zb_some h
  have f6 := zfr_tr (zfr_rf _ _) (zfr_sub (m2 := 19239260838083241819558023767030358946972698520106582276167792637567445143220252703724162637800770576490212098112) rfl (fr_25 h3))
  obtain ⟨hg7, h⟩ := zg_some h
  by_cases hc8 : r4 = (-1)
  · rw [if_pos hc8] at h
    obtain ⟨e9, h10, h⟩ := zo_some h
    have f11 : zfr 19239260838083241819558023767030358946972698520106582276167792637567445143220252703724162637800770576490212098112 s e9.2 := zfr_tr f6 (frl_41_27 h10)
    obtain ⟨r13, h12, h⟩ := zo_some h
    cases h
    exact (zfr_tr f11 (zfr_I rfl))
  · rw [if_neg hc8] at h
    cases h
    exact f6
theorem fr_10 {s : zS} {q : (Int × zS)} (h : f_10 s = some q) : zfr 19239260838083241819558023767030358946972698520106633698185208925256262486007207620927443348296571625860941742144 s q.2 := by
  unfold f_10 at h
  obtain ⟨r2, s3, h1, h⟩ := zb_some h
  have f6 := zfr_tr (zfr_rf _ _) (zfr_sub (m2 := 19239260838083241819558023767030358946972698520106633698185208925256262486007207620927443348296571625860941742144) rfl (fr_41 h1))
  rcases r2 with v4 | c5
  · simp only [ze_l] at h
    obtain ⟨hg7, h⟩ := zg_some h
    cases h
    exact (zfr_tr f6 (zfr_JA rfl rfl))
  · simp only [ze_r] at h
    by_cases hc8 : c5 = 11
    · rw [if_pos hc8] at h
      cases h
      exact f6
    · rw [if_neg hc8] at h
      cases h
theorem fr_42 {v1 : Int} {s : zS} {q : ((Int ⊕ Nat) × zS)} (h : f_42 v1 s = some q) : zfr 0 s q.2 := by
  unfold f_42 at h
  obtain ⟨hg1, h⟩ := zg_some h
  by_cases hc2 : v1 < 0
  · rw [if_pos hc2] at h
    cases h
    exact (zfr_rf _ _)
  · rw [if_neg hc2] at h
    by_cases hc3 : v1 < (gI s 0 10)
    · rw [if_pos hc3] at h
      obtain ⟨hg4, h⟩ := zg_some h
      by_cases hc5 : (zand ((gI s 0 13) / 2 ^ zsh v1) 1) = 0
      · rw [if_pos hc5] at h
        cases h
        exact (zfr_rf _ _)
      · rw [if_neg hc5] at h
        cases h
        exact (zfr_rf _ _)
    · rw [if_neg hc3] at h
      cases h
      exact (zfr_rf _ _)
theorem fr_11 {v1 : Int} {s : zS} {q : (Int × zS)} (h : f_11 v1 s = some q) : zfr 51422017416287688817342786954917203280710495801049370729644032 s q.2 := by
  unfold f_11 at h
  obtain ⟨r2, s3, h1, h⟩ := zb_some h
  have f6 := zfr_tr (zfr_rf _ _) (zfr_sub (m2 := 51422017416287688817342786954917203280710495801049370729644032) rfl (fr_42 h1))
  rcases r2 with v4 | c5
  · simp only [ze_l] at h
    obtain ⟨hg7, h⟩ := zg_some h
    by_cases hc8 : v4 = 0
    · rw [if_pos hc8] at h
      cases h
      exact (zfr_tr f6 (zfr_JA rfl rfl))
    · rw [if_neg hc8] at h
      cases h
      exact (zfr_tr f6 (zfr_JA rfl rfl))
  · simp only [ze_r] at h
    by_cases hc9 : c5 = 10
    · rw [if_pos hc9] at h
      cases h
      exact f6
    · rw [if_neg hc9] at h
      cases h
theorem fr_44 {s : zS} {q : (Unit × zS)} (h : f_44 s = some q) : zfr 19239260838083241802870625048898248928261591440656956380834127638791856333738872368854622194768025215237644615744 s q.2 := by
  unfold f_44 at h
  obtain ⟨hg1, h⟩ := zg_some h
  obtain ⟨hg2, h⟩ := zg_some h
  obtain ⟨r4, s5, h3, h⟩ := zb_some h
  have f6 := zfr_tr (zfr_rf _ _) (zfr_sub (m2 := 19239260838083241802870625048898248928261591440656956380834127638791856333738872368854622194768025215237644615744) rfl (fr_102 h3))
  cases h
  exact f6
theorem frj_43_71_112 {v2 : Int} {v3 : Int} {v4 : Int} {t1 : Int} {t2 : Int} {s : zS} {q : (Int × Int × zS) ⊕ (Int × zS)} (h : j_43_71_112 v2 v3 v4 t1 t2 s = some q) : zfr 19465886592221617629360954763701598419084784011156378570173815665429000569232192675189878869442893973356288014400 s (Sum.elim (fun e : (Int × Int × zS) => e.2.2) (fun e : (Int × zS) => e.2) q) := by
  unfold j_43_71_112 at h
  obtain ⟨hg1, h⟩ := zg_some h
  obtain ⟨hg2, h⟩ := zg_some h
  obtain ⟨hg3, h⟩ := zg_some h
  by_cases hc4 : (gI (sI s 176 t1 t2) 176 v4) = 0
  · rw [if_pos hc4] at h
    cases h
    exact (zfr_tr (zfr_rf _ _) (zfr_IA rfl rfl))
  · rw [if_neg hc4] at h
    cases h
    exact (zfr_tr (zfr_rf _ _) (zfr_IA rfl rfl))
theorem frj_43_71_111 {v2 : Int} {v3 : Int} {v4 : Int} {t1 : Int} {s : zS} {q : (Int × Int × zS) ⊕ (Int × zS)} (h : j_43_71_111 v2 v3 v4 t1 s = some q) : zfr 19465886592221617629360954763701598419084784011156378570173815665429000569232192675189878869442893973356288014400 s (Sum.elim (fun e : (Int × Int × zS) => e.2.2) (fun e : (Int × zS) => e.2) q) := by
  unfold j_43_71_111 at h
  exact zfr_tr (zfr_rf _ _) (frj_43_71_112 h)
theorem frb_43_71 {v2 : Int} {v3 : Int} {v4 : Int} {s : zS} {q : (Int × Int × zS) ⊕ (Int × zS)} (h : b_43_71 v2 v3 v4 s = some q) : zfr 19465886592221617629360954763701598419084784011156378570173815665429000569232192675189878869442893973356288014400 s (Sum.elim (fun e : (Int × Int × zS) => e.2.2) (fun e : (Int × zS) => e.2) q) := by
  unfold b_43_71 at h
  obtain ⟨hg1, h⟩ := zg_some h
  by_cases hc2 : v4 < 125
  · rw [if_pos hc2] at h
    obtain ⟨hg3, h⟩ := zg_some h
    by_cases hc4 : v4 < v2
    · rw [if_pos hc4] at h
      obtain ⟨hg5, h⟩ := zg_some h
      obtain ⟨r7, h6, h⟩ := zo_some h
      obtain ⟨hg8, h⟩ := zg_some h
      by_cases hc9 : r7 = 0
      · rw [if_pos hc9] at h
        exact zfr_tr (zfr_rf _ _) (frj_43_71_111 h)
      · rw [if_neg hc9] at h
        exact zfr_tr (zfr_rf _ _) (frj_43_71_112 h)
    · rw [if_neg hc4] at h
      exact zfr_tr (zfr_rf _ _) (frj_43_71_111 h)
  · rw [if_neg hc2] at h
    cases h
    exact (zfr_rf _ _)
theorem frl_43_71 {v2 : Int} {n : Nat} {e0 : (Int × Int × zS)} {t : (Int × zS)} (h : zlp (fun (q : Int × Int × zS) => b_43_71 v2 q.1 q.2.1 q.2.2) n e0 = some t) : zfr 19465886592221617629360954763701598419084784011156378570173815665429000569232192675189878869442893973356288014400 ((fun e : (Int × Int × zS) => e.2.2) e0) ((fun e : (Int × zS) => e.2) t) := zfr_lp (f := (fun e : (Int × Int × zS) => e.2.2)) (g := (fun e : (Int × zS) => e.2)) (fun e q h1 => frb_43_71 h1) n e0 t h
theorem fr_43 {s : zS} {q : ((Int ⊕ Nat) × zS)} (h : f_43 s = some q) : zfr 19465886592221617629360954763701598419084784011156378570173815665429000569232192675189878869442893973356288014400 s q.2 := by
  unfold f_43 at h
  by_cases hc1 : (gI s 0 12) = (-1)
  · rw [if_pos hc1] at h
    obtain ⟨r3, s4, h2, h⟩ := zb_some h
    have f5 := zfr_tr (zfr_rf _ _) (zfr_sub (m2 := 19465886592221617629360954763701598419084784011156378570173815665429000569232192675189878869442893973356288014400) rfl (fr_70 h2))
    cases h
    exact f5
  · rw [if_neg hc1] at h
    obtain ⟨r7, s8, h6, h⟩ := zb_some h
    have f9 := zfr_tr (zfr_rf _ _) (zfr_sub (m2 := 19465886592221617629360954763701598419084784011156378570173815665429000569232192675189878869442893973356288014400) rfl (fr_17 h6))
    obtain ⟨hg10, h⟩ := zg_some h
    by_cases hc11 : r7 = 0
    · rw [if_pos hc11] at h
      obtain ⟨r13, s14, h12, h⟩ := zb_some h
      have f15 := zfr_tr f9 (zfr_sub (m2 := 19465886592221617629360954763701598419084784011156378570173815665429000569232192675189878869442893973356288014400) rfl (fr_44 h12))
      obtain ⟨r17, h16, h⟩ := zo_some h
      obtain ⟨e18, h19, h⟩ := zo_some h
      have f20 : zfr 19465886592221617629360954763701598419084784011156378570173815665429000569232192675189878869442893973356288014400 s e18.2 := zfr_tr (zfr_tr f15 (zfr_I rfl)) (frl_43_71 h19)
      cases h
      exact f20
    · rw [if_neg hc11] at h
      cases h
      exact f9
theorem fr_12 {s : zS} {q : (Int × zS)} (h : f_12 s = some q) : zfr 19465886592221617629360954763701598419084784011156429992191231953117817912019147592393159579938695022727017658432 s q.2 := by
  unfold f_12 at h
  obtain ⟨r2, s3, h1, h⟩ := zb_some h
  have f6 := zfr_tr (zfr_rf _ _) (zfr_sub (m2 := 19465886592221617629360954763701598419084784011156429992191231953117817912019147592393159579938695022727017658432) rfl (fr_43 h1))
  rcases r2 with v4 | c5
  · simp only [ze_l] at h
    obtain ⟨hg7, h⟩ := zg_some h
    cases h
    exact (zfr_tr f6 (zfr_JA rfl rfl))
  · simp only [ze_r] at h
    by_cases hc8 : c5 = 11
    · rw [if_pos hc8] at h
      cases h
      exact f6
    · rw [if_neg hc8] at h
      cases h
theorem fr_46 {s : zS} {q : ((Int ⊕ Nat) × zS)} (h : f_46 s = some q) : zfr 19465886592221617362362575273587838119707070739962364244835654589876100207798344300723216252538849049290890672192 s q.2 := by
  unfold f_46 at h
  by_cases hc1 : (gI s 0 12) = (-1)
  · rw [if_pos hc1] at h
    obtain ⟨r3, s4, h2, h⟩ := zb_some h
    have f5 := zfr_tr (zfr_rf _ _) (zfr_sub (m2 := 19465886592221617362362575273587838119707070739962364244835654589876100207798344300723216252538849049290890672192) rfl (fr_70 h2))
    cases h
    exact f5
  · rw [if_neg hc1] at h
    obtain ⟨r7, s8, h6, h⟩ := zb_some h
    have f9 := zfr_tr (zfr_rf _ _) (zfr_sub (m2 := 19465886592221617362362575273587838119707070739962364244835654589876100207798344300723216252538849049290890672192) rfl (fr_17 h6))
    obtain ⟨hg10, h⟩ := zg_some h
    by_cases hc11 : r7 = 0
    · rw [if_pos hc11] at h
      obtain ⟨r13, s14, h12, h⟩ := zb_some h
      have f15 := zfr_tr f9 (zfr_sub (m2 := 19465886592221617362362575273587838119707070739962364244835654589876100207798344300723216252538849049290890672192) rfl (fr_44 h12))
      obtain ⟨r17, h16, h⟩ := zo_some h
      obtain ⟨hg18, h⟩ := zg_some h
      by_cases hc19 : r17 = 0
      · rw [if_pos hc19] at h
        cases h
        exact f15
      · rw [if_neg hc19] at h
        cases h
        exact f15
    · rw [if_neg hc11] at h
      cases h
      exact f9
theorem fr_13 {s : zS} {q : (Int × zS)} (h : f_13 s = some q) : zfr 19465886592221617362362575273587838119707070739962415666853070877564917550585299217926496963034650098661620316224 s q.2 := by
  unfold f_13 at h
  obtain ⟨r2, s3, h1, h⟩ := zb_some h
  have f6 := zfr_tr (zfr_rf _ _) (zfr_sub (m2 := 19465886592221617362362575273587838119707070739962415666853070877564917550585299217926496963034650098661620316224) rfl (fr_46 h1))
  rcases r2 with v4 | c5
  · simp only [ze_l] at h
    obtain ⟨hg7, h⟩ := zg_some h
    cases h
    exact (zfr_tr f6 (zfr_JA rfl rfl))
  · simp only [ze_r] at h
    by_cases hc8 : c5 = 11
    · rw [if_pos hc8] at h
      cases h
      exact f6
    · rw [if_neg hc8] at h
      cases h

