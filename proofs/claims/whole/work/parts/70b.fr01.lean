/-! FRAMES (1). By program. -/
theorem fr_224 {s : zS} {q : (Int × zS)} (h : f_224 s = some q) : zfr 24530806961244000418279994126137474590424997674306241302591119295726726358624724757120043724404087378968453718660247300310022305880211456 s q.2 := by
  unfold f_224 at h
  by_cases hc1 : (gI s 177 19) = 0
  · rw [if_pos hc1] at h
    exact zfr_tr (zfr_rf _ _) (frj_224_13 h)
  · rw [if_neg hc1] at h
    exact zfr_tr (zfr_rf _ _) (frj_224_13 h)
theorem frj_225_26 {v1 : Int} {v2 : Int} {t1 : Int} {s : zS} {q : (Int × zS)} (h : j_225_26 v1 v2 t1 s = some q) : zfr 21156373251166042075050945776220676286383279560649828240621592108438845240429030974931102571902463044637471174176460073074688 s q.2 := by
  unfold j_225_26 at h
  by_cases hc1 : 0 < (gI (sI s 177 0 t1) 177 0)
  · rw [if_pos hc1] at h
    cases h
    exact (zfr_tr (zfr_rf _ _) (zfr_I rfl))
  · rw [if_neg hc1] at h
    obtain ⟨r3, s4, h2, h⟩ := zb_some h
    have f5 := zfr_tr (zfr_tr (zfr_rf _ _) (zfr_I rfl)) (zfr_sub (m2 := 21156373251166042075050945776220676286383279560649828240621592108438845240429030974931102571902463044637471174176460073074688) rfl (fr_154 h2))
    obtain ⟨r7, s8, h6, h⟩ := zb_some h
    have f9 := zfr_tr f5 (zfr_sub (m2 := 21156373251166042075050945776220676286383279560649828240621592108438845240429030974931102571902463044637471174176460073074688) rfl (fr_195 h6))
    obtain ⟨hg10, h⟩ := zg_some h
    obtain ⟨r12, h11, h⟩ := zo_some h
    obtain ⟨hg13, h⟩ := zg_some h
    cases h
    exact f9
theorem fr_225 {v1 : Int} {v2 : Int} {s : zS} {q : (Int × zS)} (h : f_225 v1 v2 s = some q) : zfr 21156373251166042075050945776220676286383279560649828240621592108438845240429030974931102571902463044637471174176460073074688 s q.2 := by
  unfold f_225 at h
  obtain ⟨r2, h1, h⟩ := zo_some h
  obtain ⟨hg3, h⟩ := zg_some h
  by_cases hc4 : r2 = 0
  · rw [if_pos hc4] at h
    by_cases hc5 : (gI s 177 21) = 0
    · rw [if_pos hc5] at h
      exact zfr_tr (zfr_rf _ _) (frj_225_26 h)
    · rw [if_neg hc5] at h
      exact zfr_tr (zfr_rf _ _) (frj_225_26 h)
  · rw [if_neg hc4] at h
    exact zfr_tr (zfr_rf _ _) (frj_225_26 h)
theorem frb_226_13 {v1 : Int} {v2 : Int} {s : zS} {q : (Int × Int × zS) ⊕ (Int × zS)} (h : b_226_13 v1 v2 s = some q) : zfr 24530806944997888929290844558295203980211616599483367814060944050587197565960928031696456089404237343202010878245845673583048252194816000 s (Sum.elim (fun e : (Int × Int × zS) => e.2.2) (fun e : (Int × zS) => e.2) q) := by
  unfold b_226_13 at h
  obtain ⟨hg1, h⟩ := zg_some h
  obtain ⟨hg2, h⟩ := zg_some h
  by_cases hc3 : v2 < (1 * 2 ^ zsh (gI s 177 13))
  · rw [if_pos hc3] at h
    obtain ⟨r5, s6, h4, h⟩ := zb_some h
    have f7 := zfr_tr (zfr_rf _ _) (zfr_sub (m2 := 24530806944997888929290844558295203980211616599483367814060944050587197565960928031696456089404237343202010878245845673583048252194816000) rfl (fr_194 h4))
    obtain ⟨hg8, h⟩ := zg_some h
    by_cases hc9 : r5 = 0
    · rw [if_pos hc9] at h
      cases h
      exact f7
    · rw [if_neg hc9] at h
      cases h
      exact f7
  · rw [if_neg hc3] at h
    cases h
    exact (zfr_rf _ _)
theorem frl_226_13 {n : Nat} {e0 : (Int × Int × zS)} {t : (Int × zS)} (h : zlp (fun (q : Int × Int × zS) => b_226_13 q.1 q.2.1 q.2.2) n e0 = some t) : zfr 24530806944997888929290844558295203980211616599483367814060944050587197565960928031696456089404237343202010878245845673583048252194816000 ((fun e : (Int × Int × zS) => e.2.2) e0) ((fun e : (Int × zS) => e.2) t) := zfr_lp (f := (fun e : (Int × Int × zS) => e.2.2)) (g := (fun e : (Int × zS) => e.2)) (fun e q h1 => frb_226_13 h1) n e0 t h
theorem fr_226 {s : zS} {q : (Int × zS)} (h : f_226 s = some q) : zfr 24530806944997888929290844558295203980211616599483367814060944050587197565960928031696456089404237343202010878245845673583048252194816000 s q.2 := by
  unfold f_226 at h
  obtain ⟨r2, s3, h1, h⟩ := zb_some h
  have f4 := zfr_tr (zfr_tr (zfr_rf _ _) (zfr_I rfl)) (zfr_sub (m2 := 24530806944997888929290844558295203980211616599483367814060944050587197565960928031696456089404237343202010878245845673583048252194816000) rfl (fr_154 h1))
  obtain ⟨e5, h6, h⟩ := zo_some h
  have f7 : zfr 24530806944997888929290844558295203980211616599483367814060944050587197565960928031696456089404237343202010878245845673583048252194816000 s e5.2 := zfr_tr f4 (frl_226_13 h6)
  cases h
  exact f7
theorem frb_230_49 {v1 : Int} {v2 : Int} {v3 : Int} {v4 : Int} {v5 : Int} {v6 : Int} {v7 : Int} {v8 : Int} {s : zS} {q : (Int × Int × Int × zS) ⊕ (Int × zS)} (h : b_230_49 v1 v2 v3 v4 v5 v6 v7 v8 s = some q) : zfr 25711008708143844408671393477458601640355247900524685364822016 s (Sum.elim (fun e : (Int × Int × Int × zS) => e.2.2.2) (fun e : (Int × zS) => e.2) q) := by
  unfold b_230_49 at h
  obtain ⟨hg1, h⟩ := zg_some h
  by_cases hc2 : v8 < (gI s 177 1)
  · rw [if_pos hc2] at h
    obtain ⟨hg3, h⟩ := zg_some h
    obtain ⟨hg4, h⟩ := zg_some h
    cases h
    exact (zfr_tr (zfr_rf _ _) (zfr_IA rfl rfl))
  · rw [if_neg hc2] at h
    cases h
    exact (zfr_rf _ _)
theorem frl_230_49 {v1 : Int} {v2 : Int} {v3 : Int} {v4 : Int} {v5 : Int} {n : Nat} {e0 : (Int × Int × Int × zS)} {t : (Int × zS)} (h : zlp (fun (q : Int × Int × Int × zS) => b_230_49 v1 v2 v3 v4 v5 q.1 q.2.1 q.2.2.1 q.2.2.2) n e0 = some t) : zfr 25711008708143844408671393477458601640355247900524685364822016 ((fun e : (Int × Int × Int × zS) => e.2.2.2) e0) ((fun e : (Int × zS) => e.2) t) := zfr_lp (f := (fun e : (Int × Int × Int × zS) => e.2.2.2)) (g := (fun e : (Int × zS) => e.2)) (fun e q h1 => frb_230_49 h1) n e0 t h
theorem frb_230_33 {v1 : Int} {v2 : Int} {v3 : Int} {v4 : Int} {v5 : Int} {s : zS} {q : (Int × Int × zS) ⊕ (Int × zS)} (h : b_230_33 v1 v2 v3 v4 v5 s = some q) : zfr 25711008708143844408671393477458601640355247900524685364822016 s (Sum.elim (fun e : (Int × Int × zS) => e.2.2) (fun e : (Int × zS) => e.2) q) := by
  unfold b_230_33 at h
  obtain ⟨hg1, h⟩ := zg_some h
  obtain ⟨hg2, h⟩ := zg_some h
  by_cases hc3 : v5 < v3
  · rw [if_pos hc3] at h
    obtain ⟨e4, h5, h⟩ := zo_some h
    have f6 : zfr 25711008708143844408671393477458601640355247900524685364822016 s e4.2 := zfr_tr (zfr_rf _ _) (frl_230_49 h5)
    obtain ⟨hg7, h⟩ := zg_some h
    obtain ⟨hg8, h⟩ := zg_some h
    by_cases hc9 : e4.1 = ((1 * 2 ^ zsh (gI e4.2 177 1)) - 1)
    · rw [if_pos hc9] at h
      obtain ⟨r11, h10, h⟩ := zo_some h
      obtain ⟨hg12, h⟩ := zg_some h
      by_cases hc13 : r11 = 0
      · rw [if_pos hc13] at h
        cases h
        exact f6
      · rw [if_neg hc13] at h
        obtain ⟨hg14, h⟩ := zg_some h
        by_cases hc15 : v2 = 0
        · rw [if_pos hc15] at h
          obtain ⟨r17, h16, h⟩ := zo_some h
          obtain ⟨hg18, h⟩ := zg_some h
          obtain ⟨hg19, h⟩ := zg_some h
          by_cases hc20 : r17 < v1
          · rw [if_pos hc20] at h
            cases h
            exact f6
          · rw [if_neg hc20] at h
            cases h
            exact f6
        · rw [if_neg hc15] at h
          cases h
          exact f6
    · rw [if_neg hc9] at h
      cases h
      exact f6
  · rw [if_neg hc3] at h
    cases h
    exact (zfr_rf _ _)
theorem frl_230_33 {v1 : Int} {v2 : Int} {v3 : Int} {n : Nat} {e0 : (Int × Int × zS)} {t : (Int × zS)} (h : zlp (fun (q : Int × Int × zS) => b_230_33 v1 v2 v3 q.1 q.2.1 q.2.2) n e0 = some t) : zfr 25711008708143844408671393477458601640355247900524685364822016 ((fun e : (Int × Int × zS) => e.2.2) e0) ((fun e : (Int × zS) => e.2) t) := zfr_lp (f := (fun e : (Int × Int × zS) => e.2.2)) (g := (fun e : (Int × zS) => e.2)) (fun e q h1 => frb_230_33 h1) n e0 t h
theorem fr_230 {v1 : Int} {v2 : Int} {s : zS} {q : (Int × zS)} (h : f_230 v1 v2 s = some q) : zfr 25711008708143844408671393477458601640355247900524685364822016 s q.2 := by
  unfold f_230 at h
  obtain ⟨e1, h2, h⟩ := zo_some h
  obtain ⟨e3, h4, h⟩ := zo_some h
  have f5 : zfr 25711008708143844408671393477458601640355247900524685364822016 s e3.2 := zfr_tr (zfr_rf _ _) (frl_230_33 h4)
  cases h
  exact f5
theorem fr_229 {v1 : Int} {s : zS} {q : (Int × zS)} (h : f_229 v1 s = some q) : zfr 25711008708143844408671393477458601640355247900524685364822016 s q.2 := by
  unfold f_229 at h
  obtain ⟨r2, s3, h1, h⟩ := zb_some h
  have f4 := zfr_tr (zfr_rf _ _) (zfr_sub (m2 := 25711008708143844408671393477458601640355247900524685364822016) rfl (fr_230 h1))
  obtain ⟨hg5, h⟩ := zg_some h
  by_cases hc6 : r2 = 0
  · rw [if_pos hc6] at h
    cases h
    exact f4
  · rw [if_neg hc6] at h
    cases h
    exact f4
theorem frb_228_8 {v1 : Int} {v2 : Int} {s : zS} {q : (Int × Int × zS) ⊕ (Int × zS)} (h : b_228_8 v1 v2 s = some q) : zfr 24530806944997886347040966471386614324292444596471493484355151221363684735327282499756977916971714107034116199748369485580400964812144640 s (Sum.elim (fun e : (Int × Int × zS) => e.2.2) (fun e : (Int × zS) => e.2) q) := by
  unfold b_228_8 at h
  obtain ⟨hg1, h⟩ := zg_some h
  obtain ⟨hg2, h⟩ := zg_some h
  by_cases hc3 : v2 < (1 * 2 ^ zsh (gI s 177 13))
  · rw [if_pos hc3] at h
    obtain ⟨r5, s6, h4, h⟩ := zb_some h
    have f7 := zfr_tr (zfr_rf _ _) (zfr_sub (m2 := 24530806944997886347040966471386614324292444596471493484355151221363684735327282499756977916971714107034116199748369485580400964812144640) rfl (fr_194 h4))
    obtain ⟨hg8, h⟩ := zg_some h
    by_cases hc9 : r5 = 0
    · rw [if_pos hc9] at h
      cases h
      exact f7
    · rw [if_neg hc9] at h
      obtain ⟨r11, s12, h10, h⟩ := zb_some h
      have f13 := zfr_tr f7 (zfr_sub (m2 := 24530806944997886347040966471386614324292444596471493484355151221363684735327282499756977916971714107034116199748369485580400964812144640) rfl (fr_229 h10))
      obtain ⟨hg14, h⟩ := zg_some h
      by_cases hc15 : r11 = 0
      · rw [if_pos hc15] at h
        cases h
        exact f13
      · rw [if_neg hc15] at h
        cases h
        exact f13
  · rw [if_neg hc3] at h
    cases h
    exact (zfr_rf _ _)
theorem frl_228_8 {n : Nat} {e0 : (Int × Int × zS)} {t : (Int × zS)} (h : zlp (fun (q : Int × Int × zS) => b_228_8 q.1 q.2.1 q.2.2) n e0 = some t) : zfr 24530806944997886347040966471386614324292444596471493484355151221363684735327282499756977916971714107034116199748369485580400964812144640 ((fun e : (Int × Int × zS) => e.2.2) e0) ((fun e : (Int × zS) => e.2) t) := zfr_lp (f := (fun e : (Int × Int × zS) => e.2.2)) (g := (fun e : (Int × zS) => e.2)) (fun e q h1 => frb_228_8 h1) n e0 t h
theorem fr_228 {s : zS} {q : (Int × zS)} (h : f_228 s = some q) : zfr 24530806944997886347040966471386614324292444596471493484355151221363684735327282499756977916971714107034116199748369485580400964812144640 s q.2 := by
  unfold f_228 at h
  obtain ⟨r2, s3, h1, h⟩ := zb_some h
  have f4 := zfr_tr (zfr_rf _ _) (zfr_sub (m2 := 24530806944997886347040966471386614324292444596471493484355151221363684735327282499756977916971714107034116199748369485580400964812144640) rfl (fr_154 h1))
  obtain ⟨e5, h6, h⟩ := zo_some h
  have f7 : zfr 24530806944997886347040966471386614324292444596471493484355151221363684735327282499756977916971714107034116199748369485580400964812144640 s e5.2 := zfr_tr f4 (frl_228_8 h6)
  cases h
  exact f7
theorem fr_227 {s : zS} {q : (Int × zS)} (h : f_227 s = some q) : zfr 24530806944997888929290844558295203980211616599483367814060944050587197565986639040404599933812908736679469479886200921483572937559638016 s q.2 := by
  unfold f_227 at h
  obtain ⟨r2, s3, h1, h⟩ := zb_some h
  have f4 := zfr_tr (zfr_tr (zfr_rf _ _) (zfr_I rfl)) (zfr_sub (m2 := 24530806944997888929290844558295203980211616599483367814060944050587197565986639040404599933812908736679469479886200921483572937559638016) rfl (fr_228 h1))
  cases h
  exact f4
theorem fr_235 {s : zS} {q : (Int × zS)} (h : f_235 s = some q) : zfr 21156373251166042075050945776220676286383279560649828240621592133848553065274314706938378157047096697019806013366871781277696 s q.2 := by
  unfold f_235 at h
  obtain ⟨r2, s3, h1, h⟩ := zb_some h
  have f4 := zfr_tr (zfr_tr (zfr_rf _ _) (zfr_I rfl)) (zfr_sub (m2 := 21156373251166042075050945776220676286383279560649828240621592133848553065274314706938378157047096697019806013366871781277696) rfl (fr_154 h1))
  obtain ⟨r6, s7, h5, h⟩ := zb_some h
  have f8 := zfr_tr f4 (zfr_sub (m2 := 21156373251166042075050945776220676286383279560649828240621592133848553065274314706938378157047096697019806013366871781277696) rfl (fr_230 h5))
  cases h
  exact f8
theorem frb_236_42 {v1 : Int} {v2 : Int} {s : zS} {q : (Int × Int × zS) ⊕ (Int × zS)} (h : b_236_42 v1 v2 s = some q) : zfr 24530806944997888929290844558295203980211616599483367814060944050587197565960928424015314551071785082938849828724996679980263531196973056 s (Sum.elim (fun e : (Int × Int × zS) => e.2.2) (fun e : (Int × zS) => e.2) q) := by
  unfold b_236_42 at h
  obtain ⟨hg1, h⟩ := zg_some h
  by_cases hc2 : v2 < (gI s 177 18)
  · rw [if_pos hc2] at h
    obtain ⟨r4, s5, h3, h⟩ := zb_some h
    have f6 := zfr_tr (zfr_rf _ _) (zfr_sub (m2 := 24530806944997888929290844558295203980211616599483367814060944050587197565960928424015314551071785082938849828724996679980263531196973056) rfl (fr_193 h3))
    obtain ⟨hg7, h⟩ := zg_some h
    by_cases hc8 : r4 = (-1)
    · rw [if_pos hc8] at h
      cases h
      exact f6
    · rw [if_neg hc8] at h
      cases h
      exact f6
  · rw [if_neg hc2] at h
    cases h
    exact (zfr_rf _ _)
theorem frl_236_42 {n : Nat} {e0 : (Int × Int × zS)} {t : (Int × zS)} (h : zlp (fun (q : Int × Int × zS) => b_236_42 q.1 q.2.1 q.2.2) n e0 = some t) : zfr 24530806944997888929290844558295203980211616599483367814060944050587197565960928424015314551071785082938849828724996679980263531196973056 ((fun e : (Int × Int × zS) => e.2.2) e0) ((fun e : (Int × zS) => e.2) t) := zfr_lp (f := (fun e : (Int × Int × zS) => e.2.2)) (g := (fun e : (Int × zS) => e.2)) (fun e q h1 => frb_236_42 h1) n e0 t h
theorem frj_236_89_114 {v1 : Int} {v2 : Int} {v3 : Int} {t1 : Int} {t2 : Int} {s : zS} {q : (Int × Int × zS) ⊕ (Int × zS)} (h : j_236_89_114 v1 v2 v3 t1 t2 s = some q) : zfr 24530806944997888929290844558295203980211616599483367814060944050587197565960928424015314551071785082938849828724996679980263531196973056 s (Sum.elim (fun e : (Int × Int × zS) => e.2.2) (fun e : (Int × zS) => e.2) q) := by
  unfold j_236_89_114 at h
  obtain ⟨hg1, h⟩ := zg_some h
  obtain ⟨hg2, h⟩ := zg_some h
  obtain ⟨hg3, h⟩ := zg_some h
  by_cases hc4 : (gI (sI s 188 t1 t2) 188 v3) = 0
  · rw [if_pos hc4] at h
    cases h
    exact (zfr_tr (zfr_rf _ _) (zfr_IA rfl rfl))
  · rw [if_neg hc4] at h
    cases h
    exact (zfr_tr (zfr_rf _ _) (zfr_IA rfl rfl))
theorem frb_236_89 {v1 : Int} {v2 : Int} {v3 : Int} {s : zS} {q : (Int × Int × zS) ⊕ (Int × zS)} (h : b_236_89 v1 v2 v3 s = some q) : zfr 24530806944997888929290844558295203980211616599483367814060944050587197565960928424015314551071785082938849828724996679980263531196973056 s (Sum.elim (fun e : (Int × Int × zS) => e.2.2) (fun e : (Int × zS) => e.2) q) := by
  unfold b_236_89 at h
  obtain ⟨hg1, h⟩ := zg_some h
  by_cases hc2 : v3 < 16
  · rw [if_pos hc2] at h
    obtain ⟨hg3, h⟩ := zg_some h
    by_cases hc4 : (zand (v1 / 2 ^ zsh v3) 1) = 1
    · rw [if_pos hc4] at h
      exact zfr_tr (zfr_rf _ _) (frj_236_89_114 h)
    · rw [if_neg hc4] at h
      exact zfr_tr (zfr_rf _ _) (frj_236_89_114 h)
  · rw [if_neg hc2] at h
    cases h
    exact (zfr_rf _ _)
theorem frl_236_89 {v1 : Int} {n : Nat} {e0 : (Int × Int × zS)} {t : (Int × zS)} (h : zlp (fun (q : Int × Int × zS) => b_236_89 v1 q.1 q.2.1 q.2.2) n e0 = some t) : zfr 24530806944997888929290844558295203980211616599483367814060944050587197565960928424015314551071785082938849828724996679980263531196973056 ((fun e : (Int × Int × zS) => e.2.2) e0) ((fun e : (Int × zS) => e.2) t) := zfr_lp (f := (fun e : (Int × Int × zS) => e.2.2)) (g := (fun e : (Int × zS) => e.2)) (fun e q h1 => frb_236_89 h1) n e0 t h
theorem frj_236_19 {t1 : Int} {s : zS} {q : (Int × zS)} (h : j_236_19 t1 s = some q) : zfr 24530806944997888929290844558295203980211616599483367814060944050587197565960928424015314551071785082938849828724996679980263531196973056 s q.2 := by
  unfold j_236_19 at h
  by_cases hc1 : 0 < (gI (sI s 177 0 t1) 177 0)
  · rw [if_pos hc1] at h
    cases h
    exact (zfr_tr (zfr_rf _ _) (zfr_I rfl))
  · rw [if_neg hc1] at h
    obtain ⟨e2, h3, h⟩ := zo_some h
    have f4 : zfr 24530806944997888929290844558295203980211616599483367814060944050587197565960928424015314551071785082938849828724996679980263531196973056 s e2.2 := zfr_tr (zfr_tr (zfr_rf _ _) (zfr_I rfl)) (frl_236_42 h3)
    obtain ⟨e5, h6, h⟩ := zo_some h
    have f7 : zfr 24530806944997888929290844558295203980211616599483367814060944050587197565960928424015314551071785082938849828724996679980263531196973056 s e5.2 := zfr_tr f4 (frl_236_89 h6)
    cases h
    exact f7
theorem fr_236 {s : zS} {q : (Int × zS)} (h : f_236 s = some q) : zfr 24530806944997888929290844558295203980211616599483367814060944050587197565960928424015314551071785082938849828724996679980263531196973056 s q.2 := by
  unfold f_236 at h
  obtain ⟨r2, s3, h1, h⟩ := zb_some h
  have f4 := zfr_tr (zfr_rf _ _) (zfr_sub (m2 := 24530806944997888929290844558295203980211616599483367814060944050587197565960928424015314551071785082938849828724996679980263531196973056) rfl (fr_193 h1))
  obtain ⟨hg5, h⟩ := zg_some h
  by_cases hc6 : r2 = (-1)
  · rw [if_pos hc6] at h
    exact zfr_tr f4 (frj_236_19 h)
  · rw [if_neg hc6] at h
    exact zfr_tr f4 (frj_236_19 h)
theorem frj_237_13 {v1 : Int} {s : zS} {q : (Int × zS)} (h : j_237_13 v1 s = some q) : zfr 2582249878086908589655919172003011874329705792829223512830659356540647622016841194629645353280137831435903171972747493376 s q.2 := by
  unfold j_237_13 at h
  by_cases hc1 : (gI (sI s 177 0 1) 177 0) = 0
  · rw [if_pos hc1] at h
    obtain ⟨hg2, h⟩ := zg_some h
    by_cases hc3 : (gI s 188 v1) = 0
    · rw [if_pos hc3] at h
      cases h
      exact (zfr_tr (zfr_rf _ _) (zfr_I rfl))
    · rw [if_neg hc3] at h
      cases h
      exact (zfr_tr (zfr_rf _ _) (zfr_I rfl))
  · rw [if_neg hc1] at h
    cases h
    exact (zfr_tr (zfr_rf _ _) (zfr_I rfl))
theorem fr_237 {v1 : Int} {s : zS} {q : (Int × zS)} (h : f_237 v1 s = some q) : zfr 2582249878086908589655919172003011874329705792829223512830659356540647622016841194629645353280137831435903171972747493376 s q.2 := by
  unfold f_237 at h
  obtain ⟨hg1, h⟩ := zg_some h
  by_cases hc2 : v1 < 0
  · rw [if_pos hc2] at h
    exact zfr_tr (zfr_rf _ _) (frj_237_13 h)
  · rw [if_neg hc2] at h
    by_cases hc3 : v1 < (gI s 177 18)
    · rw [if_pos hc3] at h
      by_cases hc4 : (gI (sI s 177 0 0) 177 0) = 0
      · rw [if_pos hc4] at h
        obtain ⟨hg5, h⟩ := zg_some h
        by_cases hc6 : (gI s 188 v1) = 0
        · rw [if_pos hc6] at h
          cases h
          exact (zfr_tr (zfr_rf _ _) (zfr_I rfl))
        · rw [if_neg hc6] at h
          cases h
          exact (zfr_tr (zfr_rf _ _) (zfr_I rfl))
      · rw [if_neg hc4] at h
        cases h
        exact (zfr_tr (zfr_rf _ _) (zfr_I rfl))
    · rw [if_neg hc3] at h
      exact zfr_tr (zfr_rf _ _) (frj_237_13 h)
theorem frj_239_13 {t1 : Int} {s : zS} {q : (Int × zS)} (h : j_239_13 t1 s = some q) : zfr 23240248902782177306903272548027106868967352135463011615475934208865828598151570751666808179521240482923128547754727440384 s q.2 := by
  unfold j_239_13 at h
  by_cases hc1 : 0 < (gI (sI s 177 0 t1) 177 0)
  · rw [if_pos hc1] at h
    by_cases hc2 : (gI (sI s 177 0 t1) 177 0) = 0
    · rw [if_pos hc2] at h
      cases h
      exact (zfr_tr (zfr_tr (zfr_rf _ _) (zfr_I rfl)) (zfr_I rfl))
    · rw [if_neg hc2] at h
      cases h
      exact (zfr_tr (zfr_tr (zfr_rf _ _) (zfr_I rfl)) (zfr_I rfl))
  · rw [if_neg hc1] at h
    by_cases hc3 : (gI (sI s 177 0 t1) 177 0) = 0
    · rw [if_pos hc3] at h
      cases h
      exact (zfr_tr (zfr_rf _ _) (zfr_I rfl))
    · rw [if_neg hc3] at h
      cases h
      exact (zfr_tr (zfr_rf _ _) (zfr_I rfl))
theorem fr_239 {s : zS} {q : (Int × zS)} (h : f_239 s = some q) : zfr 23240248902782177306903272548027106868967352135463011615475934208865828598151570751666808179521240482923128547754727440384 s q.2 := by
  unfold f_239 at h
  by_cases hc1 : (gI s 177 21) = 0
  · rw [if_pos hc1] at h
    exact zfr_tr (zfr_rf _ _) (frj_239_13 h)
  · rw [if_neg hc1] at h
    exact zfr_tr (zfr_rf _ _) (frj_239_13 h)
theorem fr_238 {s : zS} {q : (Int × zS)} (h : f_238 s = some q) : zfr 24540045458757527369069464172931166631794265736146274948210984601851973439729692303544596196439383745190414486193232236419123909486444544 s q.2 := by
  unfold f_238 at h
  obtain ⟨r2, s3, h1, h⟩ := zb_some h
  have f4 := zfr_tr (zfr_rf _ _) (zfr_sub (m2 := 24540045458757527369069464172931166631794265736146274948210984601851973439729692303544596196439383745190414486193232236419123909486444544) rfl (fr_239 h1))
  obtain ⟨hg5, h⟩ := zg_some h
  by_cases hc6 : r2 = 0
  · rw [if_pos hc6] at h
    cases h
    exact f4
  · rw [if_neg hc6] at h
    obtain ⟨r8, s9, h7, h⟩ := zb_some h
    have f10 := zfr_tr f4 (zfr_sub (m2 := 24540045458757527369069464172931166631794265736146274948210984601851973439729692303544596196439383745190414486193232236419123909486444544) rfl (fr_156 h7))
    obtain ⟨hg11, h⟩ := zg_some h
    by_cases hc12 : r8 = 0
    · rw [if_pos hc12] at h
      cases h
      exact f10
    · rw [if_neg hc12] at h
      obtain ⟨r14, s15, h13, h⟩ := zb_some h
      have f16 := zfr_tr (zfr_tr f10 (zfr_I rfl)) (zfr_sub (m2 := 24540045458757527369069464172931166631794265736146274948210984601851973439729692303544596196439383745190414486193232236419123909486444544) rfl (fr_154 h13))
      obtain ⟨r18, s19, h17, h⟩ := zb_some h
      have f20 := zfr_tr f16 (zfr_sub (m2 := 24540045458757527369069464172931166631794265736146274948210984601851973439729692303544596196439383745190414486193232236419123909486444544) rfl (fr_195 h17))
      obtain ⟨r22, s23, h21, h⟩ := zb_some h
      have f24 := zfr_tr f20 (zfr_sub (m2 := 24540045458757527369069464172931166631794265736146274948210984601851973439729692303544596196439383745190414486193232236419123909486444544) rfl (fr_199 h21))
      obtain ⟨r26, h25, h⟩ := zo_some h
      cases h
      exact (zfr_tr (zfr_tr f24 (zfr_J rfl)) (zfr_J rfl))
theorem fr_240 {v1 : Int} {s : zS} {q : (Int × zS)} (h : f_240 v1 s = some q) : zfr 2582249878086908589655919172003011874329705792829223512830659356540647622016841194629645353280137831435903171972747493376 s q.2 := by
  unfold f_240 at h
  obtain ⟨hg1, h⟩ := zg_some h
  by_cases hc2 : v1 < 0
  · rw [if_pos hc2] at h
    cases h
    exact (zfr_tr (zfr_rf _ _) (zfr_I rfl))
  · rw [if_neg hc2] at h
    by_cases hc3 : v1 < 125
    · rw [if_pos hc3] at h
      obtain ⟨r5, h4, h⟩ := zo_some h
      obtain ⟨hg6, h⟩ := zg_some h
      by_cases hc7 : r5 = 0
      · rw [if_pos hc7] at h
        cases h
        exact (zfr_tr (zfr_rf _ _) (zfr_I rfl))
      · rw [if_neg hc7] at h
        cases h
        exact (zfr_tr (zfr_rf _ _) (zfr_I rfl))
    · rw [if_neg hc3] at h
      cases h
      exact (zfr_tr (zfr_rf _ _) (zfr_I rfl))
theorem fr_241 {s : zS} {q : (Int × zS)} (h : f_241 s = some q) : zfr 24540045307127153471837401539736640936469375704466122388596015647216371374867589532924444936440783411370281308992150386967366075089420288 s q.2 := by
  unfold f_241 at h
  obtain ⟨r2, s3, h1, h⟩ := zb_some h
  have f4 := zfr_tr (zfr_rf _ _) (zfr_sub (m2 := 24540045307127153471837401539736640936469375704466122388596015647216371374867589532924444936440783411370281308992150386967366075089420288) rfl (fr_239 h1))
  obtain ⟨hg5, h⟩ := zg_some h
  by_cases hc6 : r2 = 0
  · rw [if_pos hc6] at h
    cases h
    exact f4
  · rw [if_neg hc6] at h
    obtain ⟨r8, s9, h7, h⟩ := zb_some h
    have f10 := zfr_tr f4 (zfr_sub (m2 := 24540045307127153471837401539736640936469375704466122388596015647216371374867589532924444936440783411370281308992150386967366075089420288) rfl (fr_156 h7))
    obtain ⟨hg11, h⟩ := zg_some h
    by_cases hc12 : r8 = 0
    · rw [if_pos hc12] at h
      cases h
      exact f10
    · rw [if_neg hc12] at h
      obtain ⟨r14, s15, h13, h⟩ := zb_some h
      have f16 := zfr_tr f10 (zfr_sub (m2 := 24540045307127153471837401539736640936469375704466122388596015647216371374867589532924444936440783411370281308992150386967366075089420288) rfl (fr_154 h13))
      obtain ⟨r18, s19, h17, h⟩ := zb_some h
      have f20 := zfr_tr f16 (zfr_sub (m2 := 24540045307127153471837401539736640936469375704466122388596015647216371374867589532924444936440783411370281308992150386967366075089420288) rfl (fr_195 h17))
      obtain ⟨r22, s23, h21, h⟩ := zb_some h
      have f24 := zfr_tr f20 (zfr_sub (m2 := 24540045307127153471837401539736640936469375704466122388596015647216371374867589532924444936440783411370281308992150386967366075089420288) rfl (fr_198 h21))
      obtain ⟨hg25, h⟩ := zg_some h
      by_cases hc26 : r22 = 0
      · rw [if_pos hc26] at h
        cases h
        exact f24
      · rw [if_neg hc26] at h
        cases h
        exact f24
theorem fr_242 {v1 : Int} {s : zS} {q : (Int × zS)} (h : f_242 v1 s = some q) : zfr 21156373251166042075050945776220676286383279560649828240621592108137544357130470298266984679588495056664558112842186416455680 s q.2 := by
  unfold f_242 at h
  obtain ⟨r2, s3, h1, h⟩ := zb_some h
  have f4 := zfr_tr (zfr_tr (zfr_rf _ _) (zfr_I rfl)) (zfr_sub (m2 := 21156373251166042075050945776220676286383279560649828240621592108137544357130470298266984679588495056664558112842186416455680) rfl (fr_154 h1))
  obtain ⟨hg5, h⟩ := zg_some h
  by_cases hc6 : t_242_10 v1 = 56
  · rw [if_pos hc6] at h
    cases h
    exact f4
  · rw [if_neg hc6] at h
    by_cases hc7 : t_242_10 v1 = 61
    · rw [if_pos hc7] at h
      cases h
      exact f4
    · rw [if_neg hc7] at h
      by_cases hc8 : t_242_10 v1 = 66
      · rw [if_pos hc8] at h
        cases h
        exact f4
      · rw [if_neg hc8] at h
        by_cases hc9 : t_242_10 v1 = 71
        · rw [if_pos hc9] at h
          cases h
          exact f4
        · rw [if_neg hc9] at h
          by_cases hc10 : t_242_10 v1 = 76
          · rw [if_pos hc10] at h
            by_cases hc11 : (gI s3 177 19) = 0
            · rw [if_pos hc11] at h
              cases h
              exact f4
            · rw [if_neg hc11] at h
              cases h
              exact f4
          · rw [if_neg hc10] at h
            by_cases hc12 : t_242_10 v1 = 89
            · rw [if_pos hc12] at h
              by_cases hc13 : (gI s3 177 21) = 0
              · rw [if_pos hc13] at h
                cases h
                exact f4
              · rw [if_neg hc13] at h
                cases h
                exact f4
            · rw [if_neg hc12] at h
              by_cases hc14 : t_242_10 v1 = 102
              · rw [if_pos hc14] at h
                cases h
                exact f4
              · rw [if_neg hc14] at h
                by_cases hc15 : t_242_10 v1 = 107
                · rw [if_pos hc15] at h
                  cases h
                  exact f4
                · rw [if_neg hc15] at h
                  by_cases hc16 : t_242_10 v1 = 112
                  · rw [if_pos hc16] at h
                    cases h
                    exact f4
                  · rw [if_neg hc16] at h
                    cases h
theorem fr_138 {c0 : Nat} {s : zS} {q : (Unit × zS)} (h : f_138 c0 s = some q) : zfr 11972621413014756705924586149611790497021398855188480 s q.2 := by
  unfold f_138 at h
  obtain ⟨hg1, h⟩ := zg_some h
  cases h
  exact (zfr_tr (zfr_tr (zfr_rf _ _) (zfr_IC0 rfl hg1)) (zfr_IC0 rfl hg1))
theorem fr_61 {s : zS} {q : (Unit × zS)} (h : f_61 s = some q) : zfr 26876936906133650526689307366821331337459745966815794418799869211565502454161931344570529919259285389312 s q.2 := by
  unfold f_61 at h
  cases h
  exact (zfr_tr (zfr_tr (zfr_rf _ _) (zfr_I rfl)) (zfr_I rfl))
theorem frb_68_41 {v1 : Int} {v2 : Int} {v3 : Int} {s : zS} {q : (Int × zS) ⊕ ((zS) ⊕ (Unit × zS))} (h : b_68_41 v1 v2 v3 s = some q) : zfr 44794894843556084211148845611368885562432909944692990697999782019275837423603218907617549865432142315520 s (Sum.elim (fun e : (Int × zS) => e.2) (fun t : ((zS) ⊕ (Unit × zS)) => Sum.elim (fun e : (zS) => e) (fun q => q.2) t) q) := by
  unfold b_68_41 at h
  obtain ⟨r2, h1, h⟩ := zo_some h
  obtain ⟨hg3, h⟩ := zg_some h
  obtain ⟨hg4, h⟩ := zg_some h
  by_cases hc5 : (v3 + 1) < r2
  · rw [if_pos hc5] at h
    obtain ⟨r7, h6, h⟩ := zo_some h
    obtain ⟨hg8, h⟩ := zg_some h
    obtain ⟨hg9, h⟩ := zg_some h
    by_cases hc10 : r7 = v1
    · rw [if_pos hc10] at h
      obtain ⟨r12, h11, h⟩ := zo_some h
      obtain ⟨hg13, h⟩ := zg_some h
      obtain ⟨hg14, h⟩ := zg_some h
      by_cases hc15 : r12 = v2
      · rw [if_pos hc15] at h
        obtain ⟨hg16, h⟩ := zg_some h
        cases h
        exact (zfr_tr (zfr_tr (zfr_rf _ _) (zfr_I rfl)) (zfr_I rfl))
      · rw [if_neg hc15] at h
        cases h
        exact (zfr_rf _ _)
    · rw [if_neg hc10] at h
      cases h
      exact (zfr_rf _ _)
  · rw [if_neg hc5] at h
    cases h
    exact (zfr_rf _ _)
theorem frl_68_41 {v1 : Int} {v2 : Int} {n : Nat} {e0 : (Int × zS)} {t : ((zS) ⊕ (Unit × zS))} (h : zlp (fun (q : Int × zS) => b_68_41 v1 v2 q.1 q.2) n e0 = some t) : zfr 44794894843556084211148845611368885562432909944692990697999782019275837423603218907617549865432142315520 ((fun e : (Int × zS) => e.2) e0) ((fun t : ((zS) ⊕ (Unit × zS)) => Sum.elim (fun e : (zS) => e) (fun q => q.2) t) t) := zfr_lp (f := (fun e : (Int × zS) => e.2)) (g := (fun t : ((zS) ⊕ (Unit × zS)) => Sum.elim (fun e : (zS) => e) (fun q => q.2) t)) (fun e q h1 => frb_68_41 h1) n e0 t h
theorem frj_68_38 {v1 : Int} {t0 : Int} {s : zS} {q : (Unit × zS)} (h : j_68_38 v1 t0 s = some q) : zfr 44794894843556084211148845611368885562432909944692990697999782019275837423603218907617549865432142315520 s q.2 := by
  unfold j_68_38 at h
  obtain ⟨e1, h2, h⟩ := zo_some h
  rcases e1 with e4 | q5
  · simp only [ze_l] at h
    have f3 : zfr 44794894843556084211148845611368885562432909944692990697999782019275837423603218907617549865432142315520 s e4 := zfr_tr (zfr_rf _ _) (frl_68_41 h2)
    obtain ⟨r7, h6, h⟩ := zo_some h
    obtain ⟨hg8, h⟩ := zg_some h
    by_cases hc9 : r7 < 0
    · rw [if_pos hc9] at h
      cases h
      exact (zfr_tr (zfr_tr f3 (zfr_I rfl)) (zfr_I rfl))
    · rw [if_neg hc9] at h
      cases h
      exact (zfr_tr (zfr_tr f3 (zfr_I rfl)) (zfr_I rfl))
  · cases h
    exact zfr_tr (zfr_rf _ _) (frl_68_41 h2)
theorem fr_68 {s : zS} {q : (Unit × zS)} (h : f_68 s = some q) : zfr 44794894843556084211148845611368885562432909944692990697999782019275837423603218907617549865432142315520 s q.2 := by
  unfold f_68 at h
  obtain ⟨hg1, h⟩ := zg_some h
  obtain ⟨hg2, h⟩ := zg_some h
  by_cases hc3 : ((gI s 8 2) + 1) < (gI s 8 1)
  · rw [if_pos hc3] at h
    obtain ⟨hg4, h⟩ := zg_some h
    exact zfr_tr (zfr_rf _ _) (frj_68_38 h)
  · rw [if_neg hc3] at h
    exact zfr_tr (zfr_rf _ _) (frj_68_38 h)
theorem frb_67_5 {s : zS} {q : (zS) ⊕ (zS)} (h : b_67_5 s = some q) : zfr 331482221842315023162501457524129753162003533590728131165198386942641196934663819916369869004197853134848 s (Sum.elim (fun e : (zS) => e) (fun e : (zS) => e) q) := by
  unfold b_67_5 at h
  by_cases hc1 : (gI s 8 2) < (gI s 8 1)
  · rw [if_pos hc1] at h
    obtain ⟨hg2, h⟩ := zg_some h
    obtain ⟨r4, h3, h⟩ := zo_some h
    obtain ⟨hg5, h⟩ := zg_some h
    by_cases hc6 : r4 = 0
    · rw [if_pos hc6] at h
      cases h
      exact (zfr_rf _ _)
    · rw [if_neg hc6] at h
      cases h
      exact (zfr_tr (zfr_tr (zfr_rf _ _) (zfr_I rfl)) (zfr_I rfl))
  · rw [if_neg hc1] at h
    cases h
    exact (zfr_rf _ _)
theorem frl_67_5 {n : Nat} {e0 : (zS)} {t : (zS)} (h : zlp (fun (q : zS) => b_67_5 q) n e0 = some t) : zfr 331482221842315023162501457524129753162003533590728131165198386942641196934663819916369869004197853134848 ((fun e : (zS) => e) e0) ((fun e : (zS) => e) t) := zfr_lp (f := (fun e : (zS) => e)) (g := (fun e : (zS) => e)) (fun e q h1 => frb_67_5 h1) n e0 t h
theorem fr_67 {s : zS} {q : (Unit × zS)} (h : f_67 s = some q) : zfr 331482221842315023162501457524129753162003533590728131165198386942641196934663819916369869004197853134848 s q.2 := by
  unfold f_67 at h
  obtain ⟨e1, h2, h⟩ := zo_some h
  have f3 : zfr 331482221842315023162501457524129753162003533590728131165198386942641196934663819916369869004197853134848 s e1 := zfr_tr (zfr_tr (zfr_rf _ _) (zfr_I rfl)) (frl_67_5 h2)
  obtain ⟨hg4, h⟩ := zg_some h
  by_cases hc5 : 3 < ((gI e1 8 2) - (gI e1 8 5))
  · rw [if_pos hc5] at h
    cases h
    exact (zfr_tr f3 (zfr_I rfl))
  · rw [if_neg hc5] at h
    cases h
    exact (zfr_tr f3 (zfr_I rfl))
theorem fr_64 {s : zS} {q : (Unit × zS)} (h : f_64 s = some q) : zfr 188138558342935553686825151567749319362218221767710560931599084480958517179133519411993709434814997725184 s q.2 := by
  unfold f_64 at h
  obtain ⟨r2, h1, h⟩ := zo_some h
  obtain ⟨r4, h3, h⟩ := zo_some h
  obtain ⟨hg5, h⟩ := zg_some h
  by_cases hc6 : 7 < ((gI (sI s 8 2 r2) 8 2) - (gI s 8 5))
  · rw [if_pos hc6] at h
    by_cases hc7 : (gI (sI (sJ (sI s 8 2 r2) 8 6 r4) 8 4 1) 8 4) = 2
    · rw [if_pos hc7] at h
      by_cases hc8 : 6 < ((gI (sI s 8 2 r2) 8 2) - (gI s 8 5))
      · rw [if_pos hc8] at h
        cases h
        exact (zfr_tr (zfr_tr (zfr_tr (zfr_tr (zfr_rf _ _) (zfr_I rfl)) (zfr_J rfl)) (zfr_I rfl)) (zfr_I rfl))
      · rw [if_neg hc8] at h
        cases h
        exact (zfr_tr (zfr_tr (zfr_tr (zfr_rf _ _) (zfr_I rfl)) (zfr_J rfl)) (zfr_I rfl))
    · rw [if_neg hc7] at h
      cases h
      exact (zfr_tr (zfr_tr (zfr_tr (zfr_rf _ _) (zfr_I rfl)) (zfr_J rfl)) (zfr_I rfl))
  · rw [if_neg hc6] at h
    obtain ⟨r10, h9, h⟩ := zo_some h
    by_cases hc11 : (gI (sI (sJ (sI s 8 2 r2) 8 6 r4) 8 4 r10) 8 4) = 2
    · rw [if_pos hc11] at h
      by_cases hc12 : 6 < ((gI (sI s 8 2 r2) 8 2) - (gI s 8 5))
      · rw [if_pos hc12] at h
        cases h
        exact (zfr_tr (zfr_tr (zfr_tr (zfr_tr (zfr_rf _ _) (zfr_I rfl)) (zfr_J rfl)) (zfr_I rfl)) (zfr_I rfl))
      · rw [if_neg hc12] at h
        cases h
        exact (zfr_tr (zfr_tr (zfr_tr (zfr_rf _ _) (zfr_I rfl)) (zfr_J rfl)) (zfr_I rfl))
    · rw [if_neg hc11] at h
      cases h
      exact (zfr_tr (zfr_tr (zfr_tr (zfr_rf _ _) (zfr_I rfl)) (zfr_J rfl)) (zfr_I rfl))
theorem fr_62 {s : zS} {q : (Unit × zS)} (h : f_62 s = some q) : zfr 564415675028806661060475454703247958086654665303131682794797253442875551537400558235981128304444993175552 s q.2 := by
  unfold f_62 at h
  obtain ⟨r2, h1, h⟩ := zo_some h
  by_cases hc3 : (gI (sI s 8 2 r2) 8 2) < (gI s 8 1)
  · rw [if_pos hc3] at h
    obtain ⟨hg4, h⟩ := zg_some h
    obtain ⟨r6, h5, h⟩ := zo_some h
    obtain ⟨hg7, h⟩ := zg_some h
    by_cases hc8 : r6 = 0
    · rw [if_pos hc8] at h
      obtain ⟨r10, h9, h⟩ := zo_some h
      obtain ⟨hg11, h⟩ := zg_some h
      by_cases hc12 : r10 = 0
      · rw [if_pos hc12] at h
        obtain ⟨r14, s15, h13, h⟩ := zb_some h
        have f16 := zfr_tr (zfr_tr (zfr_tr (zfr_tr (zfr_rf _ _) (zfr_I rfl)) (zfr_I rfl)) (zfr_I rfl)) (zfr_sub (m2 := 564415675028806661060475454703247958086654665303131682794797253442875551537400558235981128304444993175552) rfl (fr_68 h13))
        cases h
        exact f16
      · rw [if_neg hc12] at h
        obtain ⟨r18, s19, h17, h⟩ := zb_some h
        have f20 := zfr_tr (zfr_tr (zfr_tr (zfr_tr (zfr_rf _ _) (zfr_I rfl)) (zfr_I rfl)) (zfr_I rfl)) (zfr_sub (m2 := 564415675028806661060475454703247958086654665303131682794797253442875551537400558235981128304444993175552) rfl (fr_67 h17))
        cases h
        exact f20
    · rw [if_neg hc8] at h
      obtain ⟨r22, s23, h21, h⟩ := zb_some h
      have f24 := zfr_tr (zfr_tr (zfr_tr (zfr_tr (zfr_rf _ _) (zfr_I rfl)) (zfr_I rfl)) (zfr_I rfl)) (zfr_sub (m2 := 564415675028806661060475454703247958086654665303131682794797253442875551537400558235981128304444993175552) rfl (fr_64 h21))
      cases h
      exact f24
  · rw [if_neg hc3] at h
    cases h
    exact (zfr_tr (zfr_tr (zfr_tr (zfr_rf _ _) (zfr_I rfl)) (zfr_I rfl)) (zfr_I rfl))
theorem fr_74 {v1 : Int} {v2 : Int} {s : zS} {q : (Unit × zS)} (h : f_74 v1 v2 s = some q) : zfr 225460087946287989877390137291776354628065524695198707587899933267092066411002410572515103844937795491065757696 s q.2 := by
  unfold f_74 at h
  cases h
  exact (zfr_tr (zfr_tr (zfr_rf _ _) (zfr_I rfl)) (zfr_I rfl))
theorem fr_139 {c0 : Nat} {v1 : Int} {v2 : Int} {v3 : Int} {s : zS} {q : (Int × zS)} (h : f_139 c0 v1 v2 v3 s = some q) : zfr 11972621413014756705924586149611790497021398855188480 s q.2 := by
  unfold f_139 at h
  obtain ⟨hg1, h⟩ := zg_some h
  by_cases hc2 : (gI s c0 0) < 200
  · rw [if_pos hc2] at h
    obtain ⟨hg3, h⟩ := zg_some h
    obtain ⟨hg4, h⟩ := zg_some h
    obtain ⟨hg5, h⟩ := zg_some h
    obtain ⟨hg6, h⟩ := zg_some h
    obtain ⟨hg7, h⟩ := zg_some h
    obtain ⟨hg8, h⟩ := zg_some h
    obtain ⟨hg9, h⟩ := zg_some h
    cases h
    exact (zfr_tr (zfr_tr (zfr_tr (zfr_tr (zfr_tr (zfr_tr (zfr_tr (zfr_tr (zfr_rf _ _) (zfr_IC rfl (j := 1) rfl hg1)) (zfr_IC rfl (j := 2) rfl hg1)) (zfr_IC rfl (j := 3) rfl hg1)) (zfr_IC rfl (j := 4) rfl hg1)) (zfr_IC rfl (j := 5) rfl hg1)) (zfr_IC rfl (j := 6) rfl hg1)) (zfr_IC rfl (j := 7) rfl hg1)) (zfr_IC0 rfl hg1))
  · rw [if_neg hc2] at h
    cases h
    exact (zfr_rf _ _)
theorem fr_76 {v1 : Int} {s : zS} {q : (Int × zS)} (h : f_76 v1 s = some q) : zfr 226083919569837289328548280575298522275962190372252480053568530052818324190004403026459760681880771076663867392 s q.2 := by
  unfold f_76 at h
  by_cases hc1 : (gI s 10 8) < 20
  · rw [if_pos hc1] at h
    obtain ⟨hg2, h⟩ := zg_some h
    obtain ⟨r4, h3, h⟩ := zo_some h
    obtain ⟨hg5, h⟩ := zg_some h
    by_cases hc6 : r4 = 0
    · rw [if_pos hc6] at h
      cases h
      exact (zfr_tr (zfr_tr (zfr_tr (zfr_tr (zfr_tr (zfr_tr (zfr_tr (zfr_rf _ _) (zfr_IA rfl rfl)) (zfr_IA rfl rfl)) (zfr_IA rfl rfl)) (zfr_IA rfl rfl)) (zfr_IA rfl rfl)) (zfr_I rfl)) (zfr_I rfl))
    · rw [if_neg hc6] at h
      obtain ⟨hg7, h⟩ := zg_some h
      obtain ⟨r9, s10, h8, h⟩ := zb_some h
      have f11 := zfr_tr (zfr_tr (zfr_tr (zfr_tr (zfr_tr (zfr_rf _ _) (zfr_IA rfl rfl)) (zfr_IA rfl rfl)) (zfr_IA rfl rfl)) (zfr_IA rfl rfl)) (zfr_sub (m2 := 226083919569837289328548280575298522275962190372252480053568530052818324190004403026459760681880771076663867392) rfl (fr_139 h8))
      cases h
      exact (zfr_tr (zfr_tr (zfr_tr f11 (zfr_IA rfl rfl)) (zfr_I rfl)) (zfr_I rfl))
  · rw [if_neg hc1] at h
    obtain ⟨r13, s14, h12, h⟩ := zb_some h
    have f15 := zfr_tr (zfr_rf _ _) (zfr_sub (m2 := 226083919569837289328548280575298522275962190372252480053568530052818324190004403026459760681880771076663867392) rfl (fr_74 h12))
    cases h
    exact f15
theorem fr_77 {v1 : Int} {s : zS} {q : (Unit × zS)} (h : f_77 v1 s = some q) : zfr 226083919569837289328548280575298522275962190372252480053568530052818324190004403026459760681880771076663867392 s q.2 := by
  unfold f_77 at h
  obtain ⟨r2, s3, h1, h⟩ := zb_some h
  have f4 := zfr_tr (zfr_rf _ _) (zfr_sub (m2 := 226083919569837289328548280575298522275962190372252480053568530052818324190004403026459760681880771076663867392) rfl (fr_76 h1))
  obtain ⟨hg5, h⟩ := zg_some h
  by_cases hc6 : r2 = 0
  · rw [if_pos hc6] at h
    cases h
    exact f4
  · rw [if_neg hc6] at h
    obtain ⟨hg7, h⟩ := zg_some h
    obtain ⟨hg8, h⟩ := zg_some h
    obtain ⟨r10, s11, h9, h⟩ := zb_some h
    have f12 := zfr_tr (zfr_tr f4 (zfr_IA rfl rfl)) (zfr_sub (m2 := 226083919569837289328548280575298522275962190372252480053568530052818324190004403026459760681880771076663867392) rfl (fr_139 h9))
    cases h
    exact (zfr_tr (zfr_tr f12 (zfr_IA rfl rfl)) (zfr_I rfl))
theorem fr_80 {v1 : Int} {s : zS} {q : (Unit × zS)} (h : f_80 v1 s = some q) : zfr 183479889279205720928865671624166955263725199133462489899007107150953830087078784645601484248810054924369920 s q.2 := by
  unfold f_80 at h
  cases h
  exact (zfr_tr (zfr_tr (zfr_rf _ _) (zfr_I rfl)) (zfr_I rfl))
theorem fr_79 {v1 : Int} {v2 : Int} {v3 : Int} {s : zS} {q : (Unit × zS)} (h : f_79 v1 v2 v3 s = some q) : zfr 183479889279205720928865671624166955263725199133462489910979728563968586793003370795213274745831453779558400 s q.2 := by
  unfold f_79 at h
  obtain ⟨hg1, h⟩ := zg_some h
  obtain ⟨r3, s4, h2, h⟩ := zb_some h
  have f5 := zfr_tr (zfr_rf _ _) (zfr_sub (m2 := 183479889279205720928865671624166955263725199133462489910979728563968586793003370795213274745831453779558400) rfl (fr_139 h2))
  obtain ⟨r7, s8, h6, h⟩ := zb_some h
  have f9 := zfr_tr f5 (zfr_sub (m2 := 183479889279205720928865671624166955263725199133462489910979728563968586793003370795213274745831453779558400) rfl (fr_80 h6))
  cases h
  exact f9
theorem frb_78_7 {v1 : Int} {s : zS} {q : (Int × zS) ⊕ ((zS) ⊕ (Unit × zS))} (h : b_78_7 v1 s = some q) : zfr 225643567835567195598319002963400521583329249894332170077810912995656034997795413943310317119683626944845316096 s (Sum.elim (fun e : (Int × zS) => e.2) (fun t : ((zS) ⊕ (Unit × zS)) => Sum.elim (fun e : (zS) => e) (fun q => q.2) t) q) := by
  unfold b_78_7 at h
  obtain ⟨hg1, h⟩ := zg_some h
  by_cases hc2 : v1 < 0
  · rw [if_pos hc2] at h
    cases h
    exact (zfr_rf _ _)
  · rw [if_neg hc2] at h
    obtain ⟨hg3, h⟩ := zg_some h
    by_cases hc4 : (gI s 12 v1) = 2
    · rw [if_pos hc4] at h
      by_cases hc5 : (gJ s 16 v1) = (gJ s 8 6)
      · rw [if_pos hc5] at h
        obtain ⟨r7, s8, h6, h⟩ := zb_some h
        have f9 := zfr_tr (zfr_rf _ _) (zfr_sub (m2 := 225643567835567195598319002963400521583329249894332170077810912995656034997795413943310317119683626944845316096) rfl (fr_79 h6))
        cases h
        exact f9
      · rw [if_neg hc5] at h
        cases h
        exact (zfr_rf _ _)
    · rw [if_neg hc4] at h
      cases h
      exact (zfr_rf _ _)
theorem frl_78_7 {n : Nat} {e0 : (Int × zS)} {t : ((zS) ⊕ (Unit × zS))} (h : zlp (fun (q : Int × zS) => b_78_7 q.1 q.2) n e0 = some t) : zfr 225643567835567195598319002963400521583329249894332170077810912995656034997795413943310317119683626944845316096 ((fun e : (Int × zS) => e.2) e0) ((fun t : ((zS) ⊕ (Unit × zS)) => Sum.elim (fun e : (zS) => e) (fun q => q.2) t) t) := zfr_lp (f := (fun e : (Int × zS) => e.2)) (g := (fun t : ((zS) ⊕ (Unit × zS)) => Sum.elim (fun e : (zS) => e) (fun q => q.2) t)) (fun e q h1 => frb_78_7 h1) n e0 t h
theorem fr_78 {s : zS} {q : (Unit × zS)} (h : f_78 s = some q) : zfr 225643567835567195598319002963400521583329249894332170077810912995656034997795413943310317119683626944845316096 s q.2 := by
  unfold f_78 at h
  obtain ⟨e1, h2, h⟩ := zo_some h
  rcases e1 with e4 | q5
  · simp only [ze_l] at h
    have f3 : zfr 225643567835567195598319002963400521583329249894332170077810912995656034997795413943310317119683626944845316096 s e4 := zfr_tr (zfr_rf _ _) (frl_78_7 h2)
    obtain ⟨r7, h6, h⟩ := zo_some h
    obtain ⟨hg8, h⟩ := zg_some h
    by_cases hc9 : r7 = (-1)
    · rw [if_pos hc9] at h
      obtain ⟨r11, s12, h10, h⟩ := zb_some h
      have f13 := zfr_tr f3 (zfr_sub (m2 := 225643567835567195598319002963400521583329249894332170077810912995656034997795413943310317119683626944845316096) rfl (fr_74 h10))
      cases h
      exact f13
    · rw [if_neg hc9] at h
      obtain ⟨hg14, h⟩ := zg_some h
      obtain ⟨r16, s17, h15, h⟩ := zb_some h
      have f18 := zfr_tr f3 (zfr_sub (m2 := 225643567835567195598319002963400521583329249894332170077810912995656034997795413943310317119683626944845316096) rfl (fr_79 h15))
      cases h
      exact f18
  · cases h
    exact zfr_tr (zfr_rf _ _) (frl_78_7 h2)
theorem fr_83 {s : zS} {q : (Unit × zS)} (h : f_83 s = some q) : zfr 225460087946287989877390137291776354628065524695198707587899933267092066411002410572515103844937795491065757696 s q.2 := by
  unfold f_83 at h
  by_cases hc1 : (gI s 8 4) = 0
  · rw [if_pos hc1] at h
    obtain ⟨r3, s4, h2, h⟩ := zb_some h
    have f5 := zfr_tr (zfr_rf _ _) (zfr_sub (m2 := 225460087946287989877390137291776354628065524695198707587899933267092066411002410572515103844937795491065757696) rfl (fr_74 h2))
    cases h
    exact f5
  · rw [if_neg hc1] at h
    obtain ⟨r7, s8, h6, h⟩ := zb_some h
    have f9 := zfr_tr (zfr_rf _ _) (zfr_sub (m2 := 225460087946287989877390137291776354628065524695198707587899933267092066411002410572515103844937795491065757696) rfl (fr_74 h6))
    cases h
    exact f9
theorem fr_82 {v1 : Int} {s : zS} {q : (Unit × zS)} (h : f_82 v1 s = some q) : zfr 226230703481260653905291373112597855840173170531559250045487735738539087254074066054176241869279819120603363328 s q.2 := by
  unfold f_82 at h
  obtain ⟨hg1, h⟩ := zg_some h
  by_cases hc2 : t_82_1 v1 = 152
  · rw [if_pos hc2] at h
    obtain ⟨r4, s5, h3, h⟩ := zb_some h
    have f6 := zfr_tr (zfr_rf _ _) (zfr_sub (m2 := 226230703481260653905291373112597855840173170531559250045487735738539087254074066054176241869279819120603363328) rfl (fr_76 h3))
    cases h
    exact f6
  · rw [if_neg hc2] at h
    by_cases hc7 : t_82_1 v1 = 161
    · rw [if_pos hc7] at h
      obtain ⟨r9, s10, h8, h⟩ := zb_some h
      have f11 := zfr_tr (zfr_rf _ _) (zfr_sub (m2 := 226230703481260653905291373112597855840173170531559250045487735738539087254074066054176241869279819120603363328) rfl (fr_79 h8))
      cases h
      exact f11
    · rw [if_neg hc7] at h
      by_cases hc12 : t_82_1 v1 = 171
      · rw [if_pos hc12] at h
        obtain ⟨r14, s15, h13, h⟩ := zb_some h
        have f16 := zfr_tr (zfr_rf _ _) (zfr_sub (m2 := 226230703481260653905291373112597855840173170531559250045487735738539087254074066054176241869279819120603363328) rfl (fr_77 h13))
        cases h
        exact f16
      · rw [if_neg hc12] at h
        by_cases hc17 : t_82_1 v1 = 179
        · rw [if_pos hc17] at h
          obtain ⟨r19, h18, h⟩ := zo_some h
          obtain ⟨hg20, h⟩ := zg_some h
          by_cases hc21 : r19 = 0
          · rw [if_pos hc21] at h
            obtain ⟨r23, s24, h22, h⟩ := zb_some h
            have f25 := zfr_tr (zfr_rf _ _) (zfr_sub (m2 := 226230703481260653905291373112597855840173170531559250045487735738539087254074066054176241869279819120603363328) rfl (fr_76 h22))
            cases h
            exact f25
          · rw [if_neg hc21] at h
            obtain ⟨r27, s28, h26, h⟩ := zb_some h
            have f29 := zfr_tr (zfr_rf _ _) (zfr_sub (m2 := 226230703481260653905291373112597855840173170531559250045487735738539087254074066054176241869279819120603363328) rfl (fr_77 h26))
            cases h
            exact f29
        · rw [if_neg hc17] at h
          by_cases hc30 : t_82_1 v1 = 206
          · rw [if_pos hc30] at h
            obtain ⟨r32, s33, h31, h⟩ := zb_some h
            have f34 := zfr_tr (zfr_rf _ _) (zfr_sub (m2 := 226230703481260653905291373112597855840173170531559250045487735738539087254074066054176241869279819120603363328) rfl (fr_83 h31))
            cases h
            exact f34
          · rw [if_neg hc30] at h
            cases h
theorem fr_75 {v1 : Int} {s : zS} {q : (Unit × zS)} (h : f_75 v1 s = some q) : zfr 226230703481260653905291373112597855840173170531559250045487735738539087254074066054176241869279819120603363328 s q.2 := by
  unfold f_75 at h
  obtain ⟨hg1, h⟩ := zg_some h
  by_cases hc2 : t_75_1 v1 = 84
  · rw [if_pos hc2] at h
    obtain ⟨r4, s5, h3, h⟩ := zb_some h
    have f6 := zfr_tr (zfr_rf _ _) (zfr_sub (m2 := 226230703481260653905291373112597855840173170531559250045487735738539087254074066054176241869279819120603363328) rfl (fr_76 h3))
    cases h
    exact f6
  · rw [if_neg hc2] at h
    by_cases hc7 : t_75_1 v1 = 93
    · rw [if_pos hc7] at h
      obtain ⟨r9, s10, h8, h⟩ := zb_some h
      have f11 := zfr_tr (zfr_rf _ _) (zfr_sub (m2 := 226230703481260653905291373112597855840173170531559250045487735738539087254074066054176241869279819120603363328) rfl (fr_77 h8))
      cases h
      exact f11
    · rw [if_neg hc7] at h
      by_cases hc12 : t_75_1 v1 = 101
      · rw [if_pos hc12] at h
        obtain ⟨r14, s15, h13, h⟩ := zb_some h
        have f16 := zfr_tr (zfr_rf _ _) (zfr_sub (m2 := 226230703481260653905291373112597855840173170531559250045487735738539087254074066054176241869279819120603363328) rfl (fr_78 h13))
        cases h
        exact f16
      · rw [if_neg hc12] at h
        by_cases hc17 : t_75_1 v1 = 108
        · rw [if_pos hc17] at h
          obtain ⟨r19, s20, h18, h⟩ := zb_some h
          have f21 := zfr_tr (zfr_rf _ _) (zfr_sub (m2 := 226230703481260653905291373112597855840173170531559250045487735738539087254074066054176241869279819120603363328) rfl (fr_79 h18))
          cases h
          exact f21
        · rw [if_neg hc17] at h
          by_cases hc22 : t_75_1 v1 = 118
          · rw [if_pos hc22] at h
            obtain ⟨r24, s25, h23, h⟩ := zb_some h
            have f26 := zfr_tr (zfr_rf _ _) (zfr_sub (m2 := 226230703481260653905291373112597855840173170531559250045487735738539087254074066054176241869279819120603363328) rfl (fr_79 h23))
            cases h
            exact f26
          · rw [if_neg hc22] at h
            by_cases hc27 : t_75_1 v1 = 128
            · rw [if_pos hc27] at h
              obtain ⟨r29, h28, h⟩ := zo_some h
              obtain ⟨hg30, h⟩ := zg_some h
              by_cases hc31 : r29 = 0
              · rw [if_pos hc31] at h
                obtain ⟨r33, s34, h32, h⟩ := zb_some h
                have f35 := zfr_tr (zfr_rf _ _) (zfr_sub (m2 := 226230703481260653905291373112597855840173170531559250045487735738539087254074066054176241869279819120603363328) rfl (fr_83 h32))
                cases h
                exact f35
              · rw [if_neg hc31] at h
                obtain ⟨r37, s38, h36, h⟩ := zb_some h
                have f39 := zfr_tr (zfr_rf _ _) (zfr_sub (m2 := 226230703481260653905291373112597855840173170531559250045487735738539087254074066054176241869279819120603363328) rfl (fr_82 h36))
                cases h
                exact f39
            · rw [if_neg hc27] at h
              cases h
theorem fr_84 {v1 : Int} {s : zS} {q : (Unit × zS)} (h : f_84 v1 s = some q) : zfr 225496783924143831021575910426101188019118269735025400085879734688522257177019826329444224141787557502050697216 s q.2 := by
  unfold f_84 at h
  obtain ⟨hg1, h⟩ := zg_some h
  by_cases hc2 : v1 = 2
  · rw [if_pos hc2] at h
    by_cases hc3 : (gI s 10 8) = 0
    · rw [if_pos hc3] at h
      obtain ⟨r5, s6, h4, h⟩ := zb_some h
      have f7 := zfr_tr (zfr_rf _ _) (zfr_sub (m2 := 225496783924143831021575910426101188019118269735025400085879734688522257177019826329444224141787557502050697216) rfl (fr_83 h4))
      cases h
      exact f7
    · rw [if_neg hc3] at h
      obtain ⟨hg8, h⟩ := zg_some h
      cases h
      exact (zfr_tr (zfr_tr (zfr_rf _ _) (zfr_JA rfl rfl)) (zfr_I rfl))
  · rw [if_neg hc2] at h
    obtain ⟨r10, s11, h9, h⟩ := zb_some h
    have f12 := zfr_tr (zfr_rf _ _) (zfr_sub (m2 := 225496783924143831021575910426101188019118269735025400085879734688522257177019826329444224141787557502050697216) rfl (fr_83 h9))
    cases h
    exact f12
theorem fr_85 {v1 : Int} {s : zS} {q : (Unit × zS)} (h : f_85 v1 s = some q) : zfr 225496783924143831021575910426101188019118269735025400085879734688522257177019826329444224141787557502050631680 s q.2 := by
  unfold f_85 at h
  obtain ⟨hg1, h⟩ := zg_some h
  by_cases hc2 : v1 = 41
  · rw [if_pos hc2] at h
    cases h
    exact (zfr_tr (zfr_rf _ _) (zfr_I rfl))
  · rw [if_neg hc2] at h
    obtain ⟨r4, s5, h3, h⟩ := zb_some h
    have f6 := zfr_tr (zfr_rf _ _) (zfr_sub (m2 := 225496783924143831021575910426101188019118269735025400085879734688522257177019826329444224141787557502050631680) rfl (fr_83 h3))
    cases h
    exact f6
theorem fr_86 {v1 : Int} {s : zS} {q : (Unit × zS)} (h : f_86 v1 s = some q) : zfr 226230703481260653905291373112597855840173170531559250045487735738539087254074066054176241869279819120603299840 s q.2 := by
  unfold f_86 at h
  obtain ⟨hg1, h⟩ := zg_some h
  by_cases hc2 : v1 = 3
  · rw [if_pos hc2] at h
    by_cases hc3 : (gI s 10 8) = 0
    · rw [if_pos hc3] at h
      obtain ⟨r5, s6, h4, h⟩ := zb_some h
      have f7 := zfr_tr (zfr_rf _ _) (zfr_sub (m2 := 226230703481260653905291373112597855840173170531559250045487735738539087254074066054176241869279819120603299840) rfl (fr_83 h4))
      cases h
      exact f7
    · rw [if_neg hc3] at h
      obtain ⟨hg8, h⟩ := zg_some h
      obtain ⟨r10, s11, h9, h⟩ := zb_some h
      have f12 := zfr_tr (zfr_tr (zfr_rf _ _) (zfr_I rfl)) (zfr_sub (m2 := 226230703481260653905291373112597855840173170531559250045487735738539087254074066054176241869279819120603299840) rfl (fr_139 h9))
      obtain ⟨r14, s15, h13, h⟩ := zb_some h
      have f16 := zfr_tr f12 (zfr_sub (m2 := 226230703481260653905291373112597855840173170531559250045487735738539087254074066054176241869279819120603299840) rfl (fr_80 h13))
      cases h
      exact f16
  · rw [if_neg hc2] at h
    obtain ⟨r18, s19, h17, h⟩ := zb_some h
    have f20 := zfr_tr (zfr_rf _ _) (zfr_sub (m2 := 226230703481260653905291373112597855840173170531559250045487735738539087254074066054176241869279819120603299840) rfl (fr_83 h17))
    cases h
    exact f20
theorem frb_140_15 {c0 : Nat} {v1 : Int} {v2 : Int} {v3 : Int} {v4 : Int} {s : zS} {q : (Int × zS) ⊕ (zS)} (h : b_140_15 c0 v1 v2 v3 v4 s = some q) : zfr 11972621413014756705924586149611790497021398855188480 s (Sum.elim (fun e : (Int × zS) => e.2) (fun e : (zS) => e) q) := by
  unfold b_140_15 at h
  obtain ⟨hg1, h⟩ := zg_some h
  obtain ⟨hg2, h⟩ := zg_some h
  by_cases hc3 : v4 < (gI s c0 0)
  · rw [if_pos hc3] at h
    obtain ⟨hg4, h⟩ := zg_some h
    by_cases hc5 : (gI s (c0 + 1) v4) = 43
    · rw [if_pos hc5] at h
      obtain ⟨hg6, h⟩ := zg_some h
      by_cases hc7 : (gI s (c0 + 2) v4) < v2
      · rw [if_pos hc7] at h
        obtain ⟨hg8, h⟩ := zg_some h
        cases h
        exact (zfr_tr (zfr_rf _ _) (zfr_IC rfl (j := 6) rfl hg1))
      · rw [if_neg hc7] at h
        cases h
        exact (zfr_rf _ _)
    · rw [if_neg hc5] at h
      cases h
      exact (zfr_rf _ _)
  · rw [if_neg hc3] at h
    cases h
    exact (zfr_rf _ _)
theorem frl_140_15 {c0 : Nat} {v1 : Int} {v2 : Int} {v3 : Int} {n : Nat} {e0 : (Int × zS)} {t : (zS)} (h : zlp (fun (q : Int × zS) => b_140_15 c0 v1 v2 v3 q.1 q.2) n e0 = some t) : zfr 11972621413014756705924586149611790497021398855188480 ((fun e : (Int × zS) => e.2) e0) ((fun e : (zS) => e) t) := zfr_lp (f := (fun e : (Int × zS) => e.2)) (g := (fun e : (zS) => e)) (fun e q h1 => frb_140_15 h1) n e0 t h
theorem fr_140 {c0 : Nat} {v1 : Int} {v2 : Int} {v3 : Int} {s : zS} {q : (Unit × zS)} (h : f_140 c0 v1 v2 v3 s = some q) : zfr 11972621413014756705924586149611790497021398855188480 s q.2 := by
  unfold f_140 at h
  obtain ⟨hg1, h⟩ := zg_some h
  obtain ⟨hg2, h⟩ := zg_some h
  obtain ⟨e3, h4, h⟩ := zo_some h
  have f5 : zfr 11972621413014756705924586149611790497021398855188480 s e3 := zfr_tr (zfr_tr (zfr_rf _ _) (zfr_IC rfl (j := 5) rfl hg1)) (frl_140_15 h4)
  obtain ⟨hg6, h⟩ := zg_some h
  by_cases hc7 : (gI e3 (c0 + 6) v1) = v3
  · rw [if_pos hc7] at h
    cases h
    exact f5
  · rw [if_neg hc7] at h
    obtain ⟨r9, h8, h⟩ := zo_some h
    obtain ⟨hg10, h⟩ := zg_some h
    by_cases hc11 : 2 < r9
    · rw [if_pos hc11] at h
      cases h
      exact f5
    · rw [if_neg hc11] at h
      by_cases hc12 : (gI e3 c0 8) < 40
      · rw [if_pos hc12] at h
        cases h
        exact (zfr_tr (zfr_tr f5 (zfr_IC rfl (j := 7) rfl hg1)) (zfr_IC0 rfl hg1))
      · rw [if_neg hc12] at h
        cases h
        exact f5
theorem fr_93 {s : zS} {q : (Unit × zS)} (h : f_93 s = some q) : zfr 733919557116822883715462686496667821054900796533849959608001050016830077054239724732017727492261618552668160 s q.2 := by
  unfold f_93 at h
  obtain ⟨hg1, h⟩ := zg_some h
  obtain ⟨hg2, h⟩ := zg_some h
  obtain ⟨r4, h3, h⟩ := zo_some h
  obtain ⟨r6, s7, h5, h⟩ := zb_some h
  have f8 := zfr_tr (zfr_rf _ _) (zfr_sub (m2 := 733919557116822883715462686496667821054900796533849959608001050016830077054239724732017727492261618552668160) rfl (fr_140 h5))
  by_cases hc9 : (gI s7 11 ((gI s 10 8) - 1)) = 39
  · rw [if_pos hc9] at h
    cases h
    exact (zfr_tr (zfr_tr f8 (zfr_I rfl)) (zfr_I rfl))
  · rw [if_neg hc9] at h
    cases h
    exact (zfr_tr (zfr_tr f8 (zfr_I rfl)) (zfr_I rfl))
theorem fr_95 {v1 : Int} {s : zS} {q : (Unit × zS)} (h : f_95 v1 s = some q) : zfr 225606871857711354454133229829075688192276504854505477579831111574225844231777998186381196822833864933860442112 s q.2 := by
  unfold f_95 at h
  obtain ⟨hg1, h⟩ := zg_some h
  obtain ⟨r3, h2, h⟩ := zo_some h
  obtain ⟨hg4, h⟩ := zg_some h
  by_cases hc5 : r3 = (-1)
  · rw [if_pos hc5] at h
    obtain ⟨r7, s8, h6, h⟩ := zb_some h
    have f9 := zfr_tr (zfr_rf _ _) (zfr_sub (m2 := 225606871857711354454133229829075688192276504854505477579831111574225844231777998186381196822833864933860442112) rfl (fr_74 h6))
    cases h
    exact f9
  · rw [if_neg hc5] at h
    obtain ⟨hg10, h⟩ := zg_some h
    obtain ⟨r12, s13, h11, h⟩ := zb_some h
    have f14 := zfr_tr (zfr_rf _ _) (zfr_sub (m2 := 225606871857711354454133229829075688192276504854505477579831111574225844231777998186381196822833864933860442112) rfl (fr_139 h11))
    cases h
    exact (zfr_tr f14 (zfr_I rfl))
theorem fr_92 {s : zS} {q : (Unit × zS)} (h : f_92 s = some q) : zfr 226194007503404812761105599978273022449120425491732557547507934317108896488056650297247121572430057109618425856 s q.2 := by
  unfold f_92 at h
  obtain ⟨hg1, h⟩ := zg_some h
  by_cases hc2 : ((gI s 10 8) - 1) < 0
  · rw [if_pos hc2] at h
    cases h
    exact (zfr_rf _ _)
  · rw [if_neg hc2] at h
    obtain ⟨hg3, h⟩ := zg_some h
    by_cases hc4 : (gI s 12 ((gI s 10 8) - 1)) = 2
    · rw [if_pos hc4] at h
      obtain ⟨r6, s7, h5, h⟩ := zb_some h
      have f8 := zfr_tr (zfr_rf _ _) (zfr_sub (m2 := 226194007503404812761105599978273022449120425491732557547507934317108896488056650297247121572430057109618425856) rfl (fr_93 h5))
      cases h
      exact f8
    · rw [if_neg hc4] at h
      obtain ⟨r10, h9, h⟩ := zo_some h
      obtain ⟨hg11, h⟩ := zg_some h
      by_cases hc12 : r10 = 0
      · rw [if_pos hc12] at h
        obtain ⟨r14, s15, h13, h⟩ := zb_some h
        have f16 := zfr_tr (zfr_rf _ _) (zfr_sub (m2 := 226194007503404812761105599978273022449120425491732557547507934317108896488056650297247121572430057109618425856) rfl (fr_95 h13))
        cases h
        exact (zfr_tr f16 (zfr_I rfl))
      · rw [if_neg hc12] at h
        obtain ⟨hg17, h⟩ := zg_some h
        obtain ⟨hg18, h⟩ := zg_some h
        cases h
        exact (zfr_tr (zfr_tr (zfr_rf _ _) (zfr_IC rfl (j := 5) rfl hg17)) (zfr_I rfl))
theorem frb_87_2 {v1 : Int} {v2 : Int} {s : zS} {q : (Int × zS) ⊕ (zS)} (h : b_87_2 v1 v2 s = some q) : zfr 226597663259819065347149104455846189750700620929826175025285749952840994914248223623467444837777439230452103168 s (Sum.elim (fun e : (Int × zS) => e.2) (fun e : (zS) => e) q) := by
  unfold b_87_2 at h
  obtain ⟨hg1, h⟩ := zg_some h
  by_cases hc2 : v2 < 20
  · rw [if_pos hc2] at h
    by_cases hc3 : (gI s 10 15) = 0
    · rw [if_pos hc3] at h
      obtain ⟨r5, h4, h⟩ := zo_some h
      obtain ⟨hg6, h⟩ := zg_some h
      by_cases hc7 : r5 = 0
      · rw [if_pos hc7] at h
        cases h
        exact (zfr_rf _ _)
      · rw [if_neg hc7] at h
        obtain ⟨r9, s10, h8, h⟩ := zb_some h
        have f11 := zfr_tr (zfr_rf _ _) (zfr_sub (m2 := 226597663259819065347149104455846189750700620929826175025285749952840994914248223623467444837777439230452103168) rfl (fr_92 h8))
        cases h
        exact f11
    · rw [if_neg hc3] at h
      cases h
      exact (zfr_rf _ _)
  · rw [if_neg hc2] at h
    cases h
    exact (zfr_rf _ _)
theorem frl_87_2 {v1 : Int} {n : Nat} {e0 : (Int × zS)} {t : (zS)} (h : zlp (fun (q : Int × zS) => b_87_2 v1 q.1 q.2) n e0 = some t) : zfr 226597663259819065347149104455846189750700620929826175025285749952840994914248223623467444837777439230452103168 ((fun e : (Int × zS) => e.2) e0) ((fun e : (zS) => e) t) := zfr_lp (f := (fun e : (Int × zS) => e.2)) (g := (fun e : (zS) => e)) (fun e q h1 => frb_87_2 h1) n e0 t h
theorem fr_98 {v1 : Int} {s : zS} {q : (Unit × zS)} (h : f_98 v1 s = some q) : zfr 225533479901999672165761683560426021410171014774852092583859536109952447943037242086373344438637319513035505664 s q.2 := by
  unfold f_98 at h
  obtain ⟨r2, h1, h⟩ := zo_some h
  obtain ⟨hg3, h⟩ := zg_some h
  by_cases hc4 : r2 = 0
  · rw [if_pos hc4] at h
    obtain ⟨hg5, h⟩ := zg_some h
    by_cases hc6 : v1 = 0
    · rw [if_pos hc6] at h
      cases h
      exact (zfr_tr (zfr_rf _ _) (zfr_I rfl))
    · rw [if_neg hc6] at h
      obtain ⟨r8, s9, h7, h⟩ := zb_some h
      have f10 := zfr_tr (zfr_rf _ _) (zfr_sub (m2 := 225533479901999672165761683560426021410171014774852092583859536109952447943037242086373344438637319513035505664) rfl (fr_74 h7))
      cases h
      exact f10
  · rw [if_neg hc4] at h
    obtain ⟨r12, s13, h11, h⟩ := zb_some h
    have f14 := zfr_tr (zfr_rf _ _) (zfr_sub (m2 := 225533479901999672165761683560426021410171014774852092583859536109952447943037242086373344438637319513035505664) rfl (fr_83 h11))
    cases h
    exact f14
theorem fr_99 {v1 : Int} {s : zS} {q : (Unit × zS)} (h : f_99 v1 s = some q) : zfr 225496783924143831021575910426101188019118269735025400085891707309935271933725750915593835932284578900905824256 s q.2 := by
  unfold f_99 at h
  by_cases hc1 : (gI s 10 6) = 1
  · rw [if_pos hc1] at h
    obtain ⟨hg2, h⟩ := zg_some h
    by_cases hc3 : v1 = 42
    · rw [if_pos hc3] at h
      obtain ⟨hg4, h⟩ := zg_some h
      obtain ⟨hg5, h⟩ := zg_some h
      obtain ⟨hg6, h⟩ := zg_some h
      cases h
      exact (zfr_tr (zfr_tr (zfr_tr (zfr_rf _ _) (zfr_IA rfl rfl)) (zfr_IC rfl (j := 4) rfl hg5)) (zfr_I rfl))
    · rw [if_neg hc3] at h
      obtain ⟨r8, s9, h7, h⟩ := zb_some h
      have f10 := zfr_tr (zfr_rf _ _) (zfr_sub (m2 := 225496783924143831021575910426101188019118269735025400085891707309935271933725750915593835932284578900905824256) rfl (fr_83 h7))
      cases h
      exact f10
  · rw [if_neg hc1] at h
    obtain ⟨hg11, h⟩ := zg_some h
    obtain ⟨r13, s14, h12, h⟩ := zb_some h
    have f15 := zfr_tr (zfr_rf _ _) (zfr_sub (m2 := 225496783924143831021575910426101188019118269735025400085891707309935271933725750915593835932284578900905824256) rfl (fr_74 h12))
    cases h
    exact f15
theorem frj_100_86 {v1 : Int} {v2 : Int} {s : zS} {q : (Unit × zS)} (h : j_100_86 v1 v2 s = some q) : zfr 226524271304107383058777558187196522968595130850172790029326147109980613382213392109609204244077915208482291712 s q.2 := by
  unfold j_100_86 at h
  obtain ⟨hg1, h⟩ := zg_some h
  by_cases hc2 : v2 = 39
  · rw [if_pos hc2] at h
    obtain ⟨hg3, h⟩ := zg_some h
    by_cases hc4 : v1 = 40
    · rw [if_pos hc4] at h
      obtain ⟨r6, s7, h5, h⟩ := zb_some h
      have f8 := zfr_tr (zfr_rf _ _) (zfr_sub (m2 := 226524271304107383058777558187196522968595130850172790029326147109980613382213392109609204244077915208482291712) rfl (fr_93 h5))
      cases h
      exact f8
    · rw [if_neg hc4] at h
      obtain ⟨r10, s11, h9, h⟩ := zb_some h
      have f12 := zfr_tr (zfr_rf _ _) (zfr_sub (m2 := 226524271304107383058777558187196522968595130850172790029326147109980613382213392109609204244077915208482291712) rfl (fr_83 h9))
      cases h
      exact f12
  · rw [if_neg hc2] at h
    obtain ⟨r14, s15, h13, h⟩ := zb_some h
    have f16 := zfr_tr (zfr_rf _ _) (zfr_sub (m2 := 226524271304107383058777558187196522968595130850172790029326147109980613382213392109609204244077915208482291712) rfl (fr_83 h13))
    cases h
    exact f16
theorem frj_100_61 {v1 : Int} {v2 : Int} {s : zS} {q : (Unit × zS)} (h : j_100_61 v1 v2 s = some q) : zfr 226524271304107383058777558187196522968595130850172790029326147109980613382213392109609204244077915208482291712 s q.2 := by
  unfold j_100_61 at h
  obtain ⟨hg1, h⟩ := zg_some h
  by_cases hc2 : v2 = 37
  · rw [if_pos hc2] at h
    obtain ⟨hg3, h⟩ := zg_some h
    by_cases hc4 : v1 = 38
    · rw [if_pos hc4] at h
      cases h
      exact (zfr_tr (zfr_rf _ _) (zfr_I rfl))
    · rw [if_neg hc4] at h
      exact zfr_tr (zfr_rf _ _) (frj_100_86 h)
  · rw [if_neg hc2] at h
    exact zfr_tr (zfr_rf _ _) (frj_100_86 h)
theorem frj_100_49 {v1 : Int} {v2 : Int} {s : zS} {q : (Unit × zS)} (h : j_100_49 v1 v2 s = some q) : zfr 226524271304107383058777558187196522968595130850172790029326147109980613382213392109609204244077915208482291712 s q.2 := by
  unfold j_100_49 at h
  obtain ⟨hg1, h⟩ := zg_some h
  by_cases hc2 : v2 = 35
  · rw [if_pos hc2] at h
    obtain ⟨hg3, h⟩ := zg_some h
    by_cases hc4 : v1 = 36
    · rw [if_pos hc4] at h
      cases h
      exact (zfr_tr (zfr_rf _ _) (zfr_I rfl))
    · rw [if_neg hc4] at h
      exact zfr_tr (zfr_rf _ _) (frj_100_61 h)
  · rw [if_neg hc2] at h
    exact zfr_tr (zfr_rf _ _) (frj_100_61 h)
theorem fr_100 {v1 : Int} {s : zS} {q : (Unit × zS)} (h : f_100 v1 s = some q) : zfr 226524271304107383058777558187196522968595130850172790029326147109980613382213392109609204244077915208482291712 s q.2 := by
  unfold f_100 at h
  obtain ⟨hg1, h⟩ := zg_some h
  by_cases hc2 : (gI s 11 ((gI s 10 8) - 1)) = 31
  · rw [if_pos hc2] at h
    obtain ⟨hg3, h⟩ := zg_some h
    by_cases hc4 : v1 = 32
    · rw [if_pos hc4] at h
      cases h
      exact (zfr_tr (zfr_tr (zfr_rf _ _) (zfr_I rfl)) (zfr_I rfl))
    · rw [if_neg hc4] at h
      by_cases hc5 : v1 = 33
      · rw [if_pos hc5] at h
        cases h
        exact (zfr_tr (zfr_tr (zfr_rf _ _) (zfr_I rfl)) (zfr_I rfl))
      · rw [if_neg hc5] at h
        by_cases hc6 : v1 = 34
        · rw [if_pos hc6] at h
          cases h
          exact (zfr_tr (zfr_tr (zfr_rf _ _) (zfr_I rfl)) (zfr_I rfl))
        · rw [if_neg hc6] at h
          exact zfr_tr (zfr_rf _ _) (frj_100_49 h)
  · rw [if_neg hc2] at h
    exact zfr_tr (zfr_rf _ _) (frj_100_49 h)
theorem frj_87_33 {v1 : Int} {s : zS} {q : (Unit × zS)} (h : j_87_33 v1 s = some q) : zfr 226597663259819065347149104455846189750700620929826175025285749952840994914248223623467444837777439230452103168 s q.2 := by
  unfold j_87_33 at h
  by_cases hc1 : (gI s 10 15) = 0
  · rw [if_pos hc1] at h
    obtain ⟨r3, h2, h⟩ := zo_some h
    obtain ⟨hg4, h⟩ := zg_some h
    by_cases hc5 : r3 = 0
    · rw [if_pos hc5] at h
      by_cases hc6 : (gI s 10 8) = 0
      · rw [if_pos hc6] at h
        obtain ⟨r8, s9, h7, h⟩ := zb_some h
        have f10 := zfr_tr (zfr_rf _ _) (zfr_sub (m2 := 226597663259819065347149104455846189750700620929826175025285749952840994914248223623467444837777439230452103168) rfl (fr_98 h7))
        cases h
        exact f10
      · rw [if_neg hc6] at h
        obtain ⟨r12, h11, h⟩ := zo_some h
        obtain ⟨hg13, h⟩ := zg_some h
        by_cases hc14 : r12 = 0
        · rw [if_pos hc14] at h
          obtain ⟨hg15, h⟩ := zg_some h
          by_cases hc16 : (gI s 12 ((gI s 10 8) - 1)) = 1
          · rw [if_pos hc16] at h
            obtain ⟨r18, s19, h17, h⟩ := zb_some h
            have f20 := zfr_tr (zfr_rf _ _) (zfr_sub (m2 := 226597663259819065347149104455846189750700620929826175025285749952840994914248223623467444837777439230452103168) rfl (fr_99 h17))
            cases h
            exact f20
          · rw [if_neg hc16] at h
            obtain ⟨r22, s23, h21, h⟩ := zb_some h
            have f24 := zfr_tr (zfr_rf _ _) (zfr_sub (m2 := 226597663259819065347149104455846189750700620929826175025285749952840994914248223623467444837777439230452103168) rfl (fr_100 h21))
            cases h
            exact f24
        · rw [if_neg hc14] at h
          obtain ⟨r26, s27, h25, h⟩ := zb_some h
          have f28 := zfr_tr (zfr_rf _ _) (zfr_sub (m2 := 226597663259819065347149104455846189750700620929826175025285749952840994914248223623467444837777439230452103168) rfl (fr_98 h25))
          cases h
          exact f28
    · rw [if_neg hc5] at h
      obtain ⟨r30, s31, h29, h⟩ := zb_some h
      have f32 := zfr_tr (zfr_rf _ _) (zfr_sub (m2 := 226597663259819065347149104455846189750700620929826175025285749952840994914248223623467444837777439230452103168) rfl (fr_76 h29))
      cases h
      exact f32
  · rw [if_neg hc1] at h
    cases h
    exact (zfr_rf _ _)
theorem fr_87 {v1 : Int} {s : zS} {q : (Unit × zS)} (h : f_87 v1 s = some q) : zfr 226597663259819065347149104455846189750700620929826175025285749952840994914248223623467444837777439230452103168 s q.2 := by
  unfold f_87 at h
  obtain ⟨e1, h2, h⟩ := zo_some h
  have f3 : zfr 226597663259819065347149104455846189750700620929826175025285749952840994914248223623467444837777439230452103168 s e1 := zfr_tr (zfr_rf _ _) (frl_87_2 h2)
  exact zfr_tr f3 (frj_87_33 h)
theorem frb_73_46 {v3 : Int} {s : zS} {q : (Int × zS) ⊕ ((zS) ⊕ (Unit × zS))} (h : b_73_46 v3 s = some q) : zfr 226625749658885975011949494782044518041948266364361497530453395816167080864312822841722521041543065183683999744 s (Sum.elim (fun e : (Int × zS) => e.2) (fun t : ((zS) ⊕ (Unit × zS)) => Sum.elim (fun e : (zS) => e) (fun q => q.2) t) q) := by
  unfold b_73_46 at h
  obtain ⟨hg1, h⟩ := zg_some h
  by_cases hc2 : 200 < v3
  · rw [if_pos hc2] at h
    cases h
    exact (zfr_rf _ _)
  · rw [if_neg hc2] at h
    by_cases hc3 : (gI s 10 15) = 0
    · rw [if_pos hc3] at h
      by_cases hc4 : (gI s 10 5) = 0
      · rw [if_pos hc4] at h
        obtain ⟨r6, s7, h5, h⟩ := zb_some h
        have f8 := zfr_tr (zfr_rf _ _) (zfr_sub (m2 := 226625749658885975011949494782044518041948266364361497530453395816167080864312822841722521041543065183683999744) rfl (fr_62 h5))
        by_cases hc9 : (gI s7 8 4) = 1
        · rw [if_pos hc9] at h
          obtain ⟨r11, s12, h10, h⟩ := zb_some h
          have f13 := zfr_tr f8 (zfr_sub (m2 := 226625749658885975011949494782044518041948266364361497530453395816167080864312822841722521041543065183683999744) rfl (fr_74 h10))
          cases h
          exact f13
        · rw [if_neg hc9] at h
          by_cases hc14 : 200 < (gI s7 8 3)
          · rw [if_pos hc14] at h
            obtain ⟨r16, s17, h15, h⟩ := zb_some h
            have f18 := zfr_tr f8 (zfr_sub (m2 := 226625749658885975011949494782044518041948266364361497530453395816167080864312822841722521041543065183683999744) rfl (fr_74 h15))
            cases h
            exact f18
          · rw [if_neg hc14] at h
            by_cases hc19 : t_73_129 (gI s7 10 4) = 160
            · rw [if_pos hc19] at h
              obtain ⟨r21, s22, h20, h⟩ := zb_some h
              have f23 := zfr_tr f8 (zfr_sub (m2 := 226625749658885975011949494782044518041948266364361497530453395816167080864312822841722521041543065183683999744) rfl (fr_75 h20))
              cases h
              exact f23
            · rw [if_neg hc19] at h
              by_cases hc24 : t_73_129 (gI s7 10 4) = 174
              · rw [if_pos hc24] at h
                obtain ⟨r26, s27, h25, h⟩ := zb_some h
                have f28 := zfr_tr f8 (zfr_sub (m2 := 226625749658885975011949494782044518041948266364361497530453395816167080864312822841722521041543065183683999744) rfl (fr_84 h25))
                cases h
                exact f28
              · rw [if_neg hc24] at h
                by_cases hc29 : t_73_129 (gI s7 10 4) = 188
                · rw [if_pos hc29] at h
                  obtain ⟨r31, s32, h30, h⟩ := zb_some h
                  have f33 := zfr_tr f8 (zfr_sub (m2 := 226625749658885975011949494782044518041948266364361497530453395816167080864312822841722521041543065183683999744) rfl (fr_85 h30))
                  cases h
                  exact f33
                · rw [if_neg hc29] at h
                  by_cases hc34 : t_73_129 (gI s7 10 4) = 202
                  · rw [if_pos hc34] at h
                    obtain ⟨r36, s37, h35, h⟩ := zb_some h
                    have f38 := zfr_tr f8 (zfr_sub (m2 := 226625749658885975011949494782044518041948266364361497530453395816167080864312822841722521041543065183683999744) rfl (fr_86 h35))
                    cases h
                    exact f38
                  · rw [if_neg hc34] at h
                    by_cases hc39 : t_73_129 (gI s7 10 4) = 216
                    · rw [if_pos hc39] at h
                      obtain ⟨r41, s42, h40, h⟩ := zb_some h
                      have f43 := zfr_tr f8 (zfr_sub (m2 := 226625749658885975011949494782044518041948266364361497530453395816167080864312822841722521041543065183683999744) rfl (fr_87 h40))
                      cases h
                      exact f43
                    · rw [if_neg hc39] at h
                      cases h
      · rw [if_neg hc4] at h
        cases h
        exact (zfr_rf _ _)
    · rw [if_neg hc3] at h
      cases h
      exact (zfr_rf _ _)
theorem frl_73_46 {n : Nat} {e0 : (Int × zS)} {t : ((zS) ⊕ (Unit × zS))} (h : zlp (fun (q : Int × zS) => b_73_46 q.1 q.2) n e0 = some t) : zfr 226625749658885975011949494782044518041948266364361497530453395816167080864312822841722521041543065183683999744 ((fun e : (Int × zS) => e.2) e0) ((fun t : ((zS) ⊕ (Unit × zS)) => Sum.elim (fun e : (zS) => e) (fun q => q.2) t) t) := zfr_lp (f := (fun e : (Int × zS) => e.2)) (g := (fun t : ((zS) ⊕ (Unit × zS)) => Sum.elim (fun e : (zS) => e) (fun q => q.2) t)) (fun e q h1 => frb_73_46 h1) n e0 t h
theorem fr_73 {c1 : Nat} {v2 : Int} {s : zS} {q : (Unit × zS)} (h : f_73 c1 v2 s = some q) : zfr 226625749658885975011949494782044518041948266364361497530453395816167080864312822841722521041543065183683999744 s q.2 := by
  unfold f_73 at h
  obtain ⟨hg1, h⟩ := zg_some h
  obtain ⟨hg2, h⟩ := zg_some h
  obtain ⟨r4, s5, h3, h⟩ := zb_some h
  have f6 := zfr_tr (zfr_tr (zfr_rf _ _) (zfr_P rfl)) (zfr_sub (m2 := 226625749658885975011949494782044518041948266364361497530453395816167080864312822841722521041543065183683999744) rfl (fr_138 h3))
  obtain ⟨r8, s9, h7, h⟩ := zb_some h
  have f10 := zfr_tr f6 (zfr_sub (m2 := 226625749658885975011949494782044518041948266364361497530453395816167080864312822841722521041543065183683999744) rfl (fr_61 h7))
  obtain ⟨hg11, h⟩ := zg_some h
  obtain ⟨e12, h13, h⟩ := zo_some h
  rcases e12 with e15 | q16
  · simp only [ze_l] at h
    have f14 : zfr 226625749658885975011949494782044518041948266364361497530453395816167080864312822841722521041543065183683999744 s e15 := zfr_tr (zfr_tr (zfr_tr (zfr_tr (zfr_tr (zfr_tr f10 (zfr_I rfl)) (zfr_I rfl)) (zfr_I rfl)) (zfr_I rfl)) (zfr_I rfl)) (frl_73_46 h13)
    cases h
    exact f14
  · cases h
    exact zfr_tr (zfr_tr (zfr_tr (zfr_tr (zfr_tr (zfr_tr f10 (zfr_I rfl)) (zfr_I rfl)) (zfr_I rfl)) (zfr_I rfl)) (zfr_I rfl)) (frl_73_46 h13)
theorem fr_70 {s : zS} {q : (Unit × zS)} (h : f_70 s = some q) : zfr 4479489484355608421114884561136888556243290994469299069799978201927583742360321890761754986543214231552 s q.2 := by
  unfold f_70 at h
  cases h
  exact (zfr_tr (zfr_rf _ _) (zfr_I rfl))
theorem fr_17 {v1 : Int} {s : zS} {q : (Int × zS)} (h : f_17 v1 s = some q) : zfr 226625754138375559491950224689589191445479299305407864001526951084243874059471931868594057770823834053246056448 s q.2 := by
  unfold f_17 at h
  obtain ⟨r2, s3, h1, h⟩ := zb_some h
  have f4 := zfr_tr (zfr_rf _ _) (zfr_sub (m2 := 226625754138375559491950224689589191445479299305407864001526951084243874059471931868594057770823834053246056448) rfl (fr_73 h1))
  obtain ⟨r6, s7, h5, h⟩ := zb_some h
  have f8 := zfr_tr f4 (zfr_sub (m2 := 226625754138375559491950224689589191445479299305407864001526951084243874059471931868594057770823834053246056448) rfl (fr_70 h5))
  by_cases hc9 : (gI s7 10 15) = 0
  · rw [if_pos hc9] at h
    by_cases hc10 : (gI s7 10 15) = 0
    · rw [if_pos hc10] at h
      cases h
      exact (zfr_tr (zfr_tr f8 (zfr_I rfl)) (zfr_I rfl))
    · rw [if_neg hc10] at h
      cases h
      exact (zfr_tr (zfr_tr f8 (zfr_I rfl)) (zfr_I rfl))
  · rw [if_neg hc9] at h
    by_cases hc11 : (gI s7 10 15) = 0
    · rw [if_pos hc11] at h
      cases h
      exact (zfr_tr (zfr_tr f8 (zfr_I rfl)) (zfr_I rfl))
    · rw [if_neg hc11] at h
      cases h
      exact (zfr_tr (zfr_tr f8 (zfr_I rfl)) (zfr_I rfl))
theorem fr_22 {v1 : Int} {s : zS} {q : (Unit × zS)} (h : f_22 v1 s = some q) : zfr 8474069661551462118876734063783013149974132462893120832159756118486525430596474740521985638400 s q.2 := by
  unfold f_22 at h
  obtain ⟨hg1, h⟩ := zg_some h
  obtain ⟨hg2, h⟩ := zg_some h
  cases h
  exact (zfr_tr (zfr_tr (zfr_tr (zfr_tr (zfr_rf _ _) (zfr_PA rfl rfl)) (zfr_P rfl)) (zfr_JA rfl rfl)) (zfr_I rfl))
theorem fr_16 {s : zS} {q : (Int × zS)} (h : f_16 s = some q) : zfr 226625754138375572137869565774078814999990132950827487809066684205202147522043690632892390282612148838829520896 s q.2 := by
  unfold f_16 at h
  obtain ⟨r2, s3, h1, h⟩ := zb_some h
  have f4 := zfr_tr (zfr_rf _ _) (zfr_sub (m2 := 226625754138375572137869565774078814999990132950827487809066684205202147522043690632892390282612148838829520896) rfl (fr_17 h1))
  obtain ⟨hg5, h⟩ := zg_some h
  by_cases hc6 : r2 = 0
  · rw [if_pos hc6] at h
    obtain ⟨r8, s9, h7, h⟩ := zb_some h
    have f10 := zfr_tr f4 (zfr_sub (m2 := 226625754138375572137869565774078814999990132950827487809066684205202147522043690632892390282612148838829520896) rfl (fr_22 h7))
    cases h
    exact (zfr_tr f10 (zfr_I rfl))
  · rw [if_neg hc6] at h
    cases h
    exact f4
theorem frb_51_2 {v1 : Int} {v2 : Int} {s : zS} {q : (Int × zS) ⊕ (zS)} (h : b_51_2 v1 v2 s = some q) : zfr 64 s (Sum.elim (fun e : (Int × zS) => e.2) (fun e : (zS) => e) q) := by
  unfold b_51_2 at h
  obtain ⟨hg1, h⟩ := zg_some h
  by_cases hc2 : v2 < (gI s 1 8)
  · rw [if_pos hc2] at h
    obtain ⟨hg3, h⟩ := zg_some h
    by_cases hc4 : (((gI s 1 8) - 1) - v2) < 6
    · rw [if_pos hc4] at h
      obtain ⟨hg5, h⟩ := zg_some h
      obtain ⟨hg6, h⟩ := zg_some h
      obtain ⟨hg7, h⟩ := zg_some h
      cases h
      exact (zfr_tr (zfr_rf _ _) (zfr_JA rfl rfl))
    · rw [if_neg hc4] at h
      obtain ⟨hg8, h⟩ := zg_some h
      obtain ⟨hg9, h⟩ := zg_some h
      by_cases hc10 : (zand (v1 / 2 ^ zsh ((((gI s 1 8) - 1) - v2) - 6)) 1) = 0
      · rw [if_pos hc10] at h
        obtain ⟨hg11, h⟩ := zg_some h
        cases h
        exact (zfr_tr (zfr_rf _ _) (zfr_JA rfl rfl))
      · rw [if_neg hc10] at h
        obtain ⟨hg12, h⟩ := zg_some h
        cases h
        exact (zfr_tr (zfr_rf _ _) (zfr_JA rfl rfl))
  · rw [if_neg hc2] at h
    cases h
    exact (zfr_rf _ _)
theorem frl_51_2 {v1 : Int} {n : Nat} {e0 : (Int × zS)} {t : (zS)} (h : zlp (fun (q : Int × zS) => b_51_2 v1 q.1 q.2) n e0 = some t) : zfr 64 ((fun e : (Int × zS) => e.2) e0) ((fun e : (zS) => e) t) := zfr_lp (f := (fun e : (Int × zS) => e.2)) (g := (fun e : (zS) => e)) (fun e q h1 => frb_51_2 h1) n e0 t h
theorem fr_51 {v1 : Int} {s : zS} {q : (Unit × zS)} (h : f_51 v1 s = some q) : zfr 64 s q.2 := by
  unfold f_51 at h
  obtain ⟨e1, h2, h⟩ := zo_some h
  have f3 : zfr 64 s e1 := zfr_tr (zfr_rf _ _) (frl_51_2 h2)
  cases h
  exact f3
theorem frb_102_20 {c1 : Nat} {w3 : BitVec 64} {v5 : Int} {v6 : Int} {s : zS} {q : (Int × zS) ⊕ (zS)} (h : b_102_20 c1 w3 v5 v6 s = some q) : zfr 19239260838083241802870625048898248928261591440656956380834127638791856333738872368854622194768025215237644615744 s (Sum.elim (fun e : (Int × zS) => e.2) (fun e : (zS) => e) q) := by
  unfold b_102_20 at h
  obtain ⟨hg1, h⟩ := zg_some h
  obtain ⟨hg2, h⟩ := zg_some h
  by_cases hc3 : v6 < v5
  · rw [if_pos hc3] at h
    obtain ⟨hg4, h⟩ := zg_some h
    cases h
    exact (zfr_tr (zfr_rf _ _) (zfr_JA rfl rfl))
  · rw [if_neg hc3] at h
    cases h
    exact (zfr_rf _ _)
theorem frl_102_20 {c1 : Nat} {w3 : BitVec 64} {v5 : Int} {n : Nat} {e0 : (Int × zS)} {t : (zS)} (h : zlp (fun (q : Int × zS) => b_102_20 c1 w3 v5 q.1 q.2) n e0 = some t) : zfr 19239260838083241802870625048898248928261591440656956380834127638791856333738872368854622194768025215237644615744 ((fun e : (Int × zS) => e.2) e0) ((fun e : (zS) => e) t) := zfr_lp (f := (fun e : (Int × zS) => e.2)) (g := (fun e : (zS) => e)) (fun e q h1 => frb_102_20 h1) n e0 t h
theorem fr_108 {rec : Nat → Int → Int → BitVec 64 → Int → zS → Option (Unit × zS)} {c1 : Nat} {v2 : Int} {v3 : Int} {w4 : BitVec 64} {v6 : Int} {s : zS} {q : ((BitVec 64) × zS)}  (hfr : zFrec rec) (h : f_108 rec c1 v2 v3 w4 v6 s = some q) : zfr 19239260838083241802870625048898248928261591440656956380834127638791856333738872368854622194768025215237644615680 s q.2 := by
  unfold f_108 at h
  by_cases hc1 : (gI s 17 3) < 22
  · rw [if_pos hc1] at h
    obtain ⟨r3, s4, h2, h⟩ := zb_some h
    have f5 := zfr_tr (zfr_rf _ _) (hfr _ _ _ _ _ _ _ h2)
    obtain ⟨hg6, h⟩ := zg_some h
    cases h
    exact (zfr_tr f5 (zfr_I rfl))
  · rw [if_neg hc1] at h
    cases h
    exact (zfr_rf _ _)
theorem frb_107_14 {rec : Nat → Int → Int → BitVec 64 → Int → zS → Option (Unit × zS)} {c1 : Nat} {v2 : Int} {w3 : BitVec 64} {v5 : Int} {v6 : Int} {v7 : Int} {s : zS} {q : (Int × zS) ⊕ (zS)}  (hfr : zFrec rec) (h : b_107_14 rec c1 v2 w3 v5 v6 v7 s = some q) : zfr 19239260838083241802870625048898248928261591440656956380834127638791856333738872368854622194768025215237644615680 s (Sum.elim (fun e : (Int × zS) => e.2) (fun e : (zS) => e) q) := by
  unfold b_107_14 at h
  obtain ⟨hg1, h⟩ := zg_some h
  by_cases hc2 : v7 < (gI s 1 0)
  · rw [if_pos hc2] at h
    obtain ⟨hg3, h⟩ := zg_some h
    by_cases hc4 : ((gJ s 18 (v6 + v7)) &&& w3) = (0#64)
    · rw [if_pos hc4] at h
      cases h
      exact (zfr_tr (zfr_rf _ _) (zfr_JA rfl rfl))
    · rw [if_neg hc4] at h
      obtain ⟨hg5, h⟩ := zg_some h
      obtain ⟨hg6, h⟩ := zg_some h
      obtain ⟨hg7, h⟩ := zg_some h
      obtain ⟨r9, s10, h8, h⟩ := zb_some h
      have f11 := zfr_tr (zfr_tr (zfr_rf _ _) (zfr_IA rfl rfl)) (fr_108 hfr h8)
      cases h
      exact (zfr_tr f11 (zfr_JA rfl rfl))
  · rw [if_neg hc2] at h
    cases h
    exact (zfr_rf _ _)
theorem frl_107_14 {rec : Nat → Int → Int → BitVec 64 → Int → zS → Option (Unit × zS)} {c1 : Nat} {v2 : Int} {w3 : BitVec 64} {v5 : Int} {v6 : Int} {n : Nat} {e0 : (Int × zS)} {t : (zS)}  (hfr : zFrec rec) (h : zlp (fun (q : Int × zS) => b_107_14 rec c1 v2 w3 v5 v6 q.1 q.2) n e0 = some t) : zfr 19239260838083241802870625048898248928261591440656956380834127638791856333738872368854622194768025215237644615680 ((fun e : (Int × zS) => e.2) e0) ((fun e : (zS) => e) t) := zfr_lp (f := (fun e : (Int × zS) => e.2)) (g := (fun e : (zS) => e)) (fun e q h1 => frb_107_14 hfr h1) n e0 t h
theorem fr_107 {rec : Nat → Int → Int → BitVec 64 → Int → zS → Option (Unit × zS)} {c1 : Nat} {v2 : Int} {w3 : BitVec 64} {v5 : Int} {s : zS} {q : (Unit × zS)}  (hfr : zFrec rec) (h : f_107 rec c1 v2 w3 v5 s = some q) : zfr 19239260838083241802870625048898248928261591440656956380834127638791856333738872368854622194768025215237644615680 s q.2 := by
  unfold f_107 at h
  obtain ⟨e1, h2, h⟩ := zo_some h
  have f3 : zfr 19239260838083241802870625048898248928261591440656956380834127638791856333738872368854622194768025215237644615680 s e1 := zfr_tr (zfr_rf _ _) (frl_107_14 hfr h2)
  cases h
  exact f3
theorem frb_111_24 {v1 : Int} {w3 : BitVec 64} {v5 : Int} {v6 : Int} {v7 : Int} {s : zS} {q : (Int × zS) ⊕ (zS)} (h : b_111_24 v1 w3 v5 v6 v7 s = some q) : zfr 25165824 s (Sum.elim (fun e : (Int × zS) => e.2) (fun e : (zS) => e) q) := by
  unfold b_111_24 at h
  obtain ⟨hg1, h⟩ := zg_some h
  obtain ⟨hg2, h⟩ := zg_some h
  by_cases hc3 : v7 < v6
  · rw [if_pos hc3] at h
    obtain ⟨hg4, h⟩ := zg_some h
    obtain ⟨hg5, h⟩ := zg_some h
    cases h
    exact (zfr_tr (zfr_rf _ _) (zfr_JA rfl rfl))
  · rw [if_neg hc3] at h
    cases h
    exact (zfr_rf _ _)
theorem frl_111_24 {v1 : Int} {w3 : BitVec 64} {v5 : Int} {v6 : Int} {n : Nat} {e0 : (Int × zS)} {t : (zS)} (h : zlp (fun (q : Int × zS) => b_111_24 v1 w3 v5 v6 q.1 q.2) n e0 = some t) : zfr 25165824 ((fun e : (Int × zS) => e.2) e0) ((fun e : (zS) => e) t) := zfr_lp (f := (fun e : (Int × zS) => e.2)) (g := (fun e : (zS) => e)) (fun e q h1 => frb_111_24 h1) n e0 t h
theorem fr_111 {v1 : Int} {v2 : Int} {w3 : BitVec 64} {s : zS} {q : (Unit × zS)} (h : f_111 v1 v2 w3 s = some q) : zfr 25165824 s q.2 := by
  unfold f_111 at h
  obtain ⟨r2, h1, h⟩ := zo_some h
  obtain ⟨e3, h4, h⟩ := zo_some h
  have f5 : zfr 25165824 s e3 := zfr_tr (zfr_rf _ _) (frl_111_24 h4)
  obtain ⟨hg6, h⟩ := zg_some h
  cases h
  exact (zfr_tr f5 (zfr_JA rfl rfl))
theorem frj_104_111 {rec : Nat → Int → Int → BitVec 64 → Int → zS → Option (Unit × zS)} {w3 : BitVec 64} {v6 : Int} {v7 : Int} {s : zS} {q : (Unit × zS)}  (hfr : zFrec rec) (h : j_104_111 rec w3 v6 v7 s = some q) : zfr 19239260838083241802870625048898248928261591440656956380834127638791856333738872368854622194768025215237644615680 s q.2 := by
  unfold j_104_111 at h
  obtain ⟨hg1, h⟩ := zg_some h
  by_cases hc2 : v7 = (-1)
  · rw [if_pos hc2] at h
    cases h
    exact (zfr_rf _ _)
  · rw [if_neg hc2] at h
    obtain ⟨r4, s5, h3, h⟩ := zb_some h
    have f6 := zfr_tr (zfr_rf _ _) (zfr_sub (m2 := 19239260838083241802870625048898248928261591440656956380834127638791856333738872368854622194768025215237644615680) rfl (fr_111 h3))
    cases h
    exact f6
theorem frj_109_31_123 {rec : Nat → Int → Int → BitVec 64 → Int → zS → Option (Unit × zS)} {c1 : Nat} {v2 : Int} {v5 : Int} {v6 : Int} {v7 : Int} {w8 : BitVec 64} {w10 : BitVec 64} {w12 : BitVec 64} {v14 : Int} {u0 : BitVec 64} {u1 : BitVec 64} {s : zS} {q : (BitVec 64 × BitVec 64 × BitVec 64 × Int × zS) ⊕ (BitVec 64 × BitVec 64 × zS)}  (hfr : zFrec rec) (h : j_109_31_123 rec c1 v2 v5 v6 v7 w8 w10 w12 v14 u0 u1 s = some q) : zfr 19239260838083241802870625048898248928261591440656956380834127638791856333738872368854622194768025215237644615680 s (Sum.elim (fun e : (BitVec 64 × BitVec 64 × BitVec 64 × Int × zS) => e.2.2.2.2) (fun e : (BitVec 64 × BitVec 64 × zS) => e.2.2) q) := by
  unfold j_109_31_123 at h
  obtain ⟨hg1, h⟩ := zg_some h
  by_cases hc2 : v6 = 7
  · rw [if_pos hc2] at h
    cases h
    exact (zfr_rf _ _)
  · rw [if_neg hc2] at h
    by_cases hc3 : v6 = 8
    · rw [if_pos hc3] at h
      cases h
      exact (zfr_rf _ _)
    · rw [if_neg hc3] at h
      cases h
      exact (zfr_rf _ _)
theorem frb_109_31 {rec : Nat → Int → Int → BitVec 64 → Int → zS → Option (Unit × zS)} {c1 : Nat} {v2 : Int} {v5 : Int} {v6 : Int} {v7 : Int} {w8 : BitVec 64} {w10 : BitVec 64} {w12 : BitVec 64} {v14 : Int} {s : zS} {q : (BitVec 64 × BitVec 64 × BitVec 64 × Int × zS) ⊕ (BitVec 64 × BitVec 64 × zS)}  (hfr : zFrec rec) (h : b_109_31 rec c1 v2 v5 v6 v7 w8 w10 w12 v14 s = some q) : zfr 19239260838083241802870625048898248928261591440656956380834127638791856333738872368854622194768025215237644615680 s (Sum.elim (fun e : (BitVec 64 × BitVec 64 × BitVec 64 × Int × zS) => e.2.2.2.2) (fun e : (BitVec 64 × BitVec 64 × zS) => e.2.2) q) := by
  unfold b_109_31 at h
  obtain ⟨hg1, h⟩ := zg_some h
  by_cases hc2 : v14 < (gI s 1 0)
  · rw [if_pos hc2] at h
    obtain ⟨hg3, h⟩ := zg_some h
    by_cases hc4 : ((gJ s 18 (v7 + v14)) &&& w8) = (0#64)
    · rw [if_pos hc4] at h
      cases h
      exact (zfr_rf _ _)
    · rw [if_neg hc4] at h
      obtain ⟨hg5, h⟩ := zg_some h
      obtain ⟨hg6, h⟩ := zg_some h
      obtain ⟨hg7, h⟩ := zg_some h
      obtain ⟨r9, s10, h8, h⟩ := zb_some h
      have f11 := zfr_tr (zfr_tr (zfr_rf _ _) (zfr_IA rfl rfl)) (fr_108 hfr h8)
      obtain ⟨hg12, h⟩ := zg_some h
      by_cases hc13 : v6 = 4
      · rw [if_pos hc13] at h
        exact zfr_tr f11 (frj_109_31_123 hfr h)
      · rw [if_neg hc13] at h
        exact zfr_tr f11 (frj_109_31_123 hfr h)
  · rw [if_neg hc2] at h
    cases h
    exact (zfr_rf _ _)
theorem frl_109_31 {rec : Nat → Int → Int → BitVec 64 → Int → zS → Option (Unit × zS)} {c1 : Nat} {v2 : Int} {v5 : Int} {v6 : Int} {v7 : Int} {n : Nat} {e0 : (BitVec 64 × BitVec 64 × BitVec 64 × Int × zS)} {t : (BitVec 64 × BitVec 64 × zS)}  (hfr : zFrec rec) (h : zlp (fun (q : BitVec 64 × BitVec 64 × BitVec 64 × Int × zS) => b_109_31 rec c1 v2 v5 v6 v7 q.1 q.2.1 q.2.2.1 q.2.2.2.1 q.2.2.2.2) n e0 = some t) : zfr 19239260838083241802870625048898248928261591440656956380834127638791856333738872368854622194768025215237644615680 ((fun e : (BitVec 64 × BitVec 64 × BitVec 64 × Int × zS) => e.2.2.2.2) e0) ((fun e : (BitVec 64 × BitVec 64 × zS) => e.2.2) t) := zfr_lp (f := (fun e : (BitVec 64 × BitVec 64 × BitVec 64 × Int × zS) => e.2.2.2.2)) (g := (fun e : (BitVec 64 × BitVec 64 × zS) => e.2.2)) (fun e q h1 => frb_109_31 hfr h1) n e0 t h
theorem fr_109 {rec : Nat → Int → Int → BitVec 64 → Int → zS → Option (Unit × zS)} {c1 : Nat} {v2 : Int} {w3 : BitVec 64} {v5 : Int} {s : zS} {q : (Unit × zS)}  (hfr : zFrec rec) (h : f_109 rec c1 v2 w3 v5 s = some q) : zfr 19239260838083241802870625048898248928261591440656956380834127638791856333738872368854622194768025215237644615680 s q.2 := by
  unfold f_109 at h
  obtain ⟨hg1, h⟩ := zg_some h
  obtain ⟨hg2, h⟩ := zg_some h
  obtain ⟨e3, h4, h⟩ := zo_some h
  have f5 : zfr 19239260838083241802870625048898248928261591440656956380834127638791856333738872368854622194768025215237644615680 s e3.2.2 := zfr_tr (zfr_rf _ _) (frl_109_31 hfr h4)
  obtain ⟨r7, h6, h⟩ := zo_some h
  obtain ⟨hg8, h⟩ := zg_some h
  obtain ⟨hg9, h⟩ := zg_some h
  cases h
  exact (zfr_tr (zfr_tr f5 (zfr_JA rfl rfl)) (zfr_IA rfl rfl))
theorem frj_104_59 {rec : Nat → Int → Int → BitVec 64 → Int → zS → Option (Unit × zS)} {c1 : Nat} {v2 : Int} {w3 : BitVec 64} {v5 : Int} {v6 : Int} {v7 : Int} {s : zS} {q : (Unit × zS)}  (hfr : zFrec rec) (h : j_104_59 rec c1 v2 w3 v5 v6 v7 s = some q) : zfr 19239260838083241802870625048898248928261591440656956380834127638791856333738872368854622194768025215237644615680 s q.2 := by
  unfold j_104_59 at h
  obtain ⟨hg1, h⟩ := zg_some h
  obtain ⟨hg2, h⟩ := zg_some h
  obtain ⟨r4, s5, h3, h⟩ := zb_some h
  have f6 := zfr_tr (zfr_rf _ _) (hfr _ _ _ _ _ _ _ h3)
  by_cases hc7 : (gI s5 17 3) = 0
  · rw [if_pos hc7] at h
    cases h
    exact f6
  · rw [if_neg hc7] at h
    obtain ⟨hg8, h⟩ := zg_some h
    by_cases hc9 : v6 = 1
    · rw [if_pos hc9] at h
      obtain ⟨r11, s12, h10, h⟩ := zb_some h
      have f13 := zfr_tr f6 (fr_107 hfr h10)
      exact zfr_tr f13 (frj_104_111 hfr h)
    · rw [if_neg hc9] at h
      obtain ⟨r15, s16, h14, h⟩ := zb_some h
      have f17 := zfr_tr f6 (fr_109 hfr h14)
      exact zfr_tr f17 (frj_104_111 hfr h)
theorem frb_106_21 {v1 : Int} {v2 : Int} {v3 : Int} {v4 : Int} {v5 : Int} {s : zS} {q : (Int × zS) ⊕ (zS)} (h : b_106_21 v1 v2 v3 v4 v5 s = some q) : zfr 19239260838083241802870625048898248928261591440656956380834127638791856333738872368854622194768025215237612109824 s (Sum.elim (fun e : (Int × zS) => e.2) (fun e : (zS) => e) q) := by
  unfold b_106_21 at h
  obtain ⟨hg1, h⟩ := zg_some h
  obtain ⟨hg2, h⟩ := zg_some h
  by_cases hc3 : v5 < v4
  · rw [if_pos hc3] at h
    obtain ⟨hg4, h⟩ := zg_some h
    obtain ⟨hg5, h⟩ := zg_some h
    cases h
    exact (zfr_tr (zfr_rf _ _) (zfr_JA rfl rfl))
  · rw [if_neg hc3] at h
    cases h
    exact (zfr_rf _ _)
theorem frl_106_21 {v1 : Int} {v2 : Int} {v3 : Int} {v4 : Int} {n : Nat} {e0 : (Int × zS)} {t : (zS)} (h : zlp (fun (q : Int × zS) => b_106_21 v1 v2 v3 v4 q.1 q.2) n e0 = some t) : zfr 19239260838083241802870625048898248928261591440656956380834127638791856333738872368854622194768025215237612109824 ((fun e : (Int × zS) => e.2) e0) ((fun e : (zS) => e) t) := zfr_lp (f := (fun e : (Int × zS) => e.2)) (g := (fun e : (zS) => e)) (fun e q h1 => frb_106_21 h1) n e0 t h
theorem fr_106 {v1 : Int} {v2 : Int} {s : zS} {q : (Unit × zS)} (h : f_106 v1 v2 s = some q) : zfr 19239260838083241802870625048898248928261591440656956380834127638791856333738872368854622194768025215237612109824 s q.2 := by
  unfold f_106 at h
  obtain ⟨r2, h1, h⟩ := zo_some h
  obtain ⟨e3, h4, h⟩ := zo_some h
  have f5 : zfr 19239260838083241802870625048898248928261591440656956380834127638791856333738872368854622194768025215237612109824 s e3 := zfr_tr (zfr_rf _ _) (frl_106_21 h4)
  obtain ⟨hg6, h⟩ := zg_some h
  cases h
  exact (zfr_tr (zfr_tr f5 (zfr_IA rfl rfl)) (zfr_I rfl))
theorem frj_104_16 {rec : Nat → Int → Int → BitVec 64 → Int → zS → Option (Unit × zS)} {c1 : Nat} {v2 : Int} {w3 : BitVec 64} {v5 : Int} {t0 : Int} {s : zS} {q : (Unit × zS)}  (hfr : zFrec rec) (h : j_104_16 rec c1 v2 w3 v5 t0 s = some q) : zfr 19239260838083241802870625048898248928261591440656956380834127638791856333738872368854622194768025215237644615680 s q.2 := by
  unfold j_104_16 at h
  obtain ⟨r2, h1, h⟩ := zo_some h
  obtain ⟨hg3, h⟩ := zg_some h
  by_cases hc4 : r2 = (-1)
  · rw [if_pos hc4] at h
    exact zfr_tr (zfr_rf _ _) (frj_104_59 hfr h)
  · rw [if_neg hc4] at h
    obtain ⟨hg5, h⟩ := zg_some h
    by_cases hc6 : (w3 &&& ((gJ s 23 r2) ^^^ (18446744073709551615#64))) = (0#64)
    · rw [if_pos hc6] at h
      obtain ⟨r8, s9, h7, h⟩ := zb_some h
      have f10 := zfr_tr (zfr_rf _ _) (zfr_sub (m2 := 19239260838083241802870625048898248928261591440656956380834127638791856333738872368854622194768025215237644615680) rfl (fr_106 h7))
      cases h
      exact f10
    · rw [if_neg hc6] at h
      exact zfr_tr (zfr_rf _ _) (frj_104_59 hfr h)
theorem fr_104 {rec : Nat → Int → Int → BitVec 64 → Int → zS → Option (Unit × zS)} {c1 : Nat} {v2 : Int} {w3 : BitVec 64} {v5 : Int} {s : zS} {q : (Unit × zS)}  (hfr : zFrec rec) (h : f_104 rec c1 v2 w3 v5 s = some q) : zfr 19239260838083241802870625048898248928261591440656956380834127638791856333738872368854622194768025215237644615680 s q.2 := by
  unfold f_104 at h
  obtain ⟨hg1, h⟩ := zg_some h
  obtain ⟨hg2, h⟩ := zg_some h
  by_cases hc3 : (gI s (c1 + 3) v2) = 39
  · rw [if_pos hc3] at h
    exact zfr_tr (zfr_rf _ _) (frj_104_16 hfr h)
  · rw [if_neg hc3] at h
    exact zfr_tr (zfr_rf _ _) (frj_104_16 hfr h)
theorem frb_115_71 {v1 : Int} {v2 : Int} {v3 : Int} {v4 : Int} {v5 : Int} {w6 : BitVec 64} {v8 : Int} {s : zS} {q : (Int × zS) ⊕ (zS)} (h : b_115_71 v1 v2 v3 v4 v5 w6 v8 s = some q) : zfr 19239260838083241802870625048898248928261591440656956380834127638791856333738872368854622194768025215237612109824 s (Sum.elim (fun e : (Int × zS) => e.2) (fun e : (zS) => e) q) := by
  unfold b_115_71 at h
  obtain ⟨hg1, h⟩ := zg_some h
  obtain ⟨hg2, h⟩ := zg_some h
  by_cases hc3 : v8 < v5
  · rw [if_pos hc3] at h
    obtain ⟨hg4, h⟩ := zg_some h
    cases h
    exact (zfr_tr (zfr_rf _ _) (zfr_JA rfl rfl))
  · rw [if_neg hc3] at h
    cases h
    exact (zfr_rf _ _)
theorem frl_115_71 {v1 : Int} {v2 : Int} {v3 : Int} {v4 : Int} {v5 : Int} {w6 : BitVec 64} {n : Nat} {e0 : (Int × zS)} {t : (zS)} (h : zlp (fun (q : Int × zS) => b_115_71 v1 v2 v3 v4 v5 w6 q.1 q.2) n e0 = some t) : zfr 19239260838083241802870625048898248928261591440656956380834127638791856333738872368854622194768025215237612109824 ((fun e : (Int × zS) => e.2) e0) ((fun e : (zS) => e) t) := zfr_lp (f := (fun e : (Int × zS) => e.2)) (g := (fun e : (zS) => e)) (fun e q h1 => frb_115_71 h1) n e0 t h
theorem frb_116_2 {v1 : Int} {v2 : Int} {s : zS} {q : (Int × zS) ⊕ (zS)} (h : b_116_2 v1 v2 s = some q) : zfr 262144 s (Sum.elim (fun e : (Int × zS) => e.2) (fun e : (zS) => e) q) := by
  unfold b_116_2 at h
  obtain ⟨hg1, h⟩ := zg_some h
  by_cases hc2 : v2 < (gI s 1 0)
  · rw [if_pos hc2] at h
    obtain ⟨hg3, h⟩ := zg_some h
    cases h
    exact (zfr_tr (zfr_rf _ _) (zfr_JA rfl rfl))
  · rw [if_neg hc2] at h
    cases h
    exact (zfr_rf _ _)
theorem frl_116_2 {v1 : Int} {n : Nat} {e0 : (Int × zS)} {t : (zS)} (h : zlp (fun (q : Int × zS) => b_116_2 v1 q.1 q.2) n e0 = some t) : zfr 262144 ((fun e : (Int × zS) => e.2) e0) ((fun e : (zS) => e) t) := zfr_lp (f := (fun e : (Int × zS) => e.2)) (g := (fun e : (zS) => e)) (fun e q h1 => frb_116_2 h1) n e0 t h
theorem fr_116 {v1 : Int} {s : zS} {q : (Unit × zS)} (h : f_116 v1 s = some q) : zfr 262144 s q.2 := by
  unfold f_116 at h
  obtain ⟨e1, h2, h⟩ := zo_some h
  have f3 : zfr 262144 s e1 := zfr_tr (zfr_rf _ _) (frl_116_2 h2)
  cases h
  exact f3
theorem frj_115_114 {v1 : Int} {v3 : Int} {v4 : Int} {s : zS} {q : (Unit × zS)} (h : j_115_114 v1 v3 v4 s = some q) : zfr 19239260838083241802870625048898248928261591440656956380834127638791856333738872368854622194768025215237612109824 s q.2 := by
  unfold j_115_114 at h
  obtain ⟨hg1, h⟩ := zg_some h
  obtain ⟨hg2, h⟩ := zg_some h
  by_cases hc3 : v1 = 17
  · rw [if_pos hc3] at h
    obtain ⟨r5, s6, h4, h⟩ := zb_some h
    have f7 := zfr_tr (zfr_tr (zfr_tr (zfr_rf _ _) (zfr_IA rfl rfl)) (zfr_I rfl)) (zfr_sub (m2 := 19239260838083241802870625048898248928261591440656956380834127638791856333738872368854622194768025215237612109824) rfl (fr_116 h4))
    cases h
    exact f7
  · rw [if_neg hc3] at h
    cases h
    exact (zfr_tr (zfr_tr (zfr_rf _ _) (zfr_IA rfl rfl)) (zfr_I rfl))
theorem frj_115_66 {v1 : Int} {v2 : Int} {v3 : Int} {v4 : Int} {v5 : Int} {u0 : BitVec 64} {s : zS} {q : (Unit × zS)} (h : j_115_66 v1 v2 v3 v4 v5 u0 s = some q) : zfr 19239260838083241802870625048898248928261591440656956380834127638791856333738872368854622194768025215237612109824 s q.2 := by
  unfold j_115_66 at h
  obtain ⟨e1, h2, h⟩ := zo_some h
  have f3 : zfr 19239260838083241802870625048898248928261591440656956380834127638791856333738872368854622194768025215237612109824 s e1 := zfr_tr (zfr_rf _ _) (frl_115_71 h2)
  obtain ⟨hg4, h⟩ := zg_some h
  by_cases hc5 : v1 = 43
  · rw [if_pos hc5] at h
    obtain ⟨hg6, h⟩ := zg_some h
    exact zfr_tr (zfr_tr f3 (zfr_JA rfl rfl)) (frj_115_114 h)
  · rw [if_neg hc5] at h
    exact zfr_tr f3 (frj_115_114 h)
theorem frj_115_59 {v1 : Int} {v2 : Int} {v3 : Int} {v4 : Int} {v5 : Int} {s : zS} {q : (Unit × zS)} (h : j_115_59 v1 v2 v3 v4 v5 s = some q) : zfr 19239260838083241802870625048898248928261591440656956380834127638791856333738872368854622194768025215237612109824 s q.2 := by
  unfold j_115_59 at h
  exact zfr_tr (zfr_rf _ _) (frj_115_66 h)
theorem frj_115_27 {v1 : Int} {v2 : Int} {t0 : Int} {s : zS} {q : (Unit × zS)} (h : j_115_27 v1 v2 t0 s = some q) : zfr 19239260838083241802870625048898248928261591440656956380834127638791856333738872368854622194768025215237612109824 s q.2 := by
  unfold j_115_27 at h
  obtain ⟨r2, h1, h⟩ := zo_some h
  obtain ⟨hg3, h⟩ := zg_some h
  by_cases hc4 : v1 = 16
  · rw [if_pos hc4] at h
    exact zfr_tr (zfr_rf _ _) (frj_115_59 h)
  · rw [if_neg hc4] at h
    by_cases hc5 : v1 = 18
    · rw [if_pos hc5] at h
      exact zfr_tr (zfr_rf _ _) (frj_115_59 h)
    · rw [if_neg hc5] at h
      exact zfr_tr (zfr_rf _ _) (frj_115_66 h)
theorem frj_115_12 {v1 : Int} {v2 : Int} {s : zS} {q : (Unit × zS)} (h : j_115_12 v1 v2 s = some q) : zfr 19239260838083241802870625048898248928261591440656956380834127638791856333738872368854622194768025215237612109824 s q.2 := by
  unfold j_115_12 at h
  exact zfr_tr (zfr_rf _ _) (frj_115_27 h)
theorem fr_115 {v1 : Int} {v2 : Int} {s : zS} {q : (Unit × zS)} (h : f_115 v1 v2 s = some q) : zfr 19239260838083241802870625048898248928261591440656956380834127638791856333738872368854622194768025215237612109824 s q.2 := by
  unfold f_115 at h
  obtain ⟨hg1, h⟩ := zg_some h
  by_cases hc2 : v1 = 18
  · rw [if_pos hc2] at h
    exact zfr_tr (zfr_rf _ _) (frj_115_12 h)
  · rw [if_neg hc2] at h
    by_cases hc3 : v1 = 19
    · rw [if_pos hc3] at h
      exact zfr_tr (zfr_rf _ _) (frj_115_12 h)
    · rw [if_neg hc3] at h
      by_cases hc4 : v1 = 17
      · rw [if_pos hc4] at h
        exact zfr_tr (zfr_rf _ _) (frj_115_27 h)
      · rw [if_neg hc4] at h
        exact zfr_tr (zfr_rf _ _) (frj_115_27 h)
theorem frb_117_34 {v1 : Int} {v2 : Int} {v3 : Int} {v4 : Int} {v5 : Int} {s : zS} {q : (Int × zS) ⊕ (zS)} (h : b_117_34 v1 v2 v3 v4 v5 s = some q) : zfr 19239260838083241802870625048898248928261591440656956380834127638791856333738872368854622194768025215237612109824 s (Sum.elim (fun e : (Int × zS) => e.2) (fun e : (zS) => e) q) := by
  unfold b_117_34 at h
  obtain ⟨hg1, h⟩ := zg_some h
  obtain ⟨hg2, h⟩ := zg_some h
  by_cases hc3 : v5 < v4
  · rw [if_pos hc3] at h
    obtain ⟨hg4, h⟩ := zg_some h
    obtain ⟨hg5, h⟩ := zg_some h
    cases h
    exact (zfr_tr (zfr_rf _ _) (zfr_JA rfl rfl))
  · rw [if_neg hc3] at h
    cases h
    exact (zfr_rf _ _)
theorem frl_117_34 {v1 : Int} {v2 : Int} {v3 : Int} {v4 : Int} {n : Nat} {e0 : (Int × zS)} {t : (zS)} (h : zlp (fun (q : Int × zS) => b_117_34 v1 v2 v3 v4 q.1 q.2) n e0 = some t) : zfr 19239260838083241802870625048898248928261591440656956380834127638791856333738872368854622194768025215237612109824 ((fun e : (Int × zS) => e.2) e0) ((fun e : (zS) => e) t) := zfr_lp (f := (fun e : (Int × zS) => e.2)) (g := (fun e : (zS) => e)) (fun e q h1 => frb_117_34 h1) n e0 t h
theorem fr_117 {v1 : Int} {s : zS} {q : (Unit × zS)} (h : f_117 v1 s = some q) : zfr 19239260838083241802870625048898248928261591440656956380834127638791856333738872368854622194768025215237612109824 s q.2 := by
  unfold f_117 at h
  obtain ⟨hg1, h⟩ := zg_some h
  obtain ⟨r3, h2, h⟩ := zo_some h
  obtain ⟨e4, h5, h⟩ := zo_some h
  have f6 : zfr 19239260838083241802870625048898248928261591440656956380834127638791856333738872368854622194768025215237612109824 s e4 := zfr_tr (zfr_rf _ _) (frl_117_34 h5)
  obtain ⟨hg7, h⟩ := zg_some h
  cases h
  exact (zfr_tr (zfr_tr f6 (zfr_IA rfl rfl)) (zfr_I rfl))
theorem frb_270_6 {w1 : BitVec 64} {v4 : Int} {v3 : Int} {s : zS} {q : (Int × zS) ⊕ (zS)} (h : b_270_6 w1 v4 v3 s = some q) : zfr 4194304 s (Sum.elim (fun e : (Int × zS) => e.2) (fun e : (zS) => e) q) := by
  unfold b_270_6 at h
  obtain ⟨hg1, h⟩ := zg_some h
  obtain ⟨hg2, h⟩ := zg_some h
  by_cases hc3 : v3 < v4
  · rw [if_pos hc3] at h
    obtain ⟨hg4, h⟩ := zg_some h
    cases h
    exact (zfr_tr (zfr_rf _ _) (zfr_JA rfl rfl))
  · rw [if_neg hc3] at h
    cases h
    exact (zfr_rf _ _)
theorem frl_270_6 {w1 : BitVec 64} {v4 : Int} {n : Nat} {e0 : (Int × zS)} {t : (zS)} (h : zlp (fun (q : Int × zS) => b_270_6 w1 v4 q.1 q.2) n e0 = some t) : zfr 4194304 ((fun e : (Int × zS) => e.2) e0) ((fun e : (zS) => e) t) := zfr_lp (f := (fun e : (Int × zS) => e.2)) (g := (fun e : (zS) => e)) (fun e q h1 => frb_270_6 h1) n e0 t h
theorem fr_270 {w1 : BitVec 64} {s : zS} {q : (Unit × zS)} (h : f_270 w1 s = some q) : zfr 4194304 s q.2 := by
  unfold f_270 at h
  obtain ⟨e1, h2, h⟩ := zo_some h
  have f3 : zfr 4194304 s e1 := zfr_tr (zfr_rf _ _) (frl_270_6 h2)
  cases h
  exact f3
theorem frb_118_71 {v1 : Int} {v2 : Int} {v3 : Int} {v4 : Int} {v5 : Int} {w6 : BitVec 64} {v8 : Int} {s : zS} {q : (BitVec 64 × Int × zS) ⊕ (zS)} (h : b_118_71 v1 v2 v3 v4 v5 w6 v8 s = some q) : zfr 4980736 s (Sum.elim (fun e : (BitVec 64 × Int × zS) => e.2.2) (fun e : (zS) => e) q) := by
  unfold b_118_71 at h
  obtain ⟨hg1, h⟩ := zg_some h
  by_cases hc2 : v8 < 10
  · rw [if_pos hc2] at h
    by_cases hc3 : w6 = (0#64)
    · rw [if_pos hc3] at h
      cases h
      exact (zfr_rf _ _)
    · rw [if_neg hc3] at h
      obtain ⟨hg4, h⟩ := zg_some h
      cases h
      exact (zfr_tr (zfr_rf _ _) (zfr_JA rfl rfl))
  · rw [if_neg hc2] at h
    cases h
    exact (zfr_rf _ _)
theorem frl_118_71 {v1 : Int} {v2 : Int} {v3 : Int} {v4 : Int} {v5 : Int} {n : Nat} {e0 : (BitVec 64 × Int × zS)} {t : (zS)} (h : zlp (fun (q : BitVec 64 × Int × zS) => b_118_71 v1 v2 v3 v4 v5 q.1 q.2.1 q.2.2) n e0 = some t) : zfr 4980736 ((fun e : (BitVec 64 × Int × zS) => e.2.2) e0) ((fun e : (zS) => e) t) := zfr_lp (f := (fun e : (BitVec 64 × Int × zS) => e.2.2)) (g := (fun e : (zS) => e)) (fun e q h1 => frb_118_71 h1) n e0 t h
theorem frb_118_50 {v1 : Int} {v2 : Int} {v3 : Int} {v4 : Int} {v5 : Int} {s : zS} {q : (Int × zS) ⊕ (zS)} (h : b_118_50 v1 v2 v3 v4 v5 s = some q) : zfr 4980736 s (Sum.elim (fun e : (Int × zS) => e.2) (fun e : (zS) => e) q) := by
  unfold b_118_50 at h
  obtain ⟨hg1, h⟩ := zg_some h
  obtain ⟨hg2, h⟩ := zg_some h
  by_cases hc3 : v5 < v4
  · rw [if_pos hc3] at h
    obtain ⟨hg4, h⟩ := zg_some h
    obtain ⟨e5, h6, h⟩ := zo_some h
    have f7 : zfr 4980736 s e5 := zfr_tr (zfr_rf _ _) (frl_118_71 h6)
    cases h
    exact f7
  · rw [if_neg hc3] at h
    cases h
    exact (zfr_rf _ _)
theorem frl_118_50 {v1 : Int} {v2 : Int} {v3 : Int} {v4 : Int} {n : Nat} {e0 : (Int × zS)} {t : (zS)} (h : zlp (fun (q : Int × zS) => b_118_50 v1 v2 v3 v4 q.1 q.2) n e0 = some t) : zfr 4980736 ((fun e : (Int × zS) => e.2) e0) ((fun e : (zS) => e) t) := zfr_lp (f := (fun e : (Int × zS) => e.2)) (g := (fun e : (zS) => e)) (fun e q h1 => frb_118_50 h1) n e0 t h
theorem fr_118 {v1 : Int} {v2 : Int} {s : zS} {q : (Unit × zS)} (h : f_118 v1 v2 s = some q) : zfr 4980736 s q.2 := by
  unfold f_118 at h
  by_cases hc1 : (gI s 17 3) < 1
  · rw [if_pos hc1] at h
    cases h
    exact (zfr_rf _ _)
  · rw [if_neg hc1] at h
    obtain ⟨hg2, h⟩ := zg_some h
    obtain ⟨r4, h3, h⟩ := zo_some h
    obtain ⟨r6, s7, h5, h⟩ := zb_some h
    have f8 := zfr_tr (zfr_rf _ _) (zfr_sub (m2 := 4980736) rfl (fr_270 h5))
    obtain ⟨e9, h10, h⟩ := zo_some h
    have f11 : zfr 4980736 s e9 := zfr_tr f8 (frl_118_50 h10)
    obtain ⟨e12, h13, h⟩ := zo_some h
    obtain ⟨hg14, h⟩ := zg_some h
    by_cases hc15 : v1 = 32
    · rw [if_pos hc15] at h
      obtain ⟨hg16, h⟩ := zg_some h
      obtain ⟨hg17, h⟩ := zg_some h
      cases h
      exact (zfr_tr (zfr_tr f11 (zfr_JA rfl rfl)) (zfr_IA rfl rfl))
    · rw [if_neg hc15] at h
      by_cases hc18 : v1 = 33
      · rw [if_pos hc18] at h
        obtain ⟨hg19, h⟩ := zg_some h
        obtain ⟨hg20, h⟩ := zg_some h
        cases h
        exact (zfr_tr (zfr_tr f11 (zfr_JA rfl rfl)) (zfr_IA rfl rfl))
      · rw [if_neg hc18] at h
        obtain ⟨hg21, h⟩ := zg_some h
        obtain ⟨hg22, h⟩ := zg_some h
        cases h
        exact (zfr_tr (zfr_tr f11 (zfr_JA rfl rfl)) (zfr_IA rfl rfl))
theorem fr_119 {v1 : Int} {s : zS} {q : (Unit × zS)} (h : f_119 v1 s = some q) : zfr 786432 s q.2 := by
  unfold f_119 at h
  by_cases hc1 : (gI s 17 3) < 1
  · rw [if_pos hc1] at h
    cases h
    exact (zfr_rf _ _)
  · rw [if_neg hc1] at h
    obtain ⟨hg2, h⟩ := zg_some h
    obtain ⟨r4, h3, h⟩ := zo_some h
    obtain ⟨e5, h6, h⟩ := zo_some h
    obtain ⟨r8, h7, h⟩ := zo_some h
    obtain ⟨hg9, h⟩ := zg_some h
    cases h
    exact (zfr_tr (zfr_tr (zfr_rf _ _) (zfr_JA rfl rfl)) (zfr_IA rfl rfl))
theorem frb_121_18 {v1 : Int} {v2 : Int} {v3 : Int} {v4 : Int} {s : zS} {q : (Int × zS) ⊕ (zS)} (h : b_121_18 v1 v2 v3 v4 s = some q) : zfr 262144 s (Sum.elim (fun e : (Int × zS) => e.2) (fun e : (zS) => e) q) := by
  unfold b_121_18 at h
  obtain ⟨hg1, h⟩ := zg_some h
  obtain ⟨hg2, h⟩ := zg_some h
  by_cases hc3 : v4 < v3
  · rw [if_pos hc3] at h
    obtain ⟨hg4, h⟩ := zg_some h
    obtain ⟨hg5, h⟩ := zg_some h
    cases h
    exact (zfr_tr (zfr_tr (zfr_rf _ _) (zfr_JA rfl rfl)) (zfr_JA rfl rfl))
  · rw [if_neg hc3] at h
    cases h
    exact (zfr_rf _ _)
theorem frl_121_18 {v1 : Int} {v2 : Int} {v3 : Int} {n : Nat} {e0 : (Int × zS)} {t : (zS)} (h : zlp (fun (q : Int × zS) => b_121_18 v1 v2 v3 q.1 q.2) n e0 = some t) : zfr 262144 ((fun e : (Int × zS) => e.2) e0) ((fun e : (zS) => e) t) := zfr_lp (f := (fun e : (Int × zS) => e.2)) (g := (fun e : (zS) => e)) (fun e q h1 => frb_121_18 h1) n e0 t h
theorem frb_121_10 {v1 : Int} {v2 : Int} {v3 : Int} {s : zS} {q : (Int × zS) ⊕ (zS)} (h : b_121_10 v1 v2 v3 s = some q) : zfr 262144 s (Sum.elim (fun e : (Int × zS) => e.2) (fun e : (zS) => e) q) := by
  unfold b_121_10 at h
  obtain ⟨hg1, h⟩ := zg_some h
  obtain ⟨hg2, h⟩ := zg_some h
  by_cases hc3 : v3 < v2
  · rw [if_pos hc3] at h
    obtain ⟨e4, h5, h⟩ := zo_some h
    have f6 : zfr 262144 s e4 := zfr_tr (zfr_rf _ _) (frl_121_18 h5)
    cases h
    exact f6
  · rw [if_neg hc3] at h
    cases h
    exact (zfr_rf _ _)
theorem frl_121_10 {v1 : Int} {v2 : Int} {n : Nat} {e0 : (Int × zS)} {t : (zS)} (h : zlp (fun (q : Int × zS) => b_121_10 v1 v2 q.1 q.2) n e0 = some t) : zfr 262144 ((fun e : (Int × zS) => e.2) e0) ((fun e : (zS) => e) t) := zfr_lp (f := (fun e : (Int × zS) => e.2)) (g := (fun e : (zS) => e)) (fun e q h1 => frb_121_10 h1) n e0 t h
theorem fr_121 {v1 : Int} {s : zS} {q : (Unit × zS)} (h : f_121 v1 s = some q) : zfr 262144 s q.2 := by
  unfold f_121 at h
  obtain ⟨e1, h2, h⟩ := zo_some h
  have f3 : zfr 262144 s e1 := zfr_tr (zfr_rf _ _) (frl_121_10 h2)
  cases h
  exact f3
theorem frb_122_27 {v1 : Int} {v2 : Int} {v3 : Int} {v4 : Int} {v5 : Int} {s : zS} {q : (Int × zS) ⊕ (zS)} (h : b_122_27 v1 v2 v3 v4 v5 s = some q) : zfr 262144 s (Sum.elim (fun e : (Int × zS) => e.2) (fun e : (zS) => e) q) := by
  unfold b_122_27 at h
  obtain ⟨hg1, h⟩ := zg_some h
  obtain ⟨hg2, h⟩ := zg_some h
  by_cases hc3 : v5 < v2
  · rw [if_pos hc3] at h
    obtain ⟨hg4, h⟩ := zg_some h
    obtain ⟨hg5, h⟩ := zg_some h
    obtain ⟨hg6, h⟩ := zg_some h
    cases h
    exact (zfr_tr (zfr_rf _ _) (zfr_JA rfl rfl))
  · rw [if_neg hc3] at h
    cases h
    exact (zfr_rf _ _)
theorem frl_122_27 {v1 : Int} {v2 : Int} {v3 : Int} {v4 : Int} {n : Nat} {e0 : (Int × zS)} {t : (zS)} (h : zlp (fun (q : Int × zS) => b_122_27 v1 v2 v3 v4 q.1 q.2) n e0 = some t) : zfr 262144 ((fun e : (Int × zS) => e.2) e0) ((fun e : (zS) => e) t) := zfr_lp (f := (fun e : (Int × zS) => e.2)) (g := (fun e : (zS) => e)) (fun e q h1 => frb_122_27 h1) n e0 t h
theorem frb_122_18 {v1 : Int} {v2 : Int} {v3 : Int} {v4 : Int} {s : zS} {q : (Int × zS) ⊕ (zS)} (h : b_122_18 v1 v2 v3 v4 s = some q) : zfr 262144 s (Sum.elim (fun e : (Int × zS) => e.2) (fun e : (zS) => e) q) := by
  unfold b_122_18 at h
  obtain ⟨hg1, h⟩ := zg_some h
  obtain ⟨hg2, h⟩ := zg_some h
  by_cases hc3 : v4 < v2
  · rw [if_pos hc3] at h
    obtain ⟨e4, h5, h⟩ := zo_some h
    have f6 : zfr 262144 s e4 := zfr_tr (zfr_rf _ _) (frl_122_27 h5)
    cases h
    exact f6
  · rw [if_neg hc3] at h
    cases h
    exact (zfr_rf _ _)
theorem frl_122_18 {v1 : Int} {v2 : Int} {v3 : Int} {n : Nat} {e0 : (Int × zS)} {t : (zS)} (h : zlp (fun (q : Int × zS) => b_122_18 v1 v2 v3 q.1 q.2) n e0 = some t) : zfr 262144 ((fun e : (Int × zS) => e.2) e0) ((fun e : (zS) => e) t) := zfr_lp (f := (fun e : (Int × zS) => e.2)) (g := (fun e : (zS) => e)) (fun e q h1 => frb_122_18 h1) n e0 t h
theorem frb_122_10 {v1 : Int} {v2 : Int} {v3 : Int} {s : zS} {q : (Int × zS) ⊕ (zS)} (h : b_122_10 v1 v2 v3 s = some q) : zfr 262144 s (Sum.elim (fun e : (Int × zS) => e.2) (fun e : (zS) => e) q) := by
  unfold b_122_10 at h
  obtain ⟨hg1, h⟩ := zg_some h
  obtain ⟨hg2, h⟩ := zg_some h
  by_cases hc3 : v3 < v2
  · rw [if_pos hc3] at h
    obtain ⟨e4, h5, h⟩ := zo_some h
    have f6 : zfr 262144 s e4 := zfr_tr (zfr_rf _ _) (frl_122_18 h5)
    cases h
    exact f6
  · rw [if_neg hc3] at h
    cases h
    exact (zfr_rf _ _)
theorem frl_122_10 {v1 : Int} {v2 : Int} {n : Nat} {e0 : (Int × zS)} {t : (zS)} (h : zlp (fun (q : Int × zS) => b_122_10 v1 v2 q.1 q.2) n e0 = some t) : zfr 262144 ((fun e : (Int × zS) => e.2) e0) ((fun e : (zS) => e) t) := zfr_lp (f := (fun e : (Int × zS) => e.2)) (g := (fun e : (zS) => e)) (fun e q h1 => frb_122_10 h1) n e0 t h
theorem fr_122 {v1 : Int} {s : zS} {q : (Unit × zS)} (h : f_122 v1 s = some q) : zfr 262144 s q.2 := by
  unfold f_122 at h
  obtain ⟨e1, h2, h⟩ := zo_some h
  have f3 : zfr 262144 s e1 := zfr_tr (zfr_rf _ _) (frl_122_10 h2)
  cases h
  exact f3
theorem fr_120 {v1 : Int} {s : zS} {q : (Unit × zS)} (h : f_120 v1 s = some q) : zfr 262144 s q.2 := by
  unfold f_120 at h
  by_cases hc1 : (gI s 17 3) < 1
  · rw [if_pos hc1] at h
    cases h
    exact (zfr_rf _ _)
  · rw [if_neg hc1] at h
    obtain ⟨hg2, h⟩ := zg_some h
    by_cases hc3 : v1 = 9
    · rw [if_pos hc3] at h
      obtain ⟨hg4, h⟩ := zg_some h
      by_cases hc5 : v1 = 30
      · rw [if_pos hc5] at h
        obtain ⟨r7, s8, h6, h⟩ := zb_some h
        have f9 := zfr_tr (zfr_tr (zfr_rf _ _) (zfr_JA rfl rfl)) (zfr_sub (m2 := 262144) rfl (fr_116 h6))
        cases h
        exact f9
      · rw [if_neg hc5] at h
        cases h
        exact (zfr_tr (zfr_rf _ _) (zfr_JA rfl rfl))
    · rw [if_neg hc3] at h
      by_cases hc10 : v1 = 28
      · rw [if_pos hc10] at h
        obtain ⟨r12, s13, h11, h⟩ := zb_some h
        have f14 := zfr_tr (zfr_rf _ _) (zfr_sub (m2 := 262144) rfl (fr_121 h11))
        by_cases hc15 : v1 = 30
        · rw [if_pos hc15] at h
          obtain ⟨r17, s18, h16, h⟩ := zb_some h
          have f19 := zfr_tr f14 (zfr_sub (m2 := 262144) rfl (fr_116 h16))
          cases h
          exact f19
        · rw [if_neg hc15] at h
          cases h
          exact f14
      · rw [if_neg hc10] at h
        obtain ⟨r21, s22, h20, h⟩ := zb_some h
        have f23 := zfr_tr (zfr_rf _ _) (zfr_sub (m2 := 262144) rfl (fr_122 h20))
        by_cases hc24 : v1 = 30
        · rw [if_pos hc24] at h
          obtain ⟨r26, s27, h25, h⟩ := zb_some h
          have f28 := zfr_tr f23 (zfr_sub (m2 := 262144) rfl (fr_116 h25))
          cases h
          exact f28
        · rw [if_neg hc24] at h
          cases h
          exact f23
theorem fr_123 {v1 : Int} {s : zS} {q : (Unit × zS)} (h : f_123 v1 s = some q) : zfr 19239260838083241802870625048898248928261591440656956380834127638791856333738872368854622194768025215237612109824 s q.2 := by
  unfold f_123 at h
  by_cases hc1 : (gI s 17 3) < 2
  · rw [if_pos hc1] at h
    cases h
    exact (zfr_rf _ _)
  · rw [if_neg hc1] at h
    obtain ⟨hg2, h⟩ := zg_some h
    obtain ⟨r4, h3, h⟩ := zo_some h
    obtain ⟨e5, h6, h⟩ := zo_some h
    obtain ⟨hg7, h⟩ := zg_some h
    cases h
    exact (zfr_tr (zfr_tr (zfr_tr (zfr_rf _ _) (zfr_I rfl)) (zfr_JA rfl rfl)) (zfr_IA rfl rfl))
theorem frb_124_100 {v1 : Int} {v2 : Int} {v3 : Int} {v4 : Int} {v5 : Int} {v6 : Int} {v7 : Int} {s : zS} {q : (Int × zS) ⊕ (zS)} (h : b_124_100 v1 v2 v3 v4 v5 v6 v7 s = some q) : zfr 19239260838083241802870625048898248928261591440656956380834127638791856333738872368854622194768025215237614206976 s (Sum.elim (fun e : (Int × zS) => e.2) (fun e : (zS) => e) q) := by
  unfold b_124_100 at h
  obtain ⟨hg1, h⟩ := zg_some h
  obtain ⟨hg2, h⟩ := zg_some h
  by_cases hc3 : v7 < v5
  · rw [if_pos hc3] at h
    obtain ⟨hg4, h⟩ := zg_some h
    cases h
    exact (zfr_tr (zfr_rf _ _) (zfr_JA rfl rfl))
  · rw [if_neg hc3] at h
    cases h
    exact (zfr_rf _ _)
theorem frl_124_100 {v1 : Int} {v2 : Int} {v3 : Int} {v4 : Int} {v5 : Int} {v6 : Int} {n : Nat} {e0 : (Int × zS)} {t : (zS)} (h : zlp (fun (q : Int × zS) => b_124_100 v1 v2 v3 v4 v5 v6 q.1 q.2) n e0 = some t) : zfr 19239260838083241802870625048898248928261591440656956380834127638791856333738872368854622194768025215237614206976 ((fun e : (Int × zS) => e.2) e0) ((fun e : (zS) => e) t) := zfr_lp (f := (fun e : (Int × zS) => e.2)) (g := (fun e : (zS) => e)) (fun e q h1 => frb_124_100 h1) n e0 t h
theorem frb_124_155 {v1 : Int} {v2 : Int} {v3 : Int} {v4 : Int} {v5 : Int} {v6 : Int} {v7 : Int} {w8 : BitVec 64} {v10 : Int} {s : zS} {q : (Int × zS) ⊕ (zS)} (h : b_124_155 v1 v2 v3 v4 v5 v6 v7 w8 v10 s = some q) : zfr 19239260838083241802870625048898248928261591440656956380834127638791856333738872368854622194768025215237614206976 s (Sum.elim (fun e : (Int × zS) => e.2) (fun e : (zS) => e) q) := by
  unfold b_124_155 at h
  obtain ⟨hg1, h⟩ := zg_some h
  obtain ⟨hg2, h⟩ := zg_some h
  by_cases hc3 : v10 < v5
  · rw [if_pos hc3] at h
    by_cases hc4 : w8 = (0#64)
    · rw [if_pos hc4] at h
      cases h
      exact (zfr_rf _ _)
    · rw [if_neg hc4] at h
      obtain ⟨hg5, h⟩ := zg_some h
      obtain ⟨hg6, h⟩ := zg_some h
      cases h
      exact (zfr_tr (zfr_rf _ _) (zfr_JA rfl rfl))
  · rw [if_neg hc3] at h
    cases h
    exact (zfr_rf _ _)
theorem frl_124_155 {v1 : Int} {v2 : Int} {v3 : Int} {v4 : Int} {v5 : Int} {v6 : Int} {v7 : Int} {w8 : BitVec 64} {n : Nat} {e0 : (Int × zS)} {t : (zS)} (h : zlp (fun (q : Int × zS) => b_124_155 v1 v2 v3 v4 v5 v6 v7 w8 q.1 q.2) n e0 = some t) : zfr 19239260838083241802870625048898248928261591440656956380834127638791856333738872368854622194768025215237614206976 ((fun e : (Int × zS) => e.2) e0) ((fun e : (zS) => e) t) := zfr_lp (f := (fun e : (Int × zS) => e.2)) (g := (fun e : (zS) => e)) (fun e q h1 => frb_124_155 h1) n e0 t h
theorem frb_124_130 {v1 : Int} {v2 : Int} {v3 : Int} {v4 : Int} {v5 : Int} {v6 : Int} {v7 : Int} {s : zS} {q : (Int × zS) ⊕ (zS)} (h : b_124_130 v1 v2 v3 v4 v5 v6 v7 s = some q) : zfr 19239260838083241802870625048898248928261591440656956380834127638791856333738872368854622194768025215237614206976 s (Sum.elim (fun e : (Int × zS) => e.2) (fun e : (zS) => e) q) := by
  unfold b_124_130 at h
  obtain ⟨hg1, h⟩ := zg_some h
  obtain ⟨hg2, h⟩ := zg_some h
  by_cases hc3 : v7 < v1
  · rw [if_pos hc3] at h
    obtain ⟨hg4, h⟩ := zg_some h
    obtain ⟨e5, h6, h⟩ := zo_some h
    have f7 : zfr 19239260838083241802870625048898248928261591440656956380834127638791856333738872368854622194768025215237614206976 s e5 := zfr_tr (zfr_rf _ _) (frl_124_155 h6)
    cases h
    exact f7
  · rw [if_neg hc3] at h
    cases h
    exact (zfr_rf _ _)
theorem frl_124_130 {v1 : Int} {v2 : Int} {v3 : Int} {v4 : Int} {v5 : Int} {v6 : Int} {n : Nat} {e0 : (Int × zS)} {t : (zS)} (h : zlp (fun (q : Int × zS) => b_124_130 v1 v2 v3 v4 v5 v6 q.1 q.2) n e0 = some t) : zfr 19239260838083241802870625048898248928261591440656956380834127638791856333738872368854622194768025215237614206976 ((fun e : (Int × zS) => e.2) e0) ((fun e : (zS) => e) t) := zfr_lp (f := (fun e : (Int × zS) => e.2)) (g := (fun e : (zS) => e)) (fun e q h1 => frb_124_130 h1) n e0 t h
theorem frb_124_90 {v1 : Int} {v2 : Int} {v3 : Int} {v4 : Int} {v5 : Int} {v6 : Int} {s : zS} {q : (Int × zS) ⊕ (zS)} (h : b_124_90 v1 v2 v3 v4 v5 v6 s = some q) : zfr 19239260838083241802870625048898248928261591440656956380834127638791856333738872368854622194768025215237614206976 s (Sum.elim (fun e : (Int × zS) => e.2) (fun e : (zS) => e) q) := by
  unfold b_124_90 at h
  obtain ⟨hg1, h⟩ := zg_some h
  obtain ⟨hg2, h⟩ := zg_some h
  by_cases hc3 : v6 < v4
  · rw [if_pos hc3] at h
    obtain ⟨e4, h5, h⟩ := zo_some h
    have f6 : zfr 19239260838083241802870625048898248928261591440656956380834127638791856333738872368854622194768025215237614206976 s e4 := zfr_tr (zfr_rf _ _) (frl_124_100 h5)
    obtain ⟨e7, h8, h⟩ := zo_some h
    have f9 : zfr 19239260838083241802870625048898248928261591440656956380834127638791856333738872368854622194768025215237614206976 s e7 := zfr_tr f6 (frl_124_130 h8)
    cases h
    exact f9
  · rw [if_neg hc3] at h
    cases h
    exact (zfr_rf _ _)
theorem frl_124_90 {v1 : Int} {v2 : Int} {v3 : Int} {v4 : Int} {v5 : Int} {n : Nat} {e0 : (Int × zS)} {t : (zS)} (h : zlp (fun (q : Int × zS) => b_124_90 v1 v2 v3 v4 v5 q.1 q.2) n e0 = some t) : zfr 19239260838083241802870625048898248928261591440656956380834127638791856333738872368854622194768025215237614206976 ((fun e : (Int × zS) => e.2) e0) ((fun e : (zS) => e) t) := zfr_lp (f := (fun e : (Int × zS) => e.2)) (g := (fun e : (zS) => e)) (fun e q h1 => frb_124_90 h1) n e0 t h
theorem fr_124 {s : zS} {q : (Unit × zS)} (h : f_124 s = some q) : zfr 19239260838083241802870625048898248928261591440656956380834127638791856333738872368854622194768025215237614206976 s q.2 := by
  unfold f_124 at h
  by_cases hc1 : (gI s 17 3) < 2
  · rw [if_pos hc1] at h
    cases h
    exact (zfr_rf _ _)
  · rw [if_neg hc1] at h
    obtain ⟨hg2, h⟩ := zg_some h
    obtain ⟨r4, h3, h⟩ := zo_some h
    obtain ⟨hg5, h⟩ := zg_some h
    obtain ⟨r7, h6, h⟩ := zo_some h
    obtain ⟨e8, h9, h⟩ := zo_some h
    have f10 : zfr 19239260838083241802870625048898248928261591440656956380834127638791856333738872368854622194768025215237614206976 s e8 := zfr_tr (zfr_tr (zfr_rf _ _) (zfr_I rfl)) (frl_124_90 h9)
    obtain ⟨hg11, h⟩ := zg_some h
    obtain ⟨hg12, h⟩ := zg_some h
    obtain ⟨hg13, h⟩ := zg_some h
    cases h
    exact (zfr_tr (zfr_tr f10 (zfr_cp rfl rfl)) (zfr_IA rfl rfl))
theorem frb_125_86 {v1 : Int} {v2 : Int} {v3 : Int} {v4 : Int} {v5 : Int} {v6 : Int} {s : zS} {q : (Int × zS) ⊕ (zS)} (h : b_125_86 v1 v2 v3 v4 v5 v6 s = some q) : zfr 19239260838083241802870625048898248928261591440656956380834127638791856333738872368854622194768025215237614206976 s (Sum.elim (fun e : (Int × zS) => e.2) (fun e : (zS) => e) q) := by
  unfold b_125_86 at h
  obtain ⟨hg1, h⟩ := zg_some h
  obtain ⟨hg2, h⟩ := zg_some h
  by_cases hc3 : v6 < v4
  · rw [if_pos hc3] at h
    obtain ⟨hg4, h⟩ := zg_some h
    obtain ⟨hg5, h⟩ := zg_some h
    obtain ⟨hg6, h⟩ := zg_some h
    cases h
    exact (zfr_tr (zfr_rf _ _) (zfr_JA rfl rfl))
  · rw [if_neg hc3] at h
    cases h
    exact (zfr_rf _ _)
theorem frl_125_86 {v1 : Int} {v2 : Int} {v3 : Int} {v4 : Int} {v5 : Int} {n : Nat} {e0 : (Int × zS)} {t : (zS)} (h : zlp (fun (q : Int × zS) => b_125_86 v1 v2 v3 v4 v5 q.1 q.2) n e0 = some t) : zfr 19239260838083241802870625048898248928261591440656956380834127638791856333738872368854622194768025215237614206976 ((fun e : (Int × zS) => e.2) e0) ((fun e : (zS) => e) t) := zfr_lp (f := (fun e : (Int × zS) => e.2)) (g := (fun e : (zS) => e)) (fun e q h1 => frb_125_86 h1) n e0 t h
theorem frb_125_77 {v1 : Int} {v2 : Int} {v3 : Int} {v4 : Int} {v5 : Int} {s : zS} {q : (Int × zS) ⊕ (zS)} (h : b_125_77 v1 v2 v3 v4 v5 s = some q) : zfr 19239260838083241802870625048898248928261591440656956380834127638791856333738872368854622194768025215237614206976 s (Sum.elim (fun e : (Int × zS) => e.2) (fun e : (zS) => e) q) := by
  unfold b_125_77 at h
  obtain ⟨hg1, h⟩ := zg_some h
  obtain ⟨hg2, h⟩ := zg_some h
  by_cases hc3 : v5 < v3
  · rw [if_pos hc3] at h
    obtain ⟨e4, h5, h⟩ := zo_some h
    have f6 : zfr 19239260838083241802870625048898248928261591440656956380834127638791856333738872368854622194768025215237614206976 s e4 := zfr_tr (zfr_rf _ _) (frl_125_86 h5)
    cases h
    exact f6
  · rw [if_neg hc3] at h
    cases h
    exact (zfr_rf _ _)
theorem frl_125_77 {v1 : Int} {v2 : Int} {v3 : Int} {v4 : Int} {n : Nat} {e0 : (Int × zS)} {t : (zS)} (h : zlp (fun (q : Int × zS) => b_125_77 v1 v2 v3 v4 q.1 q.2) n e0 = some t) : zfr 19239260838083241802870625048898248928261591440656956380834127638791856333738872368854622194768025215237614206976 ((fun e : (Int × zS) => e.2) e0) ((fun e : (zS) => e) t) := zfr_lp (f := (fun e : (Int × zS) => e.2)) (g := (fun e : (zS) => e)) (fun e q h1 => frb_125_77 h1) n e0 t h
theorem fr_125 {s : zS} {q : (Unit × zS)} (h : f_125 s = some q) : zfr 19239260838083241802870625048898248928261591440656956380834127638791856333738872368854622194768025215237614206976 s q.2 := by
  unfold f_125 at h
  by_cases hc1 : (gI s 17 3) < 2
  · rw [if_pos hc1] at h
    cases h
    exact (zfr_rf _ _)
  · rw [if_neg hc1] at h
    obtain ⟨hg2, h⟩ := zg_some h
    obtain ⟨r4, h3, h⟩ := zo_some h
    obtain ⟨hg5, h⟩ := zg_some h
    obtain ⟨r7, h6, h⟩ := zo_some h
    obtain ⟨e8, h9, h⟩ := zo_some h
    have f10 : zfr 19239260838083241802870625048898248928261591440656956380834127638791856333738872368854622194768025215237614206976 s e8 := zfr_tr (zfr_tr (zfr_rf _ _) (zfr_I rfl)) (frl_125_77 h9)
    obtain ⟨hg11, h⟩ := zg_some h
    obtain ⟨hg12, h⟩ := zg_some h
    obtain ⟨hg13, h⟩ := zg_some h
    cases h
    exact (zfr_tr (zfr_tr f10 (zfr_cp rfl rfl)) (zfr_IA rfl rfl))
theorem frb_126_77 {v1 : Int} {v2 : Int} {v3 : Int} {v4 : Int} {v5 : Int} {v6 : Int} {s : zS} {q : (Int × zS) ⊕ (zS)} (h : b_126_77 v1 v2 v3 v4 v5 v6 s = some q) : zfr 19239260838083241802870625048898248928261591440656956380834127638791856333738872368854622194768025215237614206976 s (Sum.elim (fun e : (Int × zS) => e.2) (fun e : (zS) => e) q) := by
  unfold b_126_77 at h
  obtain ⟨hg1, h⟩ := zg_some h
  obtain ⟨hg2, h⟩ := zg_some h
  by_cases hc3 : v6 < v4
  · rw [if_pos hc3] at h
    obtain ⟨hg4, h⟩ := zg_some h
    obtain ⟨hg5, h⟩ := zg_some h
    obtain ⟨hg6, h⟩ := zg_some h
    cases h
    exact (zfr_tr (zfr_rf _ _) (zfr_JA rfl rfl))
  · rw [if_neg hc3] at h
    cases h
    exact (zfr_rf _ _)
theorem frl_126_77 {v1 : Int} {v2 : Int} {v3 : Int} {v4 : Int} {v5 : Int} {n : Nat} {e0 : (Int × zS)} {t : (zS)} (h : zlp (fun (q : Int × zS) => b_126_77 v1 v2 v3 v4 v5 q.1 q.2) n e0 = some t) : zfr 19239260838083241802870625048898248928261591440656956380834127638791856333738872368854622194768025215237614206976 ((fun e : (Int × zS) => e.2) e0) ((fun e : (zS) => e) t) := zfr_lp (f := (fun e : (Int × zS) => e.2)) (g := (fun e : (zS) => e)) (fun e q h1 => frb_126_77 h1) n e0 t h
theorem frb_126_68 {v1 : Int} {v2 : Int} {v3 : Int} {v4 : Int} {v5 : Int} {s : zS} {q : (Int × zS) ⊕ (zS)} (h : b_126_68 v1 v2 v3 v4 v5 s = some q) : zfr 19239260838083241802870625048898248928261591440656956380834127638791856333738872368854622194768025215237614206976 s (Sum.elim (fun e : (Int × zS) => e.2) (fun e : (zS) => e) q) := by
  unfold b_126_68 at h
  obtain ⟨hg1, h⟩ := zg_some h
  obtain ⟨hg2, h⟩ := zg_some h
  by_cases hc3 : v5 < v3
  · rw [if_pos hc3] at h
    obtain ⟨e4, h5, h⟩ := zo_some h
    have f6 : zfr 19239260838083241802870625048898248928261591440656956380834127638791856333738872368854622194768025215237614206976 s e4 := zfr_tr (zfr_rf _ _) (frl_126_77 h5)
    cases h
    exact f6
  · rw [if_neg hc3] at h
    cases h
    exact (zfr_rf _ _)
theorem frl_126_68 {v1 : Int} {v2 : Int} {v3 : Int} {v4 : Int} {n : Nat} {e0 : (Int × zS)} {t : (zS)} (h : zlp (fun (q : Int × zS) => b_126_68 v1 v2 v3 v4 q.1 q.2) n e0 = some t) : zfr 19239260838083241802870625048898248928261591440656956380834127638791856333738872368854622194768025215237614206976 ((fun e : (Int × zS) => e.2) e0) ((fun e : (zS) => e) t) := zfr_lp (f := (fun e : (Int × zS) => e.2)) (g := (fun e : (zS) => e)) (fun e q h1 => frb_126_68 h1) n e0 t h
theorem fr_126 {s : zS} {q : (Unit × zS)} (h : f_126 s = some q) : zfr 19239260838083241802870625048898248928261591440656956380834127638791856333738872368854622194768025215237614206976 s q.2 := by
  unfold f_126 at h
  by_cases hc1 : (gI s 17 3) < 2
  · rw [if_pos hc1] at h
    cases h
    exact (zfr_rf _ _)
  · rw [if_neg hc1] at h
    obtain ⟨hg2, h⟩ := zg_some h
    obtain ⟨r4, h3, h⟩ := zo_some h
    obtain ⟨e5, h6, h⟩ := zo_some h
    have f7 : zfr 19239260838083241802870625048898248928261591440656956380834127638791856333738872368854622194768025215237614206976 s e5 := zfr_tr (zfr_tr (zfr_rf _ _) (zfr_I rfl)) (frl_126_68 h6)
    obtain ⟨hg8, h⟩ := zg_some h
    obtain ⟨hg9, h⟩ := zg_some h
    obtain ⟨hg10, h⟩ := zg_some h
    cases h
    exact (zfr_tr (zfr_tr f7 (zfr_cp rfl rfl)) (zfr_IA rfl rfl))
theorem frb_128_57 {v1 : Int} {v2 : Int} {v3 : Int} {v4 : Int} {w5 : BitVec 64} {v7 : Int} {s : zS} {q : (Int × zS) ⊕ (zS)} (h : b_128_57 v1 v2 v3 v4 w5 v7 s = some q) : zfr 262144 s (Sum.elim (fun e : (Int × zS) => e.2) (fun e : (zS) => e) q) := by
  unfold b_128_57 at h
  obtain ⟨hg1, h⟩ := zg_some h
  obtain ⟨hg2, h⟩ := zg_some h
  by_cases hc3 : v7 < v3
  · rw [if_pos hc3] at h
    obtain ⟨hg4, h⟩ := zg_some h
    cases h
    exact (zfr_tr (zfr_rf _ _) (zfr_JA rfl rfl))
  · rw [if_neg hc3] at h
    cases h
    exact (zfr_rf _ _)
theorem frl_128_57 {v1 : Int} {v2 : Int} {v3 : Int} {v4 : Int} {w5 : BitVec 64} {n : Nat} {e0 : (Int × zS)} {t : (zS)} (h : zlp (fun (q : Int × zS) => b_128_57 v1 v2 v3 v4 w5 q.1 q.2) n e0 = some t) : zfr 262144 ((fun e : (Int × zS) => e.2) e0) ((fun e : (zS) => e) t) := zfr_lp (f := (fun e : (Int × zS) => e.2)) (g := (fun e : (zS) => e)) (fun e q h1 => frb_128_57 h1) n e0 t h
theorem frb_128_11 {v1 : Int} {v2 : Int} {v3 : Int} {v4 : Int} {s : zS} {q : (Int × zS) ⊕ (zS)} (h : b_128_11 v1 v2 v3 v4 s = some q) : zfr 262144 s (Sum.elim (fun e : (Int × zS) => e.2) (fun e : (zS) => e) q) := by
  unfold b_128_11 at h
  obtain ⟨hg1, h⟩ := zg_some h
  obtain ⟨hg2, h⟩ := zg_some h
  by_cases hc3 : v4 < v3
  · rw [if_pos hc3] at h
    obtain ⟨e4, h5, h⟩ := zo_some h
    obtain ⟨e6, h7, h⟩ := zo_some h
    have f8 : zfr 262144 s e6 := zfr_tr (zfr_rf _ _) (frl_128_57 h7)
    cases h
    exact f8
  · rw [if_neg hc3] at h
    cases h
    exact (zfr_rf _ _)
theorem frl_128_11 {v1 : Int} {v2 : Int} {v3 : Int} {n : Nat} {e0 : (Int × zS)} {t : (zS)} (h : zlp (fun (q : Int × zS) => b_128_11 v1 v2 v3 q.1 q.2) n e0 = some t) : zfr 262144 ((fun e : (Int × zS) => e.2) e0) ((fun e : (zS) => e) t) := zfr_lp (f := (fun e : (Int × zS) => e.2)) (g := (fun e : (zS) => e)) (fun e q h1 => frb_128_11 h1) n e0 t h
theorem fr_128 {v1 : Int} {v2 : Int} {s : zS} {q : (Unit × zS)} (h : f_128 v1 v2 s = some q) : zfr 262144 s q.2 := by
  unfold f_128 at h
  obtain ⟨e1, h2, h⟩ := zo_some h
  have f3 : zfr 262144 s e1 := zfr_tr (zfr_rf _ _) (frl_128_11 h2)
  cases h
  exact f3
theorem frb_127_95 {v1 : Int} {v2 : Int} {v3 : Int} {v4 : Int} {v5 : Int} {v6 : Int} {v7 : Int} {s : zS} {q : (Int × Int × zS) ⊕ (zS)} (h : b_127_95 v1 v2 v3 v4 v5 v6 v7 s = some q) : zfr 19239260838083241802870625048898248928261591440656956380834127638791856333738872368854622194768025215237611585536 s (Sum.elim (fun e : (Int × Int × zS) => e.2.2) (fun e : (zS) => e) q) := by
  unfold b_127_95 at h
  obtain ⟨hg1, h⟩ := zg_some h
  obtain ⟨hg2, h⟩ := zg_some h
  by_cases hc3 : v6 < v4
  · rw [if_pos hc3] at h
    obtain ⟨hg4, h⟩ := zg_some h
    obtain ⟨hg5, h⟩ := zg_some h
    obtain ⟨r7, h6, h⟩ := zo_some h
    obtain ⟨hg8, h⟩ := zg_some h
    obtain ⟨hg9, h⟩ := zg_some h
    by_cases hc10 : (v7 + 1) < v5
    · rw [if_pos hc10] at h
      cases h
      exact (zfr_tr (zfr_rf _ _) (zfr_JA rfl rfl))
    · rw [if_neg hc10] at h
      cases h
      exact (zfr_tr (zfr_rf _ _) (zfr_JA rfl rfl))
  · rw [if_neg hc3] at h
    cases h
    exact (zfr_rf _ _)
theorem frl_127_95 {v1 : Int} {v2 : Int} {v3 : Int} {v4 : Int} {v5 : Int} {n : Nat} {e0 : (Int × Int × zS)} {t : (zS)} (h : zlp (fun (q : Int × Int × zS) => b_127_95 v1 v2 v3 v4 v5 q.1 q.2.1 q.2.2) n e0 = some t) : zfr 19239260838083241802870625048898248928261591440656956380834127638791856333738872368854622194768025215237611585536 ((fun e : (Int × Int × zS) => e.2.2) e0) ((fun e : (zS) => e) t) := zfr_lp (f := (fun e : (Int × Int × zS) => e.2.2)) (g := (fun e : (zS) => e)) (fun e q h1 => frb_127_95 h1) n e0 t h
theorem frj_127_87 {v1 : Int} {v2 : Int} {v3 : Int} {v4 : Int} {t0 : Int} {s : zS} {q : (Unit × zS)} (h : j_127_87 v1 v2 v3 v4 t0 s = some q) : zfr 19239260838083241802870625048898248928261591440656956380834127638791856333738872368854622194768025215237611585536 s q.2 := by
  unfold j_127_87 at h
  obtain ⟨e1, h2, h⟩ := zo_some h
  have f3 : zfr 19239260838083241802870625048898248928261591440656956380834127638791856333738872368854622194768025215237611585536 s e1 := zfr_tr (zfr_rf _ _) (frl_127_95 h2)
  cases h
  exact f3
theorem frj_127_49 {v1 : Int} {v2 : Int} {v3 : Int} {s : zS} {q : (Unit × zS)} (h : j_127_49 v1 v2 v3 s = some q) : zfr 19239260838083241802870625048898248928261591440656956380834127638791856333738872368854622194768025215237611585536 s q.2 := by
  unfold j_127_49 at h
  obtain ⟨hg1, h⟩ := zg_some h
  obtain ⟨r3, h2, h⟩ := zo_some h
  obtain ⟨hg4, h⟩ := zg_some h
  by_cases hc5 : v1 = 23
  · rw [if_pos hc5] at h
    exact zfr_tr (zfr_rf _ _) (frj_127_87 h)
  · rw [if_neg hc5] at h
    exact zfr_tr (zfr_rf _ _) (frj_127_87 h)
theorem fr_127 {v1 : Int} {s : zS} {q : (Unit × zS)} (h : f_127 v1 s = some q) : zfr 19239260838083241802870625048898248928261591440656956380834127638791856333738872368854622194768025215237611585536 s q.2 := by
  unfold f_127 at h
  by_cases hc1 : (gI s 17 3) < 2
  · rw [if_pos hc1] at h
    cases h
    exact (zfr_rf _ _)
  · rw [if_neg hc1] at h
    obtain ⟨hg2, h⟩ := zg_some h
    by_cases hc3 : v1 = 21
    · rw [if_pos hc3] at h
      obtain ⟨r5, s6, h4, h⟩ := zb_some h
      have f7 := zfr_tr (zfr_tr (zfr_rf _ _) (zfr_I rfl)) (zfr_sub (m2 := 19239260838083241802870625048898248928261591440656956380834127638791856333738872368854622194768025215237611585536) rfl (fr_128 h4))
      exact zfr_tr f7 (frj_127_49 h)
    · rw [if_neg hc3] at h
      exact zfr_tr (zfr_tr (zfr_rf _ _) (zfr_I rfl)) (frj_127_49 h)
theorem fr_114 {c1 : Nat} {v2 : Int} {s : zS} {q : (Unit × zS)} (h : f_114 c1 v2 s = some q) : zfr 19239260838083241802870625048898248928261591440656956380834127638791856333738872368854622194768025215237618401280 s q.2 := by
  unfold f_114 at h
  obtain ⟨hg1, h⟩ := zg_some h
  obtain ⟨hg2, h⟩ := zg_some h
  by_cases hc3 : t_114_8 (gI s (c1 + 1) v2) = 184
  · rw [if_pos hc3] at h
    by_cases hc4 : (gI s (c1 + 1) v2) = 43
    · rw [if_pos hc4] at h
      obtain ⟨hg5, h⟩ := zg_some h
      obtain ⟨r7, s8, h6, h⟩ := zb_some h
      have f9 := zfr_tr (zfr_rf _ _) (zfr_sub (m2 := 19239260838083241802870625048898248928261591440656956380834127638791856333738872368854622194768025215237618401280) rfl (fr_115 h6))
      cases h
      exact f9
    · rw [if_neg hc4] at h
      obtain ⟨r11, s12, h10, h⟩ := zb_some h
      have f13 := zfr_tr (zfr_rf _ _) (zfr_sub (m2 := 19239260838083241802870625048898248928261591440656956380834127638791856333738872368854622194768025215237618401280) rfl (fr_115 h10))
      cases h
      exact f13
  · rw [if_neg hc3] at h
    by_cases hc14 : t_114_8 (gI s (c1 + 1) v2) = 213
    · rw [if_pos hc14] at h
      obtain ⟨r16, s17, h15, h⟩ := zb_some h
      have f18 := zfr_tr (zfr_rf _ _) (zfr_sub (m2 := 19239260838083241802870625048898248928261591440656956380834127638791856333738872368854622194768025215237618401280) rfl (fr_117 h15))
      cases h
      exact f18
    · rw [if_neg hc14] at h
      by_cases hc19 : t_114_8 (gI s (c1 + 1) v2) = 226
      · rw [if_pos hc19] at h
        obtain ⟨r21, s22, h20, h⟩ := zb_some h
        have f23 := zfr_tr (zfr_rf _ _) (zfr_sub (m2 := 19239260838083241802870625048898248928261591440656956380834127638791856333738872368854622194768025215237618401280) rfl (fr_118 h20))
        cases h
        exact f23
      · rw [if_neg hc19] at h
        by_cases hc24 : t_114_8 (gI s (c1 + 1) v2) = 245
        · rw [if_pos hc24] at h
          obtain ⟨r26, s27, h25, h⟩ := zb_some h
          have f28 := zfr_tr (zfr_rf _ _) (zfr_sub (m2 := 19239260838083241802870625048898248928261591440656956380834127638791856333738872368854622194768025215237618401280) rfl (fr_119 h25))
          cases h
          exact f28
        · rw [if_neg hc24] at h
          by_cases hc29 : t_114_8 (gI s (c1 + 1) v2) = 253
          · rw [if_pos hc29] at h
            obtain ⟨r31, s32, h30, h⟩ := zb_some h
            have f33 := zfr_tr (zfr_rf _ _) (zfr_sub (m2 := 19239260838083241802870625048898248928261591440656956380834127638791856333738872368854622194768025215237618401280) rfl (fr_120 h30))
            cases h
            exact f33
          · rw [if_neg hc29] at h
            by_cases hc34 : t_114_8 (gI s (c1 + 1) v2) = 261
            · rw [if_pos hc34] at h
              obtain ⟨r36, s37, h35, h⟩ := zb_some h
              have f38 := zfr_tr (zfr_rf _ _) (zfr_sub (m2 := 19239260838083241802870625048898248928261591440656956380834127638791856333738872368854622194768025215237618401280) rfl (fr_123 h35))
              cases h
              exact f38
            · rw [if_neg hc34] at h
              by_cases hc39 : t_114_8 (gI s (c1 + 1) v2) = 269
              · rw [if_pos hc39] at h
                obtain ⟨r41, s42, h40, h⟩ := zb_some h
                have f43 := zfr_tr (zfr_rf _ _) (zfr_sub (m2 := 19239260838083241802870625048898248928261591440656956380834127638791856333738872368854622194768025215237618401280) rfl (fr_124 h40))
                cases h
                exact f43
              · rw [if_neg hc39] at h
                by_cases hc44 : t_114_8 (gI s (c1 + 1) v2) = 276
                · rw [if_pos hc44] at h
                  obtain ⟨r46, s47, h45, h⟩ := zb_some h
                  have f48 := zfr_tr (zfr_rf _ _) (zfr_sub (m2 := 19239260838083241802870625048898248928261591440656956380834127638791856333738872368854622194768025215237618401280) rfl (fr_125 h45))
                  cases h
                  exact f48
                · rw [if_neg hc44] at h
                  by_cases hc49 : t_114_8 (gI s (c1 + 1) v2) = 283
                  · rw [if_pos hc49] at h
                    obtain ⟨r51, s52, h50, h⟩ := zb_some h
                    have f53 := zfr_tr (zfr_rf _ _) (zfr_sub (m2 := 19239260838083241802870625048898248928261591440656956380834127638791856333738872368854622194768025215237618401280) rfl (fr_126 h50))
                    cases h
                    exact f53
                  · rw [if_neg hc49] at h
                    by_cases hc54 : t_114_8 (gI s (c1 + 1) v2) = 290
                    · rw [if_pos hc54] at h
                      obtain ⟨r56, s57, h55, h⟩ := zb_some h
                      have f58 := zfr_tr (zfr_rf _ _) (zfr_sub (m2 := 19239260838083241802870625048898248928261591440656956380834127638791856333738872368854622194768025215237618401280) rfl (fr_127 h55))
                      cases h
                      exact f58
                    · rw [if_neg hc54] at h
                      cases h
theorem frj_112_84 {rec : Nat → Int → Int → BitVec 64 → Int → zS → Option (Unit × zS)} {c1 : Nat} {v2 : Int} {v6 : Int} {w7 : BitVec 64} {u0 : BitVec 64} {s : zS} {q : (Unit × zS)}  (hfr : zFrec rec) (h : j_112_84 rec c1 v2 v6 w7 u0 s = some q) : zfr 19239260838083241802870625048898248928261591440656956380834127638791856333738872368854622194768025215237644615680 s q.2 := by
  unfold j_112_84 at h
  obtain ⟨hg1, h⟩ := zg_some h
  obtain ⟨hg2, h⟩ := zg_some h
  obtain ⟨r4, h3, h⟩ := zo_some h
  obtain ⟨hg5, h⟩ := zg_some h
  cases h
  exact (zfr_tr (zfr_rf _ _) (zfr_JA rfl rfl))
theorem frj_112_52 {rec : Nat → Int → Int → BitVec 64 → Int → zS → Option (Unit × zS)} {c1 : Nat} {v2 : Int} {v5 : Int} {v6 : Int} {w7 : BitVec 64} {u0 : BitVec 64} {u1 : BitVec 64} {s : zS} {q : (Unit × zS)}  (hfr : zFrec rec) (h : j_112_52 rec c1 v2 v5 v6 w7 u0 u1 s = some q) : zfr 19239260838083241802870625048898248928261591440656956380834127638791856333738872368854622194768025215237644615680 s q.2 := by
  unfold j_112_52 at h
  by_cases hc1 : (u0 &&& u1) = (0#64)
  · rw [if_pos hc1] at h
    exact zfr_tr (zfr_rf _ _) (frj_112_84 hfr h)
  · rw [if_neg hc1] at h
    obtain ⟨hg2, h⟩ := zg_some h
    obtain ⟨hg3, h⟩ := zg_some h
    obtain ⟨r5, s6, h4, h⟩ := zb_some h
    have f7 := zfr_tr (zfr_rf _ _) (fr_108 hfr h4)
    exact zfr_tr f7 (frj_112_84 hfr h)
theorem fr_112 {rec : Nat → Int → Int → BitVec 64 → Int → zS → Option (Unit × zS)} {c1 : Nat} {v2 : Int} {w3 : BitVec 64} {v5 : Int} {s : zS} {q : (Unit × zS)}  (hfr : zFrec rec) (h : f_112 rec c1 v2 w3 v5 s = some q) : zfr 19239260838083241802870625048898248928261591440656956380834127638791856333738872368854622194768025215237644615680 s q.2 := by
  unfold f_112 at h
  by_cases hc1 : (gI s 17 3) < 1
  · rw [if_pos hc1] at h
    cases h
    exact (zfr_rf _ _)
  · rw [if_neg hc1] at h
    obtain ⟨hg2, h⟩ := zg_some h
    obtain ⟨hg3, h⟩ := zg_some h
    obtain ⟨hg4, h⟩ := zg_some h
    by_cases hc5 : (gI s (c1 + 1) v2) = 11
    · rw [if_pos hc5] at h
      exact zfr_tr (zfr_rf _ _) (frj_112_52 hfr h)
    · rw [if_neg hc5] at h
      exact zfr_tr (zfr_rf _ _) (frj_112_52 hfr h)
theorem frb_103_14 {rec : Nat → Int → Int → BitVec 64 → Int → zS → Option (Unit × zS)} {c1 : Nat} {v3 : Int} {w4 : BitVec 64} {v6 : Int} {v7 : Int} {v8 : Int} {s : zS} {q : (Int × Int × zS) ⊕ ((zS) ⊕ (Unit × zS))}  (hfr : zFrec rec) (h : b_103_14 rec c1 v3 w4 v6 v7 v8 s = some q) : zfr 19239260838083241802870625048898248928261591440656956380834127638791856333738872368854622194768025215237644615680 s (Sum.elim (fun e : (Int × Int × zS) => e.2.2) (fun t : ((zS) ⊕ (Unit × zS)) => Sum.elim (fun e : (zS) => e) (fun q => q.2) t) q) := by
  unfold b_103_14 at h
  obtain ⟨hg1, h⟩ := zg_some h
  by_cases hc2 : v8 < 200
  · rw [if_pos hc2] at h
    obtain ⟨hg3, h⟩ := zg_some h
    obtain ⟨hg4, h⟩ := zg_some h
    by_cases hc5 : v7 < v3
    · rw [if_pos hc5] at h
      by_cases hc6 : (gI s 17 3) < 22
      · rw [if_pos hc6] at h
        obtain ⟨hg7, h⟩ := zg_some h
        obtain ⟨hg8, h⟩ := zg_some h
        by_cases hc9 : (gI s (c1 + 1) v7) = 45
        · rw [if_pos hc9] at h
          obtain ⟨r11, s12, h10, h⟩ := zb_some h
          have f13 := zfr_tr (zfr_rf _ _) (fr_104 hfr h10)
          cases h
          exact f13
        · rw [if_neg hc9] at h
          obtain ⟨r15, h14, h⟩ := zo_some h
          obtain ⟨hg16, h⟩ := zg_some h
          by_cases hc17 : r15 = 0
          · rw [if_pos hc17] at h
            obtain ⟨r19, s20, h18, h⟩ := zb_some h
            have f21 := zfr_tr (zfr_rf _ _) (zfr_sub (m2 := 19239260838083241802870625048898248928261591440656956380834127638791856333738872368854622194768025215237644615680) rfl (fr_114 h18))
            cases h
            exact f21
          · rw [if_neg hc17] at h
            obtain ⟨r23, s24, h22, h⟩ := zb_some h
            have f25 := zfr_tr (zfr_rf _ _) (fr_112 hfr h22)
            cases h
            exact f25
      · rw [if_neg hc6] at h
        cases h
        exact (zfr_rf _ _)
    · rw [if_neg hc5] at h
      cases h
      exact (zfr_rf _ _)
  · rw [if_neg hc2] at h
    cases h
    exact (zfr_rf _ _)
theorem frl_103_14 {rec : Nat → Int → Int → BitVec 64 → Int → zS → Option (Unit × zS)} {c1 : Nat} {v3 : Int} {w4 : BitVec 64} {v6 : Int} {n : Nat} {e0 : (Int × Int × zS)} {t : ((zS) ⊕ (Unit × zS))}  (hfr : zFrec rec) (h : zlp (fun (q : Int × Int × zS) => b_103_14 rec c1 v3 w4 v6 q.1 q.2.1 q.2.2) n e0 = some t) : zfr 19239260838083241802870625048898248928261591440656956380834127638791856333738872368854622194768025215237644615680 ((fun e : (Int × Int × zS) => e.2.2) e0) ((fun t : ((zS) ⊕ (Unit × zS)) => Sum.elim (fun e : (zS) => e) (fun q => q.2) t) t) := zfr_lp (f := (fun e : (Int × Int × zS) => e.2.2)) (g := (fun t : ((zS) ⊕ (Unit × zS)) => Sum.elim (fun e : (zS) => e) (fun q => q.2) t)) (fun e q h1 => frb_103_14 hfr h1) n e0 t h
theorem fr_103 {rec : Nat → Int → Int → BitVec 64 → Int → zS → Option (Unit × zS)} {c1 : Nat} {v2 : Int} {v3 : Int} {w4 : BitVec 64} {v6 : Int} {s : zS} {q : (Unit × zS)}  (hfr : zFrec rec) (h : F_103 rec c1 v2 v3 w4 v6 s = some q) : zfr 19239260838083241802870625048898248928261591440656956380834127638791856333738872368854622194768025215237644615680 s q.2 := by
  unfold F_103 at h
  obtain ⟨hg1, h⟩ := zg_some h
  by_cases hc2 : 20 < v6
  · rw [if_pos hc2] at h
    cases h
    exact (zfr_rf _ _)
  · rw [if_neg hc2] at h
    obtain ⟨e3, h4, h⟩ := zo_some h
    rcases e3 with e6 | q7
    · simp only [ze_l] at h
      have f5 : zfr 19239260838083241802870625048898248928261591440656956380834127638791856333738872368854622194768025215237644615680 s e6 := zfr_tr (zfr_rf _ _) (frl_103_14 hfr h4)
      cases h
      exact f5
    · cases h
      exact zfr_tr (zfr_rf _ _) (frl_103_14 hfr h4)
theorem fr_103n : ∀ n : Nat, zFrec (f_103n n)
  | 0 => by
    intro c a b w e s q h
    cases h
  | n + 1 => by
    intro c a b w e s q h
    exact fr_103 (fr_103n n) h
theorem fr_103c {c : Nat} {a b : Int} {w : BitVec 64} {e : Int} {s : zS} {q : Unit × zS} (h : f_103 c a b w e s = some q) : zfr 19239260838083241802870625048898248928261591440656956380834127638791856333738872368854622194768025215237644615680 s q.2 := fr_103n 24 c a b w e s q h
theorem fr_102 {c1 : Nat} {v2 : Int} {w3 : BitVec 64} {s : zS} {q : (Unit × zS)} (h : f_102 c1 v2 w3 s = some q) : zfr 19239260838083241802870625048898248928261591440656956380834127638791856333738872368854622194768025215237644615744 s q.2 := by
  unfold f_102 at h
  obtain ⟨r2, s3, h1, h⟩ := zb_some h
  have f4 := zfr_tr (zfr_rf _ _) (zfr_sub (m2 := 19239260838083241802870625048898248928261591440656956380834127638791856333738872368854622194768025215237644615744) rfl (fr_51 h1))
  obtain ⟨hg5, h⟩ := zg_some h
  obtain ⟨e6, h7, h⟩ := zo_some h
  have f8 : zfr 19239260838083241802870625048898248928261591440656956380834127638791856333738872368854622194768025215237644615744 s e6 := zfr_tr f4 (frl_102_20 h7)
  obtain ⟨r10, s11, h9, h⟩ := zb_some h
  have f12 := zfr_tr (zfr_tr f8 (zfr_I rfl)) (zfr_sub (m2 := 19239260838083241802870625048898248928261591440656956380834127638791856333738872368854622194768025215237644615744) rfl (fr_103c h9))
  cases h
  exact f12
theorem frj_26_11_112 {v1 : Int} {v2 : Int} {w3 : BitVec 64} {v5 : Int} {v6 : Int} {s : zS} {q : (BitVec 64 × Int × zS) ⊕ (BitVec 64 × zS)} (h : j_26_11_112 v1 v2 w3 v5 v6 s = some q) : zfr 19239260838083241802870625048898248928261591440656956380834163556656095378008990142613071030139516279435820793920 s (Sum.elim (fun e : (BitVec 64 × Int × zS) => e.2.2) (fun e : (BitVec 64 × zS) => e.2) q) := by
  unfold j_26_11_112 at h
  obtain ⟨hg1, h⟩ := zg_some h
  by_cases hc2 : v5 = 16
  · rw [if_pos hc2] at h
    obtain ⟨hg3, h⟩ := zg_some h
    cases h
    exact (zfr_rf _ _)
  · rw [if_neg hc2] at h
    obtain ⟨hg4, h⟩ := zg_some h
    cases h
    exact (zfr_rf _ _)
theorem frb_26_11 {v1 : Int} {v2 : Int} {w3 : BitVec 64} {v5 : Int} {s : zS} {q : (BitVec 64 × Int × zS) ⊕ (BitVec 64 × zS)} (h : b_26_11 v1 v2 w3 v5 s = some q) : zfr 19239260838083241802870625048898248928261591440656956380834163556656095378008990142613071030139516279435820793920 s (Sum.elim (fun e : (BitVec 64 × Int × zS) => e.2.2) (fun e : (BitVec 64 × zS) => e.2) q) := by
  unfold b_26_11 at h
  obtain ⟨hg1, h⟩ := zg_some h
  by_cases hc2 : 16 < v5
  · rw [if_pos hc2] at h
    cases h
    exact (zfr_rf _ _)
  · rw [if_neg hc2] at h
    by_cases hc3 : w3 = (0#64)
    · rw [if_pos hc3] at h
      cases h
      exact (zfr_rf _ _)
    · rw [if_neg hc3] at h
      obtain ⟨hg4, h⟩ := zg_some h
      by_cases hc5 : (zand (v1 / 2 ^ zsh v5) 1) = 0
      · rw [if_pos hc5] at h
        cases h
        exact (zfr_rf _ _)
      · rw [if_neg hc5] at h
        obtain ⟨hg6, h⟩ := zg_some h
        obtain ⟨hg7, h⟩ := zg_some h
        by_cases hc8 : (((gJ s 174 v5) >>> zshl v2) &&& (1#64)) = (0#64)
        · rw [if_pos hc8] at h
          obtain ⟨r10, h9, h⟩ := zo_some h
          obtain ⟨r12, s13, h11, h⟩ := zb_some h
          have f14 := zfr_tr (zfr_rf _ _) (zfr_sub (m2 := 19239260838083241802870625048898248928261591440656956380834163556656095378008990142613071030139516279435820793920) rfl (fr_102 h11))
          obtain ⟨hg15, h⟩ := zg_some h
          exact zfr_tr (zfr_tr (zfr_tr f14 (zfr_JA rfl rfl)) (zfr_JA rfl rfl)) (frj_26_11_112 h)
        · rw [if_neg hc8] at h
          exact zfr_tr (zfr_rf _ _) (frj_26_11_112 h)
theorem frl_26_11 {v1 : Int} {v2 : Int} {n : Nat} {e0 : (BitVec 64 × Int × zS)} {t : (BitVec 64 × zS)} (h : zlp (fun (q : BitVec 64 × Int × zS) => b_26_11 v1 v2 q.1 q.2.1 q.2.2) n e0 = some t) : zfr 19239260838083241802870625048898248928261591440656956380834163556656095378008990142613071030139516279435820793920 ((fun e : (BitVec 64 × Int × zS) => e.2.2) e0) ((fun e : (BitVec 64 × zS) => e.2) t) := zfr_lp (f := (fun e : (BitVec 64 × Int × zS) => e.2.2)) (g := (fun e : (BitVec 64 × zS) => e.2)) (fun e q h1 => frb_26_11 h1) n e0 t h
theorem fr_26 {v1 : Int} {v2 : Int} {s : zS} {q : ((BitVec 64) × zS)} (h : f_26 v1 v2 s = some q) : zfr 19239260838083241802870625048898248928261591440656956380834163556656095378008990142613071030139516279435820793920 s q.2 := by
  unfold f_26 at h
  obtain ⟨r2, h1, h⟩ := zo_some h
  obtain ⟨e3, h4, h⟩ := zo_some h
  have f5 : zfr 19239260838083241802870625048898248928261591440656956380834163556656095378008990142613071030139516279435820793920 s e3.2 := zfr_tr (zfr_rf _ _) (frl_26_11 h4)
  cases h
  exact f5
theorem frb_25_27 {v1 : Int} {v2 : Int} {v3 : Int} {w4 : BitVec 64} {v6 : Int} {s : zS} {q : (Int) ⊕ ((Unit) ⊕ (Int × zS))} (h : b_25_27 v1 v2 v3 w4 s v6 = some q) : zfr 19239260838083241802870625048898248928261591440656956380834163556656095378008990142613071030139516279435820793920 s (Sum.elim (fun e : (Int) => s) (fun t : ((Unit) ⊕ (Int × zS)) => Sum.elim (fun e : (Unit) => s) (fun q => q.2) t) q) := by
  unfold b_25_27 at h
  obtain ⟨hg1, h⟩ := zg_some h
  by_cases hc2 : v6 < 64
  · rw [if_pos hc2] at h
    by_cases hc3 : w4 = (0#64)
    · rw [if_pos hc3] at h
      cases h
      exact (zfr_rf _ _)
    · rw [if_neg hc3] at h
      obtain ⟨hg4, h⟩ := zg_some h
      obtain ⟨hg5, h⟩ := zg_some h
      by_cases hc6 : ((v3 * 64) + v6) < v1
      · rw [if_pos hc6] at h
        cases h
        exact (zfr_rf _ _)
      · rw [if_neg hc6] at h
        by_cases hc7 : ((w4 >>> zshl v6) &&& (1#64)) = (0#64)
        · rw [if_pos hc7] at h
          cases h
          exact (zfr_rf _ _)
        · rw [if_neg hc7] at h
          cases h
          exact (zfr_rf _ _)
  · rw [if_neg hc2] at h
    cases h
    exact (zfr_rf _ _)
theorem frl_25_27 {v1 : Int} {v2 : Int} {v3 : Int} {w4 : BitVec 64} {s : zS} {n : Nat} {e0 : (Int)} {t : ((Unit) ⊕ (Int × zS))} (h : zlp (fun (q : Int) => b_25_27 v1 v2 v3 w4 s q) n e0 = some t) : zfr 19239260838083241802870625048898248928261591440656956380834163556656095378008990142613071030139516279435820793920 ((fun e : (Int) => s) e0) ((fun t : ((Unit) ⊕ (Int × zS)) => Sum.elim (fun e : (Unit) => s) (fun q => q.2) t) t) := zfr_lp (f := (fun e : (Int) => s)) (g := (fun t : ((Unit) ⊕ (Int × zS)) => Sum.elim (fun e : (Unit) => s) (fun q => q.2) t)) (fun e q h1 => frb_25_27 h1) n e0 t h
theorem frb_25_5 {v1 : Int} {v2 : Int} {v3 : Int} {s : zS} {q : (Int × zS) ⊕ ((zS) ⊕ (Int × zS))} (h : b_25_5 v1 v2 v3 s = some q) : zfr 19239260838083241802870625048898248928261591440656956380834163556656095378008990142613071030139516279435820793920 s (Sum.elim (fun e : (Int × zS) => e.2) (fun t : ((zS) ⊕ (Int × zS)) => Sum.elim (fun e : (zS) => e) (fun q => q.2) t) q) := by
  unfold b_25_5 at h
  obtain ⟨r2, h1, h⟩ := zo_some h
  obtain ⟨hg3, h⟩ := zg_some h
  obtain ⟨hg4, h⟩ := zg_some h
  by_cases hc5 : v3 < r2
  · rw [if_pos hc5] at h
    obtain ⟨r7, s8, h6, h⟩ := zb_some h
    have f9 := zfr_tr (zfr_rf _ _) (zfr_sub (m2 := 19239260838083241802870625048898248928261591440656956380834163556656095378008990142613071030139516279435820793920) rfl (fr_26 h6))
    obtain ⟨e10, h11, h⟩ := zo_some h
    rcases e10 with e12 | q13
    · simp only [ze_l] at h
      cases h
      exact f9
    · cases h
      exact zfr_tr f9 (frl_25_27 h11)
  · rw [if_neg hc5] at h
    cases h
    exact (zfr_rf _ _)
theorem frl_25_5 {v1 : Int} {v2 : Int} {n : Nat} {e0 : (Int × zS)} {t : ((zS) ⊕ (Int × zS))} (h : zlp (fun (q : Int × zS) => b_25_5 v1 v2 q.1 q.2) n e0 = some t) : zfr 19239260838083241802870625048898248928261591440656956380834163556656095378008990142613071030139516279435820793920 ((fun e : (Int × zS) => e.2) e0) ((fun t : ((zS) ⊕ (Int × zS)) => Sum.elim (fun e : (zS) => e) (fun q => q.2) t) t) := zfr_lp (f := (fun e : (Int × zS) => e.2)) (g := (fun t : ((zS) ⊕ (Int × zS)) => Sum.elim (fun e : (zS) => e) (fun q => q.2) t)) (fun e q h1 => frb_25_5 h1) n e0 t h
theorem fr_25 {v1 : Int} {v2 : Int} {s : zS} {q : (Int × zS)} (h : f_25 v1 v2 s = some q) : zfr 19239260838083241802870625048898248928261591440656956380834163556656095378008990142613071030139516279435820793920 s q.2 := by
  unfold f_25 at h
  obtain ⟨hg1, h⟩ := zg_some h
  obtain ⟨e2, h3, h⟩ := zo_some h
  rcases e2 with e5 | q6
  · simp only [ze_l] at h
    have f4 : zfr 19239260838083241802870625048898248928261591440656956380834163556656095378008990142613071030139516279435820793920 s e5 := zfr_tr (zfr_rf _ _) (frl_25_5 h3)
    cases h
    exact f4
  · cases h
    exact zfr_tr (zfr_rf _ _) (frl_25_5 h3)
theorem fr_23 {s : zS} {q : (Int × zS)} (h : f_23 s = some q) : zfr 19239260838083241811214324407964303937617144980381769328500978097111770260614621423168616833970143427963016446016 s q.2 := by
  unfold f_23 at h
  obtain ⟨r2, h1, h⟩ := zo_some h
  obtain ⟨r4, s5, h3, h⟩ := zb_some h
  have f6 := zfr_tr (zfr_rf _ _) (zfr_sub (m2 := 19239260838083241811214324407964303937617144980381769328500978097111770260614621423168616833970143427963016446016) rfl (fr_25 h3))
  by_cases hc7 : (gI (sI s5 0 12 r4) 0 12) = (-1)
  · rw [if_pos hc7] at h
    cases h
    exact (zfr_tr f6 (zfr_I rfl))
  · rw [if_neg hc7] at h
    cases h
    exact (zfr_tr f6 (zfr_I rfl))
