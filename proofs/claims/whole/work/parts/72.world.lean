/-! THE INVARIANT, first pieces: the tape, the world; feed, and the list of FREE tuples. -/
def IT (s : zS) : Prop := gI s 8 1 = gI s 177 3 ∧ 0 ≤ gI s 8 1 ∧ gI s 8 1 ≤ 600 ∧ ∀ i, 0 ≤ i → i < gI s 8 1 → gI s 9 i = gI s 178 i ∧ 0 ≤ gI s 9 i ∧ gI s 9 i ≤ 255
theorem IT.cong {s s2 : zS} (h : zeq 20657999024695268721726842860379703415752530903770676658888565846794863169819924231179336155358212119544885047105740079616 s s2) (hI : IT s) : IT s2 := by
  have e1 : gI s2 8 1 = gI s 8 1 := h.i rfl
  have e2 : gI s2 177 3 = gI s 177 3 := h.i rfl
  have e3 := h.ia (c := 9) rfl rfl
  have e4 := h.ia (c := 178) rfl rfl
  unfold IT at hI ⊢
  simp only [e1, e2, e3, e4]
  exact hI
def zbyte (w : BitVec 64) (i : Int) : Int := ((BitVec.toNat ((w >>> zshl (8 * i)) &&& (255#64)) : Nat) : Int)
theorem zbyte_b (w : BitVec 64) (i : Int) : 0 ≤ zbyte w i ∧ zbyte w i ≤ 255 := by
  unfold zbyte
  have h : ((w >>> zshl (8 * i)) &&& (255#64)).toNat ≤ 255 := by
    rw [BitVec.toNat_and]
    exact Nat.and_le_right
  omega
theorem c_append {s : zS} {w : BitVec 64} {n : Int} (h1 : 1 ≤ n) (h8 : n ≤ 8) (hl : 0 ≤ gI s 8 1) (hs : gI s 8 1 + n ≤ 600) : ∃ s', f_71 w n s = some ((), s') ∧ gI s' 8 1 = gI s 8 1 + n ∧ (∀ i, 0 ≤ i → i < gI s 8 1 → gI s' 9 i = gI s 9 i) ∧ ∀ j, 0 ≤ j → j < n → gI s' 9 (gI s 8 1 + j) = zbyte w (n - 1 - j) := by
  have hloop := zlp_F (B := fun (q : Int × zS) => b_71_5 w q.1 q.2) (I := fun q => -1 ≤ q.1 ∧ q.1 < n ∧ gI q.2 8 1 = gI s 8 1 + (n - 1 - q.1) ∧ (∀ i, 0 ≤ i → i < gI s 8 1 → gI q.2 9 i = gI s 9 i) ∧ ∀ j, 0 ≤ j → j < n - 1 - q.1 → gI q.2 9 (gI s 8 1 + j) = zbyte w (n - 1 - j)) (μ := fun q => (q.1 + 1).toNat) (Q := fun t => gI t 8 1 = gI s 8 1 + n ∧ (∀ i, 0 ≤ i → i < gI s 8 1 → gI t 9 i = gI s 9 i) ∧ ∀ j, 0 ≤ j → j < n → gI t 9 (gI s 8 1 + j) = zbyte w (n - 1 - j)) (by
    rintro ⟨i, σ⟩ ⟨a1, a2, a3, a4, a5⟩
    dsimp only at a1 a2 a3 a4 a5 ⊢
    have hR : zR i := ⟨by omega, by omega⟩
    unfold b_71_5
    rw [zg_pos hR]
    by_cases hc : i < 0
    · right
      have e : i = -1 := by omega
      subst e
      refine ⟨σ, by rw [if_pos hc], by omega, a4, fun j hj hj2 => a5 j hj (by omega)⟩
    · left
      rw [if_neg hc, if_pos (by omega), zg_pos ⟨by omega, by omega⟩, zg_pos ⟨by omega, by omega⟩]
      have hb := zbyte_b w i
      refine ⟨_, rfl, ⟨by omega, by omega, ?_, ?_, ?_⟩, by omega⟩
      · rw [gI_same ⟨by omega, by omega⟩]; omega
      · intro k hk hk2
        rw [gI_nc (by decide), gI_ni (by omega)]
        exact a4 k hk hk2
      · intro j hj hj2
        rw [gI_nc (by decide)]
        by_cases ej : gI s 8 1 + j = gI σ 8 1
        · rw [ej, gI_same ⟨by have := hb.1; unfold zbyte at this; omega, by have := hb.2; unfold zbyte at this; omega⟩]
          have : n - 1 - j = i := by omega
          rw [this]
          rfl
        · rw [gI_ni ej]
          exact a5 j hj (by omega)) (s := (n - 1, s)) ⟨by dsimp only; omega, by dsimp only; omega, by dsimp only; omega, fun _ _ _ => rfl, fun j hj hj2 => by dsimp only at hj2; omega⟩ (by show (n - 1 + 1).toNat < _; omega)
  obtain ⟨t, ht, hq⟩ := hloop
  exact ⟨t, by unfold f_71; rw [zo_of ht], hq⟩
theorem m_append {s : zS} {w : BitVec 64} {n : Int} (h1 : 1 ≤ n) (h8 : n ≤ 8) (hl : 0 ≤ gI s 177 3) (hs : gI s 177 3 + n ≤ 600) : ∃ s', zlp (fun (q : Int × zS) => b_143_50 w q.1 q.2) zF ((n - 1), s) = some s' ∧ gI s' 177 3 = gI s 177 3 + n ∧ gI s' 177 0 = gI s 177 0 ∧ (∀ i, 0 ≤ i → i < gI s 177 3 → gI s' 178 i = gI s 178 i) ∧ ∀ j, 0 ≤ j → j < n → gI s' 178 (gI s 177 3 + j) = zbyte w (n - 1 - j) := by
  have hloop := zlp_F (B := fun (q : Int × zS) => b_143_50 w q.1 q.2) (I := fun q => -1 ≤ q.1 ∧ q.1 < n ∧ gI q.2 177 3 = gI s 177 3 + (n - 1 - q.1) ∧ gI q.2 177 0 = gI s 177 0 ∧ (∀ i, 0 ≤ i → i < gI s 177 3 → gI q.2 178 i = gI s 178 i) ∧ ∀ j, 0 ≤ j → j < n - 1 - q.1 → gI q.2 178 (gI s 177 3 + j) = zbyte w (n - 1 - j)) (μ := fun q => (q.1 + 1).toNat) (Q := fun t => gI t 177 3 = gI s 177 3 + n ∧ gI t 177 0 = gI s 177 0 ∧ (∀ i, 0 ≤ i → i < gI s 177 3 → gI t 178 i = gI s 178 i) ∧ ∀ j, 0 ≤ j → j < n → gI t 178 (gI s 177 3 + j) = zbyte w (n - 1 - j)) (by
    rintro ⟨i, σ⟩ ⟨a1, a2, a3, a0, a4, a5⟩
    dsimp only at a1 a2 a3 a0 a4 a5 ⊢
    have hR : zR i := ⟨by omega, by omega⟩
    unfold b_143_50
    rw [zg_pos hR]
    by_cases hc : i < 0
    · right
      have e : i = -1 := by omega
      subst e
      refine ⟨σ, by rw [if_pos hc], by omega, a0, a4, fun j hj hj2 => a5 j hj (by omega)⟩
    · left
      rw [if_neg hc, zg_pos ⟨by omega, by omega⟩, zg_pos ⟨by omega, by omega⟩]
      have hb := zbyte_b w i
      refine ⟨_, rfl, ⟨by omega, by omega, ?_, ?_, ?_, ?_⟩, by omega⟩
      · rw [gI_same ⟨by omega, by omega⟩]; omega
      · rw [gI_ni (by decide), gI_nc (by decide)]; exact a0
      · intro k hk hk2
        rw [gI_nc (by decide), gI_ni (by omega)]
        exact a4 k hk hk2
      · intro j hj hj2
        rw [gI_nc (by decide)]
        by_cases ej : gI s 177 3 + j = gI σ 177 3
        · rw [ej, gI_same ⟨by have := hb.1; unfold zbyte at this; omega, by have := hb.2; unfold zbyte at this; omega⟩]
          have : n - 1 - j = i := by omega
          rw [this]
          rfl
        · rw [gI_ni ej]
          exact a5 j hj (by omega)) (s := (n - 1, s)) ⟨by dsimp only; omega, by dsimp only; omega, by dsimp only; omega, rfl, fun _ _ _ => rfl, fun j hj hj2 => by dsimp only at hj2; omega⟩ (by show (n - 1 + 1).toNat < _; omega)
  exact hloop
/-- what a turn of the law wants of a call that may throw -/
def zturn (s : zS) (f g : zS → Option (Int × zS)) (P : zS → Prop) : Prop := ∃ r s1 b s2, f s = some (r, s1) ∧ g s1 = some (b, s2) ∧ gI s2 177 0 = r ∧ zR r ∧ (r = 0 → zR b ∧ gJ s2 205 0 = BitVec.ofInt 64 b) ∧ P s2
theorem op_feed {s : zS} {w : BitVec 64} {n : Int} (hT : IT s) (hn : zR n) : zturn s (f_2 w n) (f_143 w n) (fun s2 => IT s2 ∧ zeq 93035356709837656167892237135981387806145009607646429917800258085033806863437796089904367201950875039583544426181004256202604148183398652 s s2) := by
  obtain ⟨t1, t2, t3, t4⟩ := hT
  unfold zturn
  by_cases h1 : n < 1
  · refine ⟨1, s, 0, sI s 177 0 1, ?_, ?_, ?_, by decide, fun h => absurd h (by decide), ?_⟩
    · unfold f_2 f_32
      rw [zg_pos hn, if_pos h1, zb_of rfl, ze_r, if_pos rfl]
    · unfold f_143 j_143_12 j_143_33
      rw [zg_pos hn, if_pos h1, gI_same (by decide), if_pos (by decide)]
    · rw [gI_same (by decide)]
    · exact ⟨IT.cong ((zfr_I (m := 2582249878086908589655919172003011874329705792829223512830659356540647622016841194629645353280137831435903171972747493376) rfl).eq rfl) ⟨t1, t2, t3, t4⟩, (zfr_I (m := 2582249878086908589655919172003011874329705792829223512830659356540647622016841194629645353280137831435903171972747493376) rfl).eq rfl⟩
  · by_cases h8 : 8 < n
    · refine ⟨1, s, 0, sI s 177 0 1, ?_, ?_, ?_, by decide, fun h => absurd h (by decide), ?_⟩
      · unfold f_2 f_32
        rw [zg_pos hn, if_neg h1, if_pos h8, zb_of rfl, ze_r, if_pos rfl]
      · unfold f_143 j_143_12 j_143_33
        rw [zg_pos hn, if_neg h1, if_pos h8, gI_same (by decide), if_pos (by decide)]
      · rw [gI_same (by decide)]
      · exact ⟨IT.cong ((zfr_I (m := 2582249878086908589655919172003011874329705792829223512830659356540647622016841194629645353280137831435903171972747493376) rfl).eq rfl) ⟨t1, t2, t3, t4⟩, (zfr_I (m := 2582249878086908589655919172003011874329705792829223512830659356540647622016841194629645353280137831435903171972747493376) rfl).eq rfl⟩
    · by_cases h6 : 600 < gI s 8 1 + n
      · refine ⟨2, s, 0, sI s 177 0 2, ?_, ?_, ?_, by decide, fun h => absurd h (by decide), ?_⟩
        · unfold f_2 f_32
          rw [zg_pos hn, if_neg h1, if_neg h8, zg_pos ⟨by omega, by omega⟩, if_pos h6, zb_of rfl, ze_r, if_neg (by decide), if_pos rfl]
        · unfold f_143 j_143_33
          rw [zg_pos hn, if_neg h1, if_neg h8, zg_pos ⟨by omega, by omega⟩, if_pos (by omega), gI_same (by decide), if_pos (by decide)]
        · rw [gI_same (by decide)]
        · exact ⟨IT.cong ((zfr_I (m := 2582249878086908589655919172003011874329705792829223512830659356540647622016841194629645353280137831435903171972747493376) rfl).eq rfl) ⟨t1, t2, t3, t4⟩, (zfr_I (m := 2582249878086908589655919172003011874329705792829223512830659356540647622016841194629645353280137831435903171972747493376) rfl).eq rfl⟩
      · obtain ⟨s1, e1, a1, a2, a3⟩ := c_append (s := s) (w := w) (n := n) (by omega) (by omega) t2 (by omega)
        have F1 := fr_71 e1
        have g1 : gI s1 177 3 = gI s 177 3 := F1.i rfl
        have g2 : ∀ i, gI s1 178 i = gI s 178 i := F1.ia rfl rfl
        let s1' := sJ s1 205 0 (BitVec.ofInt 64 (gI s1 8 1))
        let s1'' := sI s1' 177 0 0
        have c1 : gI s1'' 177 3 = gI s 177 3 := by
          show gI (sI s1' 177 0 0) 177 3 = _
          rw [gI_ni (by decide)]
          exact g1
        have c2 : ∀ i, gI s1'' 178 i = gI s 178 i := fun i => by
          show gI (sI s1' 177 0 0) 178 i = _
          rw [gI_nc (by decide)]
          exact g2 i
        obtain ⟨s2, e2, b1, b0, b2, b3⟩ := m_append (s := s1'') (w := w) (n := n) (by omega) (by omega) (by omega) (by omega)
        have F2 := frl_143_50 e2
        dsimp only at F2
        have hl1 : gI s2 8 1 = gI s1 8 1 := by rw [F2.i rfl]; exact gI_nc (by decide)
        have hl2 : ∀ i, gI s2 9 i = gI s1 9 i := fun i => by rw [F2.ia (c := 9) rfl rfl]; exact gI_nc (by decide)
        refine ⟨0, s1', gI s2 177 3, s2, ?_, ?_, ?_, by decide, fun _ => ⟨⟨by omega, by omega⟩, ?_⟩, ?_, ?_⟩
        · unfold f_2 f_32
          rw [zg_pos hn, if_neg h1, if_neg h8, zg_pos ⟨by omega, by omega⟩, if_neg h6, zb_of e1, zb_of rfl, ze_l, zg_pos ⟨by omega, by omega⟩]
        · unfold f_143 j_143_33
          have q1 : gI s1' 177 3 = gI s 177 3 := g1
          rw [zg_pos hn, if_neg h1, if_neg h8, q1, zg_pos ⟨by omega, by omega⟩, if_neg (by omega), gI_same (by decide), if_neg (by decide), zo_of e2]
        · rw [b0]
          exact gI_same (by decide)
        · rw [F2.ja (c := 205) rfl rfl]
          show gJ s1' 205 0 = _
          rw [show gJ s1' 205 0 = BitVec.ofInt 64 (gI s1 8 1) from gJ_same]
          congr 1
          omega
        · refine ⟨by omega, by omega, by omega, ?_⟩
          intro i hi hi2
          rw [hl2 i]
          by_cases hL : i < gI s 8 1
          · rw [a2 i hi hL, b2 i hi (by omega), c2 i]
            exact t4 i hi hL
          · have ei : i = gI s 8 1 + (i - gI s 8 1) := by omega
            have p1 := a3 (i - gI s 8 1) (by omega) (by omega)
            have p2 := b3 (i - gI s 8 1) (by omega) (by omega)
            rw [← ei] at p1
            rw [c1, ← t1, ← ei] at p2
            rw [p1, p2]
            exact ⟨rfl, zbyte_b _ _⟩
        · have G1 : zeq 93035356709837656167892237135981387806145009607646429917800258085033806863437796089904367201950875039583544426181004256202604148183398652 s s1 := F1.eq rfl
          have G2 : zeq 93035356709837656167892237135981387806145009607646429917800258085033806863437796089904367201950875039583544426181004256202604148183398652 s1 s1' := (zfr_JA (m := 51422017416287688817342786954917203280710495801049370729644032) rfl rfl).eq rfl
          have G3 : zeq 93035356709837656167892237135981387806145009607646429917800258085033806863437796089904367201950875039583544426181004256202604148183398652 s1' s1'' := (zfr_I (m := 2582249878086908589655919172003011874329705792829223512830659356540647622016841194629645353280137831435903171972747493376) rfl).eq rfl
          exact ((G1.tr G2).tr G3).tr (F2.eq rfl)
