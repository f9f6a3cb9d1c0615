/-! SEGMENTS of the reference's code: and, or, implies, iff; ~ ^ *; the operators on two expressions. -/
def vLink (c : Int) (x y : Bool) : Bool := if c = 16 then x && y else if c = 17 then x || y else if c = 18 then !x || y else x == y
section SEG3
variable {n R : Int} {ra cd wt al : Int → Int} {a b c L N N1 N2 : Int} {m m1 m2 : Nat} {D D1 D2 : Dn}
theorem m_turn_link {σ : zS} {row k v : Int} (hC : RC σ row a b cd wt al) (ka : a ≤ k) (kb : k < b) (hc : cd k = v) (h3 : v ≠ 3) (h4 : v ≠ 4) (l1 : f_167 v = some 0) {lv : Int} (l2 : f_166 v = some lv) (hlv : zR lv) (hne : lv ≠ 16) (l3 : f_168 v = some 1) {τ : zS} (h : f_219 v σ = some ((), τ)) : b_199_12 row k σ = some (.inl (k + 1, τ)) := by
  obtain ⟨r0, r1, a0, r2, r3, r4⟩ := hC
  obtain ⟨c1, c2, c3⟩ := r4 k ka kb
  unfold b_199_12
  rw [zg_pos ⟨r0, r1⟩, zg_pos ⟨by omega, by omega⟩, if_pos (by omega), zg_pos ⟨by omega, by omega⟩, c1, hc, if_neg h3, if_neg h4, zo_of l1, zg_pos (by decide), if_pos rfl, zo_of l2, zg_pos hlv, if_neg hne, zo_of l3, zg_pos (by decide), if_neg (by decide), zb_of h]
theorem m_turn_pairs {σ : zS} {row k v : Int} (hC : RC σ row a b cd wt al) (ka : a ≤ k) (kb : k < b) (hc : cd k = v) (h3 : v ≠ 3) (h4 : v ≠ 4) (l1 : f_167 v = some 0) (l2 : f_166 v = some 16) {τ : zS} (h : f_217 v σ = some ((), τ)) : b_199_12 row k σ = some (.inl (k + 1, τ)) := by
  obtain ⟨r0, r1, a0, r2, r3, r4⟩ := hC
  obtain ⟨c1, c2, c3⟩ := r4 k ka kb
  unfold b_199_12
  rw [zg_pos ⟨r0, r1⟩, zg_pos ⟨by omega, by omega⟩, if_pos (by omega), zg_pos ⟨by omega, by omega⟩, c1, hc, if_neg h3, if_neg h4, zo_of l1, zg_pos (by decide), if_pos rfl, zo_of l2, zg_pos (by decide), if_pos rfl, zb_of h]
theorem m_turn_joint {σ : zS} {row k v : Int} (hC : RC σ row a b cd wt al) (ka : a ≤ k) (kb : k < b) (hc : cd k = v) (h3 : v ≠ 3) (h4 : v ≠ 4) (l1 : f_167 v = some 1) {τ : zS} (h : f_208 v (wt k) (al k) σ = some ((), τ)) : b_199_12 row k σ = some (.inl (k + 1, τ)) := by
  obtain ⟨r0, r1, a0, r2, r3, r4⟩ := hC
  obtain ⟨c1, c2, c3⟩ := r4 k ka kb
  unfold b_199_12
  rw [zg_pos ⟨r0, r1⟩, zg_pos ⟨by omega, by omega⟩, if_pos (by omega), zg_pos ⟨by omega, by omega⟩, c1, c2, c3, hc, if_neg h3, if_neg h4, zo_of l1, zg_pos (by decide), if_neg (by decide), zb_of h]
/-- j_219_51 at two truths -/
theorem m_link51 {σ ω : zS} {v : Int} {x y : Bool} (hv : v = 16 ∨ v = 17 ∨ v = 18 ∨ v = 19) (h : f_206 (if vLink v x y then 1 else 0) (sI σ 177 46 (gI σ 177 46 - 1)) = some ((), ω)) : j_219_51 v (if y then 1 else 0) (if x then 1 else 0) σ = some ((), ω) := by
  rcases hv with rfl | rfl | rfl | rfl <;> cases x <;> cases y
  all_goals first
    | (show zb (f_206 0 (sI σ 177 46 (gI σ 177 46 - 1))) (fun _ s7 => some ((), s7)) = some ((), ω); exact zb_of (show f_206 0 (sI σ 177 46 (gI σ 177 46 - 1)) = some ((), ω) from h))
    | (show zb (f_206 1 (sI σ 177 46 (gI σ 177 46 - 1))) (fun _ s7 => some ((), s7)) = some ((), ω); exact zb_of (show f_206 1 (sI σ 177 46 (gI σ 177 46 - 1)) = some ((), ω) from h))
theorem seg_link {v : Int} (hv : v = 16 ∨ v = 17 ∨ v = 18 ∨ v = 19) (h1 : RSeg n R ra cd wt al a c L m1 1 D1) (h2 : RSeg n R ra cd wt al c b L m2 1 D2) (hm1 : m1 ≤ m) (hm2 : m2 + 1 ≤ m) (hb : 0 ≤ b) (hc : cd b = v) : RSeg n R ra cd wt al a (b + 1) L m 1 (fun e A _ => vLink v (D1 e A 0) (D2 e A 0)) := by
  refine seg_bin h1 h2 hm1 hm2 (fun τ row e A T hC hM h0 hT hV hV2 => ?_)
  have hl1 := RV1_lo hV
  have hl2 := RV1_lo hV2
  obtain ⟨t1, t2⟩ := top1 (T := T + 1) (by rw [hM.2.2.2.2.1]; omega) (by omega) (by omega)
  have hp1 := hM.pop (T2 := T + 1) (by omega) (by omega)
  obtain ⟨u1, u2⟩ := top1 (τ := sI τ 177 46 (T + 1)) (T := T) t2 h0 (by omega)
  have hp2 := hp1.pop (T2 := T) (by omega) (by omega)
  obtain ⟨ω, w1, w2⟩ := m_truth (v := vLink v (D1 e A 0) (D2 e A 0)) (V := fun _ => vLink v (D1 e A 0) (D2 e A 0)) hp2 (by omega) rfl
  rw [← u1] at w1
  have hj := m_link51 (σ := sI τ 177 46 (T + 1)) (x := D1 e A 0) (y := D2 e A 0) hv w1
  have h29 : ∀ y : Bool, j_219_51 v (if y then 1 else 0) (if D1 e A 0 then 1 else 0) (sI τ 177 46 (T + 1)) = some ((), ω) → j_219_29 v (if y then 1 else 0) (sI τ 177 46 (T + 1)) = some ((), ω) := by
    intro y hy
    unfold j_219_29
    have hg : gJ (sI τ 177 46 (T + 1)) 198 T = zw (D1 e A 0) := hl1
    rw [t2, show T + 1 - 1 = T by omega, zg_pos ⟨h0, by omega⟩, hg]
    cases hd : D1 e A 0 with
    | true => rw [hd] at hy; rw [if_pos (show zw true = 1#64 from rfl)]; exact hy
    | false => rw [hd] at hy; rw [if_neg (by decide)]; exact hy
  have hf : f_219 v τ = some ((), ω) := by
    unfold f_219
    rw [t1, t2, zg_pos ⟨by omega, by omega⟩, hl2]
    cases hd : D2 e A 0 with
    | true => rw [hd] at hj; rw [if_pos (show zw true = 1#64 from rfl)]; exact h29 true hj
    | false => rw [hd] at hj; rw [if_neg (by decide)]; exact h29 false hj
  refine ⟨ω, ?_, w2.pop.pop⟩
  rcases hv with rfl | rfl | rfl | rfl
  · exact m_turn_link (lv := 4) hC (by omega) (by omega) hc (by decide) (by decide) rfl rfl (by decide) (by decide) rfl hf
  · exact m_turn_link (lv := 3) hC (by omega) (by omega) hc (by decide) (by decide) rfl rfl (by decide) (by decide) rfl hf
  · exact m_turn_link (lv := 2) hC (by omega) (by omega) hc (by decide) (by decide) rfl rfl (by decide) (by decide) rfl hf
  · exact m_turn_link (lv := 1) hC (by omega) (by omega) hc (by decide) (by decide) rfl rfl (by decide) (by decide) rfl hf
/-- pairs: what is written in the place of the operand -/
theorem m_pairs_end {τ : zS} {T : Int} {w : BitVec 64} {V : Vl} {e : Int → Int} {A : Int → Bool} (hM : MS τ n R ra L (T + 1) e A) (h0 : 0 ≤ T) (hT : T ≤ 100) (hw : RL (n * n) w V) : j_217_197 w τ = some ((), sJ (sJ τ 198 T w) 199 T (0#64)) ∧ MP τ (sJ (sJ τ 198 T w) 199 T (0#64)) T L (n * n) V := by
  have ht := hM.2.2.2.2.1
  have hnn := nn25 hM.2.1 hM.2.2.1
  refine ⟨?_, zfr_tr (zfr_JA rfl rfl) (zfr_JA rfl rfl), ht, hM.2.2.2.2.2.2.1, ?_, fun j j0 j1 => ?_, fun j j0 j1 => ⟨rfl, rfl, rfl, rfl⟩⟩
  · unfold j_217_197
    rw [ht, show T + 1 - 1 = T by omega, zg_pos ⟨h0, by omega⟩]
  · rw [gJ_nc (by decide), gJ_same, gJ_same]
    exact RV_of (by omega) hw
  · rw [gJ_nc (by decide), gJ_ni (by omega), gJ_ni (by omega), gJ_nc (by decide)]
    exact ⟨rfl, rfl⟩
theorem seg_tilde (h1 : RSeg n R ra cd wt al a b L m (n * n) D1) (hb : 0 ≤ b) (hc : cd b = 38) : RSeg n R ra cd wt al a (b + 1) L m (n * n) (fun e A => vTilde n (D1 e A)) := by
  refine seg_un h1 (fun τ row e A T hC hM h0 hT hV => ?_)
  obtain ⟨w, w1, w2⟩ := m_tilde (s := τ) hM.1 hM.2.1 hM.2.2.1 (RL_of hV)
  obtain ⟨e1, e2⟩ := m_pairs_end hM h0 hT w2
  refine ⟨_, m_turn_pairs hC (by omega) (by omega) hc (by decide) (by decide) rfl rfl ?_, e2⟩
  unfold f_217
  rw [hM.2.2.2.2.1, show T + 1 - 1 = T by omega, zg_pos ⟨h0, by omega⟩, zg_pos (by decide), if_pos rfl, zo_of w1, e1]
theorem seg_hat (h1 : RSeg n R ra cd wt al a b L m (n * n) D1) (hb : 0 ≤ b) (hc : cd b = 39) : RSeg n R ra cd wt al a (b + 1) L m (n * n) (fun e A => vHat n (D1 e A)) := by
  refine seg_un h1 (fun τ row e A T hC hM h0 hT hV => ?_)
  obtain ⟨w, w1, w2⟩ := m_reach (s := τ) (v := 39) hM.1 hM.2.1 hM.2.2.1 (RL_of hV)
  obtain ⟨e1, e2⟩ := m_pairs_end hM h0 hT w2
  refine ⟨_, m_turn_pairs hC (by omega) (by omega) hc (by decide) (by decide) rfl rfl ?_, e2⟩
  unfold f_217 j_217_195
  rw [hM.2.2.2.2.1, show T + 1 - 1 = T by omega, zg_pos ⟨h0, by omega⟩, zg_pos (by decide), if_neg (by decide), zo_of w1, if_neg (by decide), e1]
theorem seg_star (h1 : RSeg n R ra cd wt al a b L m (n * n) D1) (hb : 0 ≤ b) (hc : cd b = 40) : RSeg n R ra cd wt al a (b + 1) L m (n * n) (fun e A => vStar n (D1 e A)) := by
  refine seg_un h1 (fun τ row e A T hC hM h0 hT hV => ?_)
  obtain ⟨w, w1, w2⟩ := m_reach (s := τ) (v := 40) hM.1 hM.2.1 hM.2.2.1 (RL_of hV)
  obtain ⟨y, y1, y2⟩ := m_identity (s := τ) hM.1 hM.2.1 hM.2.2.1
  have hor : RL (n * n) (w ||| y) (vStar n (D1 e A)) := by
    intro t t0 t1
    rw [BitVec.getLsbD_or, w2 t t0 t1, y2 t t0 t1]
    unfold vStar
    cases decide (t < n * n) <;> simp
  obtain ⟨e1, e2⟩ := m_pairs_end hM h0 hT hor
  refine ⟨_, m_turn_pairs hC (by omega) (by omega) hc (by decide) (by decide) rfl rfl ?_, e2⟩
  unfold f_217 j_217_195
  rw [hM.2.2.2.2.1, show T + 1 - 1 = T by omega, zg_pos ⟨h0, by omega⟩, zg_pos (by decide), if_neg (by decide), zo_of w1, if_pos rfl, zo_of y1, e1]
/-- the state in which the reference joins two values -/
def both0 (τ : zS) (T : Int) : zS := sJ (sJ (sI τ 177 46 (T + 1)) 177 47 (0#64)) 177 48 (0#64)
theorem both0_op {τ : zS} {T : Int} {e : Int → Int} {A : Int → Bool} {X Y : Vl} (hM : MS τ n R ra L (T + 2) e A) (h0 : 0 ≤ T) (hT : T ≤ 99) (hX : RV N1 (gJ τ 198 T) (gJ τ 199 T) X) (hY : RV N2 (gJ τ 198 (T + 1)) (gJ τ 199 (T + 1)) Y) : OpS (both0 τ T) n T N1 N2 X Y := by
  refine ⟨?_, hM.2.1, hM.2.2.1, ?_, h0, by omega, hX, hY, fun u u0 u1 => ?_⟩
  · show gI (sI τ 177 46 (T + 1)) 177 1 = n
    rw [gI_ni (by decide)]
    exact hM.1
  · show gI (sI τ 177 46 (T + 1)) 177 46 = T + 1
    exact gI_same ⟨by omega, by omega⟩
  · show tb (gJ (sJ (sJ (sI τ 177 46 (T + 1)) 177 47 (0#64)) 177 48 (0#64)) 177 47) (gJ (sJ (sJ (sI τ 177 46 (T + 1)) 177 47 (0#64)) 177 48 (0#64)) 177 48) u = false
    rw [gJ_ni (by decide), gJ_same, gJ_same]
    unfold tb
    split <;> simp
/-- the joined value goes in the place of the first -/
theorem both_end {τ s' : zS} {T : Int} {e : Int → Int} {A : Int → Bool} {V : Vl} (hM : MS τ n R ra L (T + 2) e A) (h0 : 0 ≤ T) (hT : T ≤ 99) (hf : zfr 1090258086443410335823985711832006801530462041030977090422235298770958932170096884989286576070645348341143782409399266900301902442921984 (both0 τ T) s') (hV : RV N (gJ s' 177 47) (gJ s' 177 48) V) : ∃ ω, j_208_239 s' = some ((), ω) ∧ MP τ ω T L N V := by
  have ht : gI s' 177 46 = T + 1 := by
    rw [hf.i (c := 177) (i := 46) rfl]
    show gI (sI τ 177 46 (T + 1)) 177 46 = _
    exact gI_same ⟨by omega, by omega⟩
  have hs := hf.ja (c := 198) rfl rfl
  have hs2 := hf.ja (c := 199) rfl rfl
  have F : zfr 24530806944976732556039678516220153034435395923196984534500294222346575973852489186456027058429306240630108415201208202408871792121741312 τ s' := zfr_tr (zfr_tr (zfr_tr (zfr_I rfl) (zfr_J rfl)) (zfr_J rfl)) (zfr_sub rfl hf)
  refine ⟨sJ (sJ s' 198 T (gJ s' 177 47)) 199 T (gJ s' 177 48), ?_, zfr_tr F (zfr_tr (zfr_JA rfl rfl) (zfr_JA rfl rfl)), ht, ?_, ?_, fun j j0 j1 => ?_, fun j j0 j1 => ?_⟩
  · unfold j_208_239
    rw [ht, show T + 1 - 1 = T by omega, zg_pos ⟨h0, by omega⟩]
  · show gI s' 177 53 = L
    rw [hf.i (c := 177) (i := 53) rfl]
    show gI (sI τ 177 46 (T + 1)) 177 53 = L
    rw [gI_ni (by decide)]
    exact hM.2.2.2.2.2.2.1
  · rw [gJ_nc (by decide), gJ_same, gJ_same]
    exact hV
  · rw [gJ_nc (by decide), gJ_ni (by omega), gJ_ni (by omega), gJ_nc (by decide), hs, hs2]
    exact ⟨rfl, rfl⟩
  · refine ⟨?_, ?_, ?_, ?_⟩
    · show gI s' 200 j = _; rw [hf.ia (c := 200) rfl rfl]; rfl
    · show gI s' 201 j = _; rw [hf.ia (c := 201) rfl rfl]; rfl
    · show gI s' 202 j = _; rw [hf.ia (c := 202) rfl rfl]; rfl
    · show gI s' 203 j = _; rw [hf.ia (c := 203) rfl rfl]; rfl
theorem both_top {τ : zS} {T : Int} (h : gI τ 177 46 = T + 2) (h0 : 0 ≤ T) (h1 : T ≤ 1000) : sI τ 177 46 (gI τ 177 46 - 1) = sI τ 177 46 (T + 1) ∧ gI (sI τ 177 46 (T + 1)) 177 46 = T + 1 := by
  rw [h, show T + 2 - 1 = T + 1 by omega]
  exact ⟨rfl, gI_same ⟨by omega, by omega⟩⟩
theorem seg_arrow {x y : Int} (h1 : RSeg n R ra cd wt al a c L m1 (n ^ x.toNat) D1) (h2 : RSeg n R ra cd wt al c b L m2 (n ^ y.toNat) D2) (hm1 : m1 ≤ m) (hm2 : m2 + 1 ≤ m) (hb : 0 ≤ b) (hc : cd b = 30) (hw : wt b = x) (ha : al b = y) (x1 : 1 ≤ x) (y1 : 1 ≤ y) (hxy : x + y ≤ 3) : RSeg n R ra cd wt al a (b + 1) L m (n ^ (x + y).toNat) (fun e A => vArrow (n ^ y.toNat) (D1 e A) (D2 e A)) := by
  refine seg_bin h1 h2 hm1 hm2 (fun τ row e A T hC hM h0 hT hV hV2 => ?_)
  obtain ⟨t1, t2⟩ := both_top hM.2.2.2.2.1 h0 (by omega)
  obtain ⟨s', p1, p2⟩ := m_product (both0_op hM h0 hT hV hV2) x1 y1 hxy
  obtain ⟨ω, w1, w2⟩ := both_end hM h0 hT (zfr_sub rfl (fr_209 p1)) p2
  refine ⟨ω, m_turn_joint hC (by omega) (by omega) hc (by decide) (by decide) rfl ?_, w2⟩
  unfold f_208
  rw [t1, t2, show T + 1 - 1 = T by omega, zg_pos ⟨h0, by omega⟩, zg_pos (by decide), show t_208_47 30 = 201 from rfl, if_neg (by decide), if_neg (by decide), if_neg (by decide), if_pos rfl, hw, ha, zb_of (show f_209 x y (sJ (sJ (sI τ 177 46 (T + 1)) 177 47 (0#64)) 177 48 (0#64)) = some ((), s') from p1), w1]
theorem seg_over (h1 : RSeg n R ra cd wt al a c L m1 (n * n) D1) (h2 : RSeg n R ra cd wt al c b L m2 (n * n) D2) (hm1 : m1 ≤ m) (hm2 : m2 + 1 ≤ m) (hb : 0 ≤ b) (hc : cd b = 31) : RSeg n R ra cd wt al a (b + 1) L m (n * n) (fun e A => vOver n (D1 e A) (D2 e A)) := by
  refine seg_bin h1 h2 hm1 hm2 (fun τ row e A T hC hM h0 hT hV hV2 => ?_)
  obtain ⟨t1, t2⟩ := both_top hM.2.2.2.2.1 h0 (by omega)
  obtain ⟨s', p1, p2⟩ := m_override (both0_op hM h0 hT hV hV2)
  obtain ⟨ω, w1, w2⟩ := both_end hM h0 hT (zfr_sub rfl (fr_213 p1)) p2
  refine ⟨ω, m_turn_joint hC (by omega) (by omega) hc (by decide) (by decide) rfl ?_, w2⟩
  unfold f_208
  rw [t1, t2, show T + 1 - 1 = T by omega, zg_pos ⟨h0, by omega⟩, zg_pos (by decide), show t_208_47 31 = 210 from rfl, if_neg (by decide), if_neg (by decide), if_neg (by decide), if_neg (by decide), if_pos rfl, zb_of (show f_213 (sJ (sJ (sI τ 177 46 (T + 1)) 177 47 (0#64)) 177 48 (0#64)) = some ((), s') from p1), w1]
theorem seg_first {y : Int} (h1 : RSeg n R ra cd wt al a c L m1 n D1) (h2 : RSeg n R ra cd wt al c b L m2 (n ^ y.toNat) D2) (hm1 : m1 ≤ m) (hm2 : m2 + 1 ≤ m) (hb : 0 ≤ b) (hc : cd b = 32) (ha : al b = y) (y1 : 1 ≤ y) (y3 : y ≤ 3) : RSeg n R ra cd wt al a (b + 1) L m (n ^ y.toNat) (fun e A => vFirst (n ^ (y - 1).toNat) (D1 e A) (D2 e A)) := by
  refine seg_bin h1 h2 hm1 hm2 (fun τ row e A T hC hM h0 hT hV hV2 => ?_)
  obtain ⟨t1, t2⟩ := both_top hM.2.2.2.2.1 h0 (by omega)
  obtain ⟨s', p1, p2⟩ := m_firsts (both0_op hM h0 hT hV hV2) y1 y3
  obtain ⟨ω, w1, w2⟩ := both_end hM h0 hT (zfr_sub rfl (fr_214 p1)) p2
  refine ⟨ω, m_turn_joint hC (by omega) (by omega) hc (by decide) (by decide) rfl ?_, w2⟩
  unfold f_208
  rw [t1, t2, show T + 1 - 1 = T by omega, zg_pos ⟨h0, by omega⟩, zg_pos (by decide), show t_208_47 32 = 217 from rfl, if_neg (by decide), if_neg (by decide), if_neg (by decide), if_neg (by decide), if_neg (by decide), if_pos rfl, ha, zb_of (show f_214 y (sJ (sJ (sI τ 177 46 (T + 1)) 177 47 (0#64)) 177 48 (0#64)) = some ((), s') from p1), w1]
theorem seg_last {x : Int} (h1 : RSeg n R ra cd wt al a c L m1 (n ^ x.toNat) D1) (h2 : RSeg n R ra cd wt al c b L m2 n D2) (hm1 : m1 ≤ m) (hm2 : m2 + 1 ≤ m) (hb : 0 ≤ b) (hc : cd b = 33) (hw : wt b = x) (x0 : 0 ≤ x) (x3 : x ≤ 3) : RSeg n R ra cd wt al a (b + 1) L m (n ^ x.toNat) (fun e A => vLast n (D1 e A) (D2 e A)) := by
  refine seg_bin h1 h2 hm1 hm2 (fun τ row e A T hC hM h0 hT hV hV2 => ?_)
  obtain ⟨t1, t2⟩ := both_top hM.2.2.2.2.1 h0 (by omega)
  obtain ⟨s', p1, p2⟩ := m_lasts (both0_op hM h0 hT hV hV2) x0 x3
  obtain ⟨ω, w1, w2⟩ := both_end hM h0 hT (zfr_sub rfl (fr_215 p1)) p2
  refine ⟨ω, m_turn_joint hC (by omega) (by omega) hc (by decide) (by decide) rfl ?_, w2⟩
  unfold f_208
  rw [t1, t2, show T + 1 - 1 = T by omega, zg_pos ⟨h0, by omega⟩, zg_pos (by decide), show t_208_47 33 = 225 from rfl, if_neg (by decide), if_neg (by decide), if_neg (by decide), if_neg (by decide), if_neg (by decide), if_neg (by decide), if_pos rfl, hw, zb_of (show f_215 x (sJ (sJ (sI τ 177 46 (T + 1)) 177 47 (0#64)) 177 48 (0#64)) = some ((), s') from p1), w1]
theorem seg_dot {x y : Int} (h1 : RSeg n R ra cd wt al a c L m1 (n ^ x.toNat) D1) (h2 : RSeg n R ra cd wt al c b L m2 (n ^ y.toNat) D2) (hm1 : m1 ≤ m) (hm2 : m2 + 1 ≤ m) (hb : 0 ≤ b) (hc : cd b = 37) (hw : wt b = x) (ha : al b = y) (x1 : 1 ≤ x) (x3 : x ≤ 3) (y1 : 1 ≤ y) (y3 : y ≤ 3) (hxy : x + y - 2 ≤ 3) : RSeg n R ra cd wt al a (b + 1) L m (n ^ (x + y - 2).toNat) (fun e A => vDot n (n ^ (y - 1).toNat) (D1 e A) (D2 e A)) := by
  refine seg_bin h1 h2 hm1 hm2 (fun τ row e A T hC hM h0 hT hV hV2 => ?_)
  obtain ⟨t1, t2⟩ := both_top hM.2.2.2.2.1 h0 (by omega)
  obtain ⟨s', p1, p2⟩ := m_dot (both0_op hM h0 hT hV hV2) x1 y1 x3 y3 hxy
  obtain ⟨ω, w1, w2⟩ := both_end hM h0 hT (zfr_sub rfl (fr_216 p1)) p2
  refine ⟨ω, m_turn_joint hC (by omega) (by omega) hc (by decide) (by decide) rfl ?_, w2⟩
  unfold f_208
  rw [t1, t2, show T + 1 - 1 = T by omega, zg_pos ⟨h0, by omega⟩, zg_pos (by decide), show t_208_47 37 = 233 from rfl, if_neg (by decide), if_neg (by decide), if_neg (by decide), if_neg (by decide), if_neg (by decide), if_neg (by decide), if_neg (by decide), if_pos rfl, hw, ha, zb_of (show f_216 x y (sJ (sJ (sI τ 177 46 (T + 1)) 177 47 (0#64)) 177 48 (0#64)) = some ((), s') from p1), w1]
end SEG3
