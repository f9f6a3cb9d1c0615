/-! THE PURE LAYER: the law's loop. By program. -/
def t_0_49 (a : Int) : Nat := zswt 0 19 [144, 244, 285, 385, 465, 509, 553, 566, 579, 623, 667, 742, 755, 768, 781, 825, 888, 932, 957, 1001] 1026 a
def b_0_33 (k : zK) (v4 : Int) (s : zS) : Option ((Int × zS) ⊕ (zS ⊕ (Int × zS))) := zg (zR v4) (zg (zR ((k.2.1 : Int) - 4)) (if ((k.2.1 : Int) - 4) < v4 then (some (.inr (.inl s))) else (zg (0 ≤ v4 ∧ v4 < (k.2.1 : Int)) (if t_0_49 (zand (gX k v4) 31) = 144 then (zg (0 ≤ (v4 + 1) ∧ (v4 + 1) < (k.2.1 : Int)) (zg (0 ≤ (v4 + 2) ∧ (v4 + 2) < (k.2.1 : Int)) (zg (0 ≤ (v4 + 3) ∧ (v4 + 3) < (k.2.1 : Int)) (zb (f_2 (((BitVec.ofInt 64 (gX k (v4 + 1))) <<< zshl 32) ||| ((BitVec.ofInt 64 (gX k (v4 + 2))) &&& (4294967295#64))) (gX k (v4 + 3)) s) (fun r10 s11 => zb (f_143 (((BitVec.ofInt 64 (gX k (v4 + 1))) <<< zshl 32) ||| ((BitVec.ofInt 64 (gX k (v4 + 2))) &&& (4294967295#64))) (gX k (v4 + 3)) s11) (fun r14 s15 => zo (f_142 s15) (fun r17 => zg (zR r17) (zg (zR r10) (if r17 = r10 then (if r10 = 0 then (zg (zR r14) (if (gJ s15 205 0) = (BitVec.ofInt 64 r14) then (some (.inl ((v4 + 4), s15))) else (some (.inr (.inr (0, s15)))))) else (some (.inl ((v4 + 4), s15)))) else (some (.inr (.inr (0, s15))))))))))))) else (if t_0_49 (zand (gX k v4) 31) = 244 then (zg (0 ≤ (v4 + 1) ∧ (v4 + 1) < (k.2.1 : Int)) (if (gX k (v4 + 1)) = 0 then (zo (f_15 0 s) (fun r28 => if (gX k (v4 + 1)) = 0 then (zb (f_144 0 s) (fun r31 s32 => zg (zR r28) (zg (zR r31) (if r28 = r31 then (some (.inl ((v4 + 4), s32))) else (some (.inr (.inr (0, s32)))))))) else (zb (f_144 1 s) (fun r37 s38 => zg (zR r28) (zg (zR r37) (if r28 = r37 then (some (.inl ((v4 + 4), s38))) else (some (.inr (.inr (0, s38)))))))))) else (zo (f_15 1 s) (fun r43 => if (gX k (v4 + 1)) = 0 then (zb (f_144 0 s) (fun r46 s47 => zg (zR r43) (zg (zR r46) (if r43 = r46 then (some (.inl ((v4 + 4), s47))) else (some (.inr (.inr (0, s47)))))))) else (zb (f_144 1 s) (fun r52 s53 => zg (zR r43) (zg (zR r52) (if r43 = r52 then (some (.inl ((v4 + 4), s53))) else (some (.inr (.inr (0, s53)))))))))))) else (if t_0_49 (zand (gX k v4) 31) = 285 then (zg (0 ≤ (v4 + 1) ∧ (v4 + 1) < (k.2.1 : Int)) (zg (0 ≤ (v4 + 2) ∧ (v4 + 2) < (k.2.1 : Int)) (zg (0 ≤ (v4 + 3) ∧ (v4 + 3) < (k.2.1 : Int)) (zb (f_3 (((BitVec.ofInt 64 (gX k (v4 + 1))) <<< zshl 32) ||| ((BitVec.ofInt 64 (gX k (v4 + 2))) &&& (4294967295#64))) (gX k (v4 + 3)) s) (fun r62 s63 => zb (f_145 (((BitVec.ofInt 64 (gX k (v4 + 1))) <<< zshl 32) ||| ((BitVec.ofInt 64 (gX k (v4 + 2))) &&& (4294967295#64))) (gX k (v4 + 3)) s63) (fun r66 s67 => zo (f_142 s67) (fun r69 => zg (zR r69) (zg (zR r62) (if r69 = r62 then (if r62 = 0 then (zg (zR r66) (if (gJ s67 205 0) = (BitVec.ofInt 64 r66) then (some (.inl ((v4 + 4), s67))) else (some (.inr (.inr (0, s67)))))) else (some (.inl ((v4 + 4), s67)))) else (some (.inr (.inr (0, s67))))))))))))) else (if t_0_49 (zand (gX k v4) 31) = 385 then (zg (0 ≤ (v4 + 1) ∧ (v4 + 1) < (k.2.1 : Int)) (zg (0 ≤ (v4 + 2) ∧ (v4 + 2) < (k.2.1 : Int)) (zg (0 ≤ (v4 + 3) ∧ (v4 + 3) < (k.2.1 : Int)) (zb (f_4 (gX k (v4 + 1)) (gX k (v4 + 2)) (gX k (v4 + 3)) s) (fun r81 s82 => zb (f_151 (gX k (v4 + 1)) (gX k (v4 + 2)) (gX k (v4 + 3)) s82) (fun r85 s86 => zo (f_142 s86) (fun r88 => zg (zR r88) (zg (zR r81) (if r88 = r81 then (if r81 = 0 then (zg (zR r85) (if (gJ s86 205 0) = (BitVec.ofInt 64 r85) then (some (.inl ((v4 + 4), s86))) else (some (.inr (.inr (0, s86)))))) else (some (.inl ((v4 + 4), s86)))) else (some (.inr (.inr (0, s86))))))))))))) else (if t_0_49 (zand (gX k v4) 31) = 465 then (zb (f_5 s) (fun r97 s98 => zb (f_155 s98) (fun r101 s102 => zo (f_142 s102) (fun r104 => zg (zR r104) (zg (zR r97) (if r104 = r97 then (if r97 = 0 then (zg (zR r101) (if (gJ s102 205 0) = (BitVec.ofInt 64 r101) then (some (.inl ((v4 + 4), s102))) else (some (.inr (.inr (0, s102)))))) else (some (.inl ((v4 + 4), s102)))) else (some (.inr (.inr (0, s102)))))))))) else (if t_0_49 (zand (gX k v4) 31) = 509 then (zb (f_6 s) (fun r113 s114 => zb (f_190 s114) (fun r117 s118 => zo (f_142 s118) (fun r120 => zg (zR r120) (zg (zR r113) (if r120 = r113 then (if r113 = 0 then (zg (zR r117) (if (gJ s118 205 0) = (BitVec.ofInt 64 r117) then (some (.inl ((v4 + 4), s118))) else (some (.inr (.inr (0, s118)))))) else (some (.inl ((v4 + 4), s118)))) else (some (.inr (.inr (0, s118)))))))))) else (if t_0_49 (zand (gX k v4) 31) = 553 then (zb (f_16 s) (fun r129 s130 => zb (f_191 s130) (fun r132 s133 => zg (zR r129) (zg (zR r132) (if r129 = r132 then (some (.inl ((v4 + 4), s133))) else (some (.inr (.inr (0, s133))))))))) else (if t_0_49 (zand (gX k v4) 31) = 566 then (zb (f_23 s) (fun r139 s140 => zb (f_192 s140) (fun r142 s143 => zg (zR r139) (zg (zR r142) (if r139 = r142 then (some (.inl ((v4 + 4), s143))) else (some (.inr (.inr (0, s143))))))))) else (if t_0_49 (zand (gX k v4) 31) = 579 then (zb (f_7 s) (fun r149 s150 => zb (f_223 s150) (fun r153 s154 => zo (f_142 s154) (fun r156 => zg (zR r156) (zg (zR r149) (if r156 = r149 then (if r149 = 0 then (zg (zR r153) (if (gJ s154 205 0) = (BitVec.ofInt 64 r153) then (some (.inl ((v4 + 4), s154))) else (some (.inr (.inr (0, s154)))))) else (some (.inl ((v4 + 4), s154)))) else (some (.inr (.inr (0, s154)))))))))) else (if t_0_49 (zand (gX k v4) 31) = 623 then (zb (f_8 s) (fun r165 s166 => zb (f_224 s166) (fun r169 s170 => zo (f_142 s170) (fun r172 => zg (zR r172) (zg (zR r165) (if r172 = r165 then (if r165 = 0 then (zg (zR r169) (if (gJ s170 205 0) = (BitVec.ofInt 64 r169) then (some (.inl ((v4 + 4), s170))) else (some (.inr (.inr (0, s170)))))) else (some (.inl ((v4 + 4), s170)))) else (some (.inr (.inr (0, s170)))))))))) else (if t_0_49 (zand (gX k v4) 31) = 667 then (zg (0 ≤ (v4 + 1) ∧ (v4 + 1) < (k.2.1 : Int)) (zg (0 ≤ (v4 + 2) ∧ (v4 + 2) < (k.2.1 : Int)) (zb (f_9 (gX k (v4 + 1)) (gX k (v4 + 2)) s) (fun r183 s184 => zb (f_225 (gX k (v4 + 1)) (gX k (v4 + 2)) s184) (fun r187 s188 => zo (f_142 s188) (fun r190 => zg (zR r190) (zg (zR r183) (if r190 = r183 then (if r183 = 0 then (zg (zR r187) (if r187 = 0 then (if (gJ s188 205 0) = (0#64) then (some (.inl ((v4 + 4), s188))) else (some (.inr (.inr (0, s188))))) else (if (gJ s188 205 0) = (1#64) then (some (.inl ((v4 + 4), s188))) else (some (.inr (.inr (0, s188))))))) else (some (.inl ((v4 + 4), s188)))) else (some (.inr (.inr (0, s188)))))))))))) else (if t_0_49 (zand (gX k v4) 31) = 742 then (zb (f_27 s) (fun r201 s202 => zb (f_226 s202) (fun r204 s205 => zg (zR r201) (zg (zR r204) (if r201 = r204 then (some (.inl ((v4 + 4), s205))) else (some (.inr (.inr (0, s205))))))))) else (if t_0_49 (zand (gX k v4) 31) = 755 then (zb (f_28 s) (fun r211 s212 => zb (f_227 s212) (fun r214 s215 => zg (zR r211) (zg (zR r214) (if r211 = r214 then (some (.inl ((v4 + 4), s215))) else (some (.inr (.inr (0, s215))))))))) else (if t_0_49 (zand (gX k v4) 31) = 768 then (zb (f_29 s) (fun r221 s222 => zb (f_235 s222) (fun r224 s225 => zg (zR r221) (zg (zR r224) (if r221 = r224 then (some (.inl ((v4 + 4), s225))) else (some (.inr (.inr (0, s225))))))))) else (if t_0_49 (zand (gX k v4) 31) = 781 then (zb (f_10 s) (fun r231 s232 => zb (f_236 s232) (fun r235 s236 => zo (f_142 s236) (fun r238 => zg (zR r238) (zg (zR r231) (if r238 = r231 then (if r231 = 0 then (zg (zR r235) (if (gJ s236 205 0) = (BitVec.ofInt 64 r235) then (some (.inl ((v4 + 4), s236))) else (some (.inr (.inr (0, s236)))))) else (some (.inl ((v4 + 4), s236)))) else (some (.inr (.inr (0, s236)))))))))) else (if t_0_49 (zand (gX k v4) 31) = 825 then (zg (0 ≤ (v4 + 1) ∧ (v4 + 1) < (k.2.1 : Int)) (zb (f_11 (gX k (v4 + 1)) s) (fun r248 s249 => zb (f_237 (gX k (v4 + 1)) s249) (fun r252 s253 => zo (f_142 s253) (fun r255 => zg (zR r255) (zg (zR r248) (if r255 = r248 then (if r248 = 0 then (zg (zR r252) (if r252 = 0 then (if (gJ s253 205 0) = (0#64) then (some (.inl ((v4 + 4), s253))) else (some (.inr (.inr (0, s253))))) else (if (gJ s253 205 0) = (1#64) then (some (.inl ((v4 + 4), s253))) else (some (.inr (.inr (0, s253))))))) else (some (.inl ((v4 + 4), s253)))) else (some (.inr (.inr (0, s253))))))))))) else (if t_0_49 (zand (gX k v4) 31) = 888 then (zb (f_12 s) (fun r266 s267 => zb (f_238 s267) (fun r270 s271 => zo (f_142 s271) (fun r273 => zg (zR r273) (zg (zR r266) (if r273 = r266 then (if r266 = 0 then (zg (zR r270) (if (gJ s271 205 0) = (BitVec.ofInt 64 r270) then (some (.inl ((v4 + 4), s271))) else (some (.inr (.inr (0, s271)))))) else (some (.inl ((v4 + 4), s271)))) else (some (.inr (.inr (0, s271)))))))))) else (if t_0_49 (zand (gX k v4) 31) = 932 then (zg (0 ≤ (v4 + 1) ∧ (v4 + 1) < (k.2.1 : Int)) (zo (f_30 (gX k (v4 + 1)) s) (fun r283 => zb (f_240 (gX k (v4 + 1)) s) (fun r285 s286 => zg (zR r283) (zg (zR r285) (if r283 = r285 then (some (.inl ((v4 + 4), s286))) else (some (.inr (.inr (0, s286)))))))))) else (if t_0_49 (zand (gX k v4) 31) = 957 then (zb (f_13 s) (fun r292 s293 => zb (f_241 s293) (fun r296 s297 => zo (f_142 s297) (fun r299 => zg (zR r299) (zg (zR r292) (if r299 = r292 then (if r292 = 0 then (zg (zR r296) (if (gJ s297 205 0) = (BitVec.ofInt 64 r296) then (some (.inl ((v4 + 4), s297))) else (some (.inr (.inr (0, s297)))))) else (some (.inl ((v4 + 4), s297)))) else (some (.inr (.inr (0, s297)))))))))) else (if t_0_49 (zand (gX k v4) 31) = 1001 then (zg (0 ≤ (v4 + 1) ∧ (v4 + 1) < (k.2.1 : Int)) (zo (f_31 (gX k (v4 + 1)) s) (fun r309 => zb (f_242 (gX k (v4 + 1)) s) (fun r311 s312 => zg (zR r309) (zg (zR r311) (if r309 = r311 then (some (.inl ((v4 + 4), s312))) else (some (.inr (.inr (0, s312)))))))))) else (if t_0_49 (zand (gX k v4) 31) = 1026 then (some (.inl ((v4 + 4), s))) else (none)))))))))))))))))))))))))
def K_0_33 (k : zK) (d : Nat) (x : am_H) (r : am_A × am_H) (q : (Int × zS) ⊕ (zS ⊕ (Int × zS))) : Prop := Sum.elim (fun e => zgo k d 0 (33, [(0, .ref (am_big + 0)), (1, .ref 0), (2, .ref 177), (3, .ref 205), (4, .int (Int32.ofInt e.1))], []) (hp e.2 ++ x) r) (fun t => Sum.elim (fun e => zgo k d 0 (1032, [], []) (hp e ++ x) r) (fun q => r = (.inl (some (.int (Int32.ofInt q.1))), hp q.2 ++ x)) t) q
set_option maxHeartbeats 4000000 in
theorem wb_0_33 {k : zK} {d : Nat} {x : am_H} {v4 : Int} {s : zS} {q : (Int × zS) ⊕ (zS ⊕ (Int × zS))} (hL : k.2.1 ≤ 5760) (hd : 102 ≤ d) (hxl : x.length < 100000) (h : b_0_33 k v4 s = some q) : ∃ x', zgrow x x' ∧ ∀ r, K_0_33 k d x' r q → zgo k d 0 (33, [(0, .ref (am_big + 0)), (1, .ref 0), (2, .ref 177), (3, .ref 205), (4, .int (Int32.ofInt v4))], []) (hp s ++ x) r := by
  unfold b_0_33 at h
  have hM := xM_0 k.1
  obtain ⟨hg1, h⟩ := zg_some h
  obtain ⟨hg2, h⟩ := zg_some h
  by_cases hc3 : ((k.2.1 : Int) - 4) < v4
  · rw [if_pos hc3] at h
    cases h
    refine ⟨x, Or.inl rfl, fun r hK => ?_⟩
    refine g_iload 35 hM rfl rfl rfl ?_
    refine g_aload_n 36 hM rfl rfl rfl ?_
    refine g_kalenX 37 hM rfl rfl ?_
    refine g_iconst 38 hM rfl rfl ?_
    refine g_isub 39 hM rfl rfl ?_
    refine g_ic_gt_t 1032 hM rfl rfl hg1 hg2 hc3 ?_
    exact g_lv [] rfl trivial hK
  · rw [if_neg hc3] at h
    obtain ⟨hg4, h⟩ := zg_some h
    by_cases hc5 : t_0_49 (zand (gX k v4) 31) = 144
    · rw [if_pos hc5] at h
      obtain ⟨hg6, h⟩ := zg_some h
      obtain ⟨hg7, h⟩ := zg_some h
      obtain ⟨hg8, h⟩ := zg_some h
      obtain ⟨r10, s11, h9, h⟩ := zb_some h
      obtain ⟨x12, hxx12, hzx12⟩ := w_2 (k := k) (d := d - 1) (by omega) hxl h9
      obtain ⟨r14, s15, h13, h⟩ := zb_some h
      obtain ⟨r17, h16, h⟩ := zo_some h
      obtain ⟨hg18, h⟩ := zg_some h
      obtain ⟨hg19, h⟩ := zg_some h
      by_cases hc20 : r17 = r10
      · rw [if_pos hc20] at h
        by_cases hc21 : r10 = 0
        · rw [if_pos hc21] at h
          obtain ⟨hg22, h⟩ := zg_some h
          by_cases hc23 : (gJ s15 205 0) = (BitVec.ofInt 64 r14)
          · rw [if_pos hc23] at h
            cases h
            refine ⟨x12, hxx12, fun r hK => ?_⟩
            refine g_iload 35 hM rfl rfl rfl ?_
            refine g_aload_n 36 hM rfl rfl rfl ?_
            refine g_kalenX 37 hM rfl rfl ?_
            refine g_iconst 38 hM rfl rfl ?_
            refine g_isub 39 hM rfl rfl ?_
            refine g_ic_gt_f 42 1032 hM rfl rfl rfl hg1 hg2 hc3 ?_
            refine g_aload_n 43 hM rfl rfl rfl ?_
            refine g_iload 45 hM rfl rfl rfl ?_
            refine g_kiaload 46 hM rfl rfl hL hg4 ?_
            refine g_bipush 48 hM rfl rfl rfl ?_
            refine g_iand 49 hM rfl rfl ?_
            refine g_tsw 144 hM rfl (zR_and _ _) hc5 rfl rfl rfl ?_
            refine g_aload_n 145 hM rfl rfl rfl ?_
            refine g_aload_n 146 hM rfl rfl rfl ?_
            refine g_iload 148 hM rfl rfl rfl ?_
            refine g_iconst 149 hM rfl rfl ?_
            refine g_iadd 150 hM rfl rfl ?_
            refine g_kiaload 151 hM rfl rfl hL hg6 ?_
            refine g_i2l 152 hM rfl rfl (zR_toInt _) ?_
            refine g_bipush 154 hM rfl rfl rfl ?_
            refine g_lshl 155 hM rfl rfl (zR_lit rfl) ?_
            refine g_aload_n 156 hM rfl rfl rfl ?_
            refine g_iload 158 hM rfl rfl rfl ?_
            refine g_iconst 159 hM rfl rfl ?_
            refine g_iadd 160 hM rfl rfl ?_
            refine g_kiaload 161 hM rfl rfl hL hg7 ?_
            refine g_i2l 162 hM rfl rfl (zR_toInt _) ?_
            refine g_ldc2 165 (4294967295#64) hM rfl rfl rfl (by decide) ?_
            refine g_land 166 hM rfl rfl ?_
            refine g_lor 167 hM rfl rfl ?_
            refine g_aload_n 168 hM rfl rfl rfl ?_
            refine g_iload 170 hM rfl rfl rfl ?_
            refine g_iconst 171 hM rfl rfl ?_
            refine g_iadd 172 hM rfl rfl ?_
            refine g_kiaload 173 hM rfl rfl hL hg8 ?_
            refine g_aload_n 174 hM rfl rfl rfl ?_
            refine g_call 177 _ [.int (Int32.ofInt r10)] hM rfl rfl rfl rfl rfl (xM_2 _) rfl rfl rfl rfl (by omega) hzx12 rfl ?_
            refine g_istore 179 hM rfl rfl rfl ?_
            refine g_aload_n 180 hM rfl rfl rfl ?_
            refine g_aload_n 181 hM rfl rfl rfl ?_
            refine g_iload 183 hM rfl rfl rfl ?_
            refine g_iconst 184 hM rfl rfl ?_
            refine g_iadd 185 hM rfl rfl ?_
            refine g_kiaload 186 hM rfl rfl hL hg6 ?_
            refine g_i2l 187 hM rfl rfl (zR_toInt _) ?_
            refine g_bipush 189 hM rfl rfl rfl ?_
            refine g_lshl 190 hM rfl rfl (zR_lit rfl) ?_
            refine g_aload_n 191 hM rfl rfl rfl ?_
            refine g_iload 193 hM rfl rfl rfl ?_
            refine g_iconst 194 hM rfl rfl ?_
            refine g_iadd 195 hM rfl rfl ?_
            refine g_kiaload 196 hM rfl rfl hL hg7 ?_
            refine g_i2l 197 hM rfl rfl (zR_toInt _) ?_
            refine g_ldc2 200 (4294967295#64) hM rfl rfl rfl (by decide) ?_
            refine g_land 201 hM rfl rfl ?_
            refine g_lor 202 hM rfl rfl ?_
            refine g_aload_n 203 hM rfl rfl rfl ?_
            refine g_iload 205 hM rfl rfl rfl ?_
            refine g_iconst 206 hM rfl rfl ?_
            refine g_iadd 207 hM rfl rfl ?_
            refine g_kiaload 208 hM rfl rfl hL hg8 ?_
            refine g_call 211 _ [.int (Int32.ofInt r14)] hM rfl rfl rfl rfl rfl (xM_143 _) rfl (z_rcv2 rfl) rfl rfl (by omega) (w_143 (by omega) h13) rfl ?_
            refine g_istore 213 hM rfl rfl rfl ?_
            refine g_aload_n 214 hM rfl rfl rfl ?_
            refine g_call 217 _ [.int (Int32.ofInt r17)] hM rfl rfl rfl rfl rfl (xM_142 _) rfl (z_rcv2 rfl) rfl rfl (by omega) (w_142 (by omega) h16) rfl ?_
            refine g_iload 219 hM rfl rfl rfl ?_
            refine g_ic_eq_t 224 hM rfl rfl hg18 hg19 hc20 ?_
            refine g_iload 226 hM rfl rfl rfl ?_
            refine g_if_ne_f 229 241 hM rfl rfl rfl hg19 hc21 ?_
            refine g_aload_n 230 hM rfl rfl rfl ?_
            refine g_iconst 231 hM rfl rfl ?_
            refine g_laload 232 (gJ s15 205 0) hM rfl rfl rfl rfl ⟨by decide, by decide⟩ rfl ?_
            refine g_iload 234 hM rfl rfl rfl ?_
            refine g_i2l 235 hM rfl rfl hg22 ?_
            refine g_lc_eq_t 236 241 hM rfl rfl rfl rfl hc23 ?_
            refine g_goto 1026 hM rfl rfl ?_
            refine g_iinc 1029 hM rfl rfl rfl rfl ?_
            refine g_goto 33 hM rfl rfl ?_
            exact g_lv [(0, .ref (am_big + 0)), (1, .ref 0), (2, .ref 177), (3, .ref 205), (4, .int (Int32.ofInt (v4 + 4)))] rfl ⟨rfl, rfl, rfl, rfl, rfl, trivial⟩ hK
          · rw [if_neg hc23] at h
            cases h
            refine ⟨x12, hxx12, fun r hK => ?_⟩
            refine g_iload 35 hM rfl rfl rfl ?_
            refine g_aload_n 36 hM rfl rfl rfl ?_
            refine g_kalenX 37 hM rfl rfl ?_
            refine g_iconst 38 hM rfl rfl ?_
            refine g_isub 39 hM rfl rfl ?_
            refine g_ic_gt_f 42 1032 hM rfl rfl rfl hg1 hg2 hc3 ?_
            refine g_aload_n 43 hM rfl rfl rfl ?_
            refine g_iload 45 hM rfl rfl rfl ?_
            refine g_kiaload 46 hM rfl rfl hL hg4 ?_
            refine g_bipush 48 hM rfl rfl rfl ?_
            refine g_iand 49 hM rfl rfl ?_
            refine g_tsw 144 hM rfl (zR_and _ _) hc5 rfl rfl rfl ?_
            refine g_aload_n 145 hM rfl rfl rfl ?_
            refine g_aload_n 146 hM rfl rfl rfl ?_
            refine g_iload 148 hM rfl rfl rfl ?_
            refine g_iconst 149 hM rfl rfl ?_
            refine g_iadd 150 hM rfl rfl ?_
            refine g_kiaload 151 hM rfl rfl hL hg6 ?_
            refine g_i2l 152 hM rfl rfl (zR_toInt _) ?_
            refine g_bipush 154 hM rfl rfl rfl ?_
            refine g_lshl 155 hM rfl rfl (zR_lit rfl) ?_
            refine g_aload_n 156 hM rfl rfl rfl ?_
            refine g_iload 158 hM rfl rfl rfl ?_
            refine g_iconst 159 hM rfl rfl ?_
            refine g_iadd 160 hM rfl rfl ?_
            refine g_kiaload 161 hM rfl rfl hL hg7 ?_
            refine g_i2l 162 hM rfl rfl (zR_toInt _) ?_
            refine g_ldc2 165 (4294967295#64) hM rfl rfl rfl (by decide) ?_
            refine g_land 166 hM rfl rfl ?_
            refine g_lor 167 hM rfl rfl ?_
            refine g_aload_n 168 hM rfl rfl rfl ?_
            refine g_iload 170 hM rfl rfl rfl ?_
            refine g_iconst 171 hM rfl rfl ?_
            refine g_iadd 172 hM rfl rfl ?_
            refine g_kiaload 173 hM rfl rfl hL hg8 ?_
            refine g_aload_n 174 hM rfl rfl rfl ?_
            refine g_call 177 _ [.int (Int32.ofInt r10)] hM rfl rfl rfl rfl rfl (xM_2 _) rfl rfl rfl rfl (by omega) hzx12 rfl ?_
            refine g_istore 179 hM rfl rfl rfl ?_
            refine g_aload_n 180 hM rfl rfl rfl ?_
            refine g_aload_n 181 hM rfl rfl rfl ?_
            refine g_iload 183 hM rfl rfl rfl ?_
            refine g_iconst 184 hM rfl rfl ?_
            refine g_iadd 185 hM rfl rfl ?_
            refine g_kiaload 186 hM rfl rfl hL hg6 ?_
            refine g_i2l 187 hM rfl rfl (zR_toInt _) ?_
            refine g_bipush 189 hM rfl rfl rfl ?_
            refine g_lshl 190 hM rfl rfl (zR_lit rfl) ?_
            refine g_aload_n 191 hM rfl rfl rfl ?_
            refine g_iload 193 hM rfl rfl rfl ?_
            refine g_iconst 194 hM rfl rfl ?_
            refine g_iadd 195 hM rfl rfl ?_
            refine g_kiaload 196 hM rfl rfl hL hg7 ?_
            refine g_i2l 197 hM rfl rfl (zR_toInt _) ?_
            refine g_ldc2 200 (4294967295#64) hM rfl rfl rfl (by decide) ?_
            refine g_land 201 hM rfl rfl ?_
            refine g_lor 202 hM rfl rfl ?_
            refine g_aload_n 203 hM rfl rfl rfl ?_
            refine g_iload 205 hM rfl rfl rfl ?_
            refine g_iconst 206 hM rfl rfl ?_
            refine g_iadd 207 hM rfl rfl ?_
            refine g_kiaload 208 hM rfl rfl hL hg8 ?_
            refine g_call 211 _ [.int (Int32.ofInt r14)] hM rfl rfl rfl rfl rfl (xM_143 _) rfl (z_rcv2 rfl) rfl rfl (by omega) (w_143 (by omega) h13) rfl ?_
            refine g_istore 213 hM rfl rfl rfl ?_
            refine g_aload_n 214 hM rfl rfl rfl ?_
            refine g_call 217 _ [.int (Int32.ofInt r17)] hM rfl rfl rfl rfl rfl (xM_142 _) rfl (z_rcv2 rfl) rfl rfl (by omega) (w_142 (by omega) h16) rfl ?_
            refine g_iload 219 hM rfl rfl rfl ?_
            refine g_ic_eq_t 224 hM rfl rfl hg18 hg19 hc20 ?_
            refine g_iload 226 hM rfl rfl rfl ?_
            refine g_if_ne_f 229 241 hM rfl rfl rfl hg19 hc21 ?_
            refine g_aload_n 230 hM rfl rfl rfl ?_
            refine g_iconst 231 hM rfl rfl ?_
            refine g_laload 232 (gJ s15 205 0) hM rfl rfl rfl rfl ⟨by decide, by decide⟩ rfl ?_
            refine g_iload 234 hM rfl rfl rfl ?_
            refine g_i2l 235 hM rfl rfl hg22 ?_
            refine g_lc_eq_f 236 239 241 hM rfl rfl rfl rfl rfl hc23 ?_
            refine g_iconst 240 hM rfl rfl ?_
            rw [show r = _ from hK]
            exact g_ret hM rfl rfl
        · rw [if_neg hc21] at h
          cases h
          refine ⟨x12, hxx12, fun r hK => ?_⟩
          refine g_iload 35 hM rfl rfl rfl ?_
          refine g_aload_n 36 hM rfl rfl rfl ?_
          refine g_kalenX 37 hM rfl rfl ?_
          refine g_iconst 38 hM rfl rfl ?_
          refine g_isub 39 hM rfl rfl ?_
          refine g_ic_gt_f 42 1032 hM rfl rfl rfl hg1 hg2 hc3 ?_
          refine g_aload_n 43 hM rfl rfl rfl ?_
          refine g_iload 45 hM rfl rfl rfl ?_
          refine g_kiaload 46 hM rfl rfl hL hg4 ?_
          refine g_bipush 48 hM rfl rfl rfl ?_
          refine g_iand 49 hM rfl rfl ?_
          refine g_tsw 144 hM rfl (zR_and _ _) hc5 rfl rfl rfl ?_
          refine g_aload_n 145 hM rfl rfl rfl ?_
          refine g_aload_n 146 hM rfl rfl rfl ?_
          refine g_iload 148 hM rfl rfl rfl ?_
          refine g_iconst 149 hM rfl rfl ?_
          refine g_iadd 150 hM rfl rfl ?_
          refine g_kiaload 151 hM rfl rfl hL hg6 ?_
          refine g_i2l 152 hM rfl rfl (zR_toInt _) ?_
          refine g_bipush 154 hM rfl rfl rfl ?_
          refine g_lshl 155 hM rfl rfl (zR_lit rfl) ?_
          refine g_aload_n 156 hM rfl rfl rfl ?_
          refine g_iload 158 hM rfl rfl rfl ?_
          refine g_iconst 159 hM rfl rfl ?_
          refine g_iadd 160 hM rfl rfl ?_
          refine g_kiaload 161 hM rfl rfl hL hg7 ?_
          refine g_i2l 162 hM rfl rfl (zR_toInt _) ?_
          refine g_ldc2 165 (4294967295#64) hM rfl rfl rfl (by decide) ?_
          refine g_land 166 hM rfl rfl ?_
          refine g_lor 167 hM rfl rfl ?_
          refine g_aload_n 168 hM rfl rfl rfl ?_
          refine g_iload 170 hM rfl rfl rfl ?_
          refine g_iconst 171 hM rfl rfl ?_
          refine g_iadd 172 hM rfl rfl ?_
          refine g_kiaload 173 hM rfl rfl hL hg8 ?_
          refine g_aload_n 174 hM rfl rfl rfl ?_
          refine g_call 177 _ [.int (Int32.ofInt r10)] hM rfl rfl rfl rfl rfl (xM_2 _) rfl rfl rfl rfl (by omega) hzx12 rfl ?_
          refine g_istore 179 hM rfl rfl rfl ?_
          refine g_aload_n 180 hM rfl rfl rfl ?_
          refine g_aload_n 181 hM rfl rfl rfl ?_
          refine g_iload 183 hM rfl rfl rfl ?_
          refine g_iconst 184 hM rfl rfl ?_
          refine g_iadd 185 hM rfl rfl ?_
          refine g_kiaload 186 hM rfl rfl hL hg6 ?_
          refine g_i2l 187 hM rfl rfl (zR_toInt _) ?_
          refine g_bipush 189 hM rfl rfl rfl ?_
          refine g_lshl 190 hM rfl rfl (zR_lit rfl) ?_
          refine g_aload_n 191 hM rfl rfl rfl ?_
          refine g_iload 193 hM rfl rfl rfl ?_
          refine g_iconst 194 hM rfl rfl ?_
          refine g_iadd 195 hM rfl rfl ?_
          refine g_kiaload 196 hM rfl rfl hL hg7 ?_
          refine g_i2l 197 hM rfl rfl (zR_toInt _) ?_
          refine g_ldc2 200 (4294967295#64) hM rfl rfl rfl (by decide) ?_
          refine g_land 201 hM rfl rfl ?_
          refine g_lor 202 hM rfl rfl ?_
          refine g_aload_n 203 hM rfl rfl rfl ?_
          refine g_iload 205 hM rfl rfl rfl ?_
          refine g_iconst 206 hM rfl rfl ?_
          refine g_iadd 207 hM rfl rfl ?_
          refine g_kiaload 208 hM rfl rfl hL hg8 ?_
          refine g_call 211 _ [.int (Int32.ofInt r14)] hM rfl rfl rfl rfl rfl (xM_143 _) rfl (z_rcv2 rfl) rfl rfl (by omega) (w_143 (by omega) h13) rfl ?_
          refine g_istore 213 hM rfl rfl rfl ?_
          refine g_aload_n 214 hM rfl rfl rfl ?_
          refine g_call 217 _ [.int (Int32.ofInt r17)] hM rfl rfl rfl rfl rfl (xM_142 _) rfl (z_rcv2 rfl) rfl rfl (by omega) (w_142 (by omega) h16) rfl ?_
          refine g_iload 219 hM rfl rfl rfl ?_
          refine g_ic_eq_t 224 hM rfl rfl hg18 hg19 hc20 ?_
          refine g_iload 226 hM rfl rfl rfl ?_
          refine g_if_ne_t 241 hM rfl rfl hg19 hc21 ?_
          refine g_goto 1026 hM rfl rfl ?_
          refine g_iinc 1029 hM rfl rfl rfl rfl ?_
          refine g_goto 33 hM rfl rfl ?_
          exact g_lv [(0, .ref (am_big + 0)), (1, .ref 0), (2, .ref 177), (3, .ref 205), (4, .int (Int32.ofInt (v4 + 4)))] rfl ⟨rfl, rfl, rfl, rfl, rfl, trivial⟩ hK
      · rw [if_neg hc20] at h
        cases h
        refine ⟨x12, hxx12, fun r hK => ?_⟩
        refine g_iload 35 hM rfl rfl rfl ?_
        refine g_aload_n 36 hM rfl rfl rfl ?_
        refine g_kalenX 37 hM rfl rfl ?_
        refine g_iconst 38 hM rfl rfl ?_
        refine g_isub 39 hM rfl rfl ?_
        refine g_ic_gt_f 42 1032 hM rfl rfl rfl hg1 hg2 hc3 ?_
        refine g_aload_n 43 hM rfl rfl rfl ?_
        refine g_iload 45 hM rfl rfl rfl ?_
        refine g_kiaload 46 hM rfl rfl hL hg4 ?_
        refine g_bipush 48 hM rfl rfl rfl ?_
        refine g_iand 49 hM rfl rfl ?_
        refine g_tsw 144 hM rfl (zR_and _ _) hc5 rfl rfl rfl ?_
        refine g_aload_n 145 hM rfl rfl rfl ?_
        refine g_aload_n 146 hM rfl rfl rfl ?_
        refine g_iload 148 hM rfl rfl rfl ?_
        refine g_iconst 149 hM rfl rfl ?_
        refine g_iadd 150 hM rfl rfl ?_
        refine g_kiaload 151 hM rfl rfl hL hg6 ?_
        refine g_i2l 152 hM rfl rfl (zR_toInt _) ?_
        refine g_bipush 154 hM rfl rfl rfl ?_
        refine g_lshl 155 hM rfl rfl (zR_lit rfl) ?_
        refine g_aload_n 156 hM rfl rfl rfl ?_
        refine g_iload 158 hM rfl rfl rfl ?_
        refine g_iconst 159 hM rfl rfl ?_
        refine g_iadd 160 hM rfl rfl ?_
        refine g_kiaload 161 hM rfl rfl hL hg7 ?_
        refine g_i2l 162 hM rfl rfl (zR_toInt _) ?_
        refine g_ldc2 165 (4294967295#64) hM rfl rfl rfl (by decide) ?_
        refine g_land 166 hM rfl rfl ?_
        refine g_lor 167 hM rfl rfl ?_
        refine g_aload_n 168 hM rfl rfl rfl ?_
        refine g_iload 170 hM rfl rfl rfl ?_
        refine g_iconst 171 hM rfl rfl ?_
        refine g_iadd 172 hM rfl rfl ?_
        refine g_kiaload 173 hM rfl rfl hL hg8 ?_
        refine g_aload_n 174 hM rfl rfl rfl ?_
        refine g_call 177 _ [.int (Int32.ofInt r10)] hM rfl rfl rfl rfl rfl (xM_2 _) rfl rfl rfl rfl (by omega) hzx12 rfl ?_
        refine g_istore 179 hM rfl rfl rfl ?_
        refine g_aload_n 180 hM rfl rfl rfl ?_
        refine g_aload_n 181 hM rfl rfl rfl ?_
        refine g_iload 183 hM rfl rfl rfl ?_
        refine g_iconst 184 hM rfl rfl ?_
        refine g_iadd 185 hM rfl rfl ?_
        refine g_kiaload 186 hM rfl rfl hL hg6 ?_
        refine g_i2l 187 hM rfl rfl (zR_toInt _) ?_
        refine g_bipush 189 hM rfl rfl rfl ?_
        refine g_lshl 190 hM rfl rfl (zR_lit rfl) ?_
        refine g_aload_n 191 hM rfl rfl rfl ?_
        refine g_iload 193 hM rfl rfl rfl ?_
        refine g_iconst 194 hM rfl rfl ?_
        refine g_iadd 195 hM rfl rfl ?_
        refine g_kiaload 196 hM rfl rfl hL hg7 ?_
        refine g_i2l 197 hM rfl rfl (zR_toInt _) ?_
        refine g_ldc2 200 (4294967295#64) hM rfl rfl rfl (by decide) ?_
        refine g_land 201 hM rfl rfl ?_
        refine g_lor 202 hM rfl rfl ?_
        refine g_aload_n 203 hM rfl rfl rfl ?_
        refine g_iload 205 hM rfl rfl rfl ?_
        refine g_iconst 206 hM rfl rfl ?_
        refine g_iadd 207 hM rfl rfl ?_
        refine g_kiaload 208 hM rfl rfl hL hg8 ?_
        refine g_call 211 _ [.int (Int32.ofInt r14)] hM rfl rfl rfl rfl rfl (xM_143 _) rfl (z_rcv2 rfl) rfl rfl (by omega) (w_143 (by omega) h13) rfl ?_
        refine g_istore 213 hM rfl rfl rfl ?_
        refine g_aload_n 214 hM rfl rfl rfl ?_
        refine g_call 217 _ [.int (Int32.ofInt r17)] hM rfl rfl rfl rfl rfl (xM_142 _) rfl (z_rcv2 rfl) rfl rfl (by omega) (w_142 (by omega) h16) rfl ?_
        refine g_iload 219 hM rfl rfl rfl ?_
        refine g_ic_eq_f 222 224 hM rfl rfl rfl hg18 hg19 hc20 ?_
        refine g_iconst 223 hM rfl rfl ?_
        rw [show r = _ from hK]
        exact g_ret hM rfl rfl
    · rw [if_neg hc5] at h
      by_cases hc24 : t_0_49 (zand (gX k v4) 31) = 244
      · rw [if_pos hc24] at h
        obtain ⟨hg25, h⟩ := zg_some h
        by_cases hc26 : (gX k (v4 + 1)) = 0
        · rw [if_pos hc26] at h
          obtain ⟨r28, h27, h⟩ := zo_some h
          by_cases hc29 : (gX k (v4 + 1)) = 0
          · rw [if_pos hc29] at h
            obtain ⟨r31, s32, h30, h⟩ := zb_some h
            obtain ⟨hg33, h⟩ := zg_some h
            obtain ⟨hg34, h⟩ := zg_some h
            by_cases hc35 : r28 = r31
            · rw [if_pos hc35] at h
              cases h
              refine ⟨x, Or.inl rfl, fun r hK => ?_⟩
              refine g_iload 35 hM rfl rfl rfl ?_
              refine g_aload_n 36 hM rfl rfl rfl ?_
              refine g_kalenX 37 hM rfl rfl ?_
              refine g_iconst 38 hM rfl rfl ?_
              refine g_isub 39 hM rfl rfl ?_
              refine g_ic_gt_f 42 1032 hM rfl rfl rfl hg1 hg2 hc3 ?_
              refine g_aload_n 43 hM rfl rfl rfl ?_
              refine g_iload 45 hM rfl rfl rfl ?_
              refine g_kiaload 46 hM rfl rfl hL hg4 ?_
              refine g_bipush 48 hM rfl rfl rfl ?_
              refine g_iand 49 hM rfl rfl ?_
              refine g_tsw 244 hM rfl (zR_and _ _) hc24 rfl rfl rfl ?_
              refine g_aload_n 245 hM rfl rfl rfl ?_
              refine g_aload_n 246 hM rfl rfl rfl ?_
              refine g_iload 248 hM rfl rfl rfl ?_
              refine g_iconst 249 hM rfl rfl ?_
              refine g_iadd 250 hM rfl rfl ?_
              refine g_kiaload 251 hM rfl rfl hL hg25 ?_
              refine g_if_eq_t 258 hM rfl rfl (zR_toInt _) hc26 ?_
              refine g_iconst 259 hM rfl rfl ?_
              refine g_call 262 _ [.int (Int32.ofInt r28)] hM rfl rfl rfl rfl rfl (xM_15 _) rfl (z_rcv2 rfl) rfl rfl (by omega) (w_15 (by omega) h27) rfl ?_
              refine g_aload_n 263 hM rfl rfl rfl ?_
              refine g_aload_n 264 hM rfl rfl rfl ?_
              refine g_iload 266 hM rfl rfl rfl ?_
              refine g_iconst 267 hM rfl rfl ?_
              refine g_iadd 268 hM rfl rfl ?_
              refine g_kiaload 269 hM rfl rfl hL hg25 ?_
              refine g_if_eq_t 276 hM rfl rfl (zR_toInt _) hc29 ?_
              refine g_iconst 277 hM rfl rfl ?_
              refine g_call 280 _ [.int (Int32.ofInt r31), .int (Int32.ofInt r28)] hM rfl rfl rfl rfl rfl (xM_144 _) rfl (z_rcv2 rfl) rfl rfl (by omega) (w_144 (by omega) h30) rfl ?_
              refine g_ic_eq_t 1026 hM rfl rfl hg33 hg34 hc35 ?_
              refine g_iinc 1029 hM rfl rfl rfl rfl ?_
              refine g_goto 33 hM rfl rfl ?_
              exact g_lv [(0, .ref (am_big + 0)), (1, .ref 0), (2, .ref 177), (3, .ref 205), (4, .int (Int32.ofInt (v4 + 4)))] rfl ⟨rfl, rfl, rfl, rfl, rfl, trivial⟩ hK
            · rw [if_neg hc35] at h
              cases h
              refine ⟨x, Or.inl rfl, fun r hK => ?_⟩
              refine g_iload 35 hM rfl rfl rfl ?_
              refine g_aload_n 36 hM rfl rfl rfl ?_
              refine g_kalenX 37 hM rfl rfl ?_
              refine g_iconst 38 hM rfl rfl ?_
              refine g_isub 39 hM rfl rfl ?_
              refine g_ic_gt_f 42 1032 hM rfl rfl rfl hg1 hg2 hc3 ?_
              refine g_aload_n 43 hM rfl rfl rfl ?_
              refine g_iload 45 hM rfl rfl rfl ?_
              refine g_kiaload 46 hM rfl rfl hL hg4 ?_
              refine g_bipush 48 hM rfl rfl rfl ?_
              refine g_iand 49 hM rfl rfl ?_
              refine g_tsw 244 hM rfl (zR_and _ _) hc24 rfl rfl rfl ?_
              refine g_aload_n 245 hM rfl rfl rfl ?_
              refine g_aload_n 246 hM rfl rfl rfl ?_
              refine g_iload 248 hM rfl rfl rfl ?_
              refine g_iconst 249 hM rfl rfl ?_
              refine g_iadd 250 hM rfl rfl ?_
              refine g_kiaload 251 hM rfl rfl hL hg25 ?_
              refine g_if_eq_t 258 hM rfl rfl (zR_toInt _) hc26 ?_
              refine g_iconst 259 hM rfl rfl ?_
              refine g_call 262 _ [.int (Int32.ofInt r28)] hM rfl rfl rfl rfl rfl (xM_15 _) rfl (z_rcv2 rfl) rfl rfl (by omega) (w_15 (by omega) h27) rfl ?_
              refine g_aload_n 263 hM rfl rfl rfl ?_
              refine g_aload_n 264 hM rfl rfl rfl ?_
              refine g_iload 266 hM rfl rfl rfl ?_
              refine g_iconst 267 hM rfl rfl ?_
              refine g_iadd 268 hM rfl rfl ?_
              refine g_kiaload 269 hM rfl rfl hL hg25 ?_
              refine g_if_eq_t 276 hM rfl rfl (zR_toInt _) hc29 ?_
              refine g_iconst 277 hM rfl rfl ?_
              refine g_call 280 _ [.int (Int32.ofInt r31), .int (Int32.ofInt r28)] hM rfl rfl rfl rfl rfl (xM_144 _) rfl (z_rcv2 rfl) rfl rfl (by omega) (w_144 (by omega) h30) rfl ?_
              refine g_ic_eq_f 283 1026 hM rfl rfl rfl hg33 hg34 hc35 ?_
              refine g_iconst 284 hM rfl rfl ?_
              rw [show r = _ from hK]
              exact g_ret hM rfl rfl
          · rw [if_neg hc29] at h
            obtain ⟨r37, s38, h36, h⟩ := zb_some h
            obtain ⟨hg39, h⟩ := zg_some h
            obtain ⟨hg40, h⟩ := zg_some h
            by_cases hc41 : r28 = r37
            · rw [if_pos hc41] at h
              cases h
              refine ⟨x, Or.inl rfl, fun r hK => ?_⟩
              refine g_iload 35 hM rfl rfl rfl ?_
              refine g_aload_n 36 hM rfl rfl rfl ?_
              refine g_kalenX 37 hM rfl rfl ?_
              refine g_iconst 38 hM rfl rfl ?_
              refine g_isub 39 hM rfl rfl ?_
              refine g_ic_gt_f 42 1032 hM rfl rfl rfl hg1 hg2 hc3 ?_
              refine g_aload_n 43 hM rfl rfl rfl ?_
              refine g_iload 45 hM rfl rfl rfl ?_
              refine g_kiaload 46 hM rfl rfl hL hg4 ?_
              refine g_bipush 48 hM rfl rfl rfl ?_
              refine g_iand 49 hM rfl rfl ?_
              refine g_tsw 244 hM rfl (zR_and _ _) hc24 rfl rfl rfl ?_
              refine g_aload_n 245 hM rfl rfl rfl ?_
              refine g_aload_n 246 hM rfl rfl rfl ?_
              refine g_iload 248 hM rfl rfl rfl ?_
              refine g_iconst 249 hM rfl rfl ?_
              refine g_iadd 250 hM rfl rfl ?_
              refine g_kiaload 251 hM rfl rfl hL hg25 ?_
              refine g_if_eq_t 258 hM rfl rfl (zR_toInt _) hc26 ?_
              refine g_iconst 259 hM rfl rfl ?_
              refine g_call 262 _ [.int (Int32.ofInt r28)] hM rfl rfl rfl rfl rfl (xM_15 _) rfl (z_rcv2 rfl) rfl rfl (by omega) (w_15 (by omega) h27) rfl ?_
              refine g_aload_n 263 hM rfl rfl rfl ?_
              refine g_aload_n 264 hM rfl rfl rfl ?_
              refine g_iload 266 hM rfl rfl rfl ?_
              refine g_iconst 267 hM rfl rfl ?_
              refine g_iadd 268 hM rfl rfl ?_
              refine g_kiaload 269 hM rfl rfl hL hg25 ?_
              refine g_if_eq_f 272 276 hM rfl rfl rfl (zR_toInt _) hc29 ?_
              refine g_iconst 273 hM rfl rfl ?_
              refine g_goto 277 hM rfl rfl ?_
              refine g_call 280 _ [.int (Int32.ofInt r37), .int (Int32.ofInt r28)] hM rfl rfl rfl rfl rfl (xM_144 _) rfl (z_rcv2 rfl) rfl rfl (by omega) (w_144 (by omega) h36) rfl ?_
              refine g_ic_eq_t 1026 hM rfl rfl hg39 hg40 hc41 ?_
              refine g_iinc 1029 hM rfl rfl rfl rfl ?_
              refine g_goto 33 hM rfl rfl ?_
              exact g_lv [(0, .ref (am_big + 0)), (1, .ref 0), (2, .ref 177), (3, .ref 205), (4, .int (Int32.ofInt (v4 + 4)))] rfl ⟨rfl, rfl, rfl, rfl, rfl, trivial⟩ hK
            · rw [if_neg hc41] at h
              cases h
              refine ⟨x, Or.inl rfl, fun r hK => ?_⟩
              refine g_iload 35 hM rfl rfl rfl ?_
              refine g_aload_n 36 hM rfl rfl rfl ?_
              refine g_kalenX 37 hM rfl rfl ?_
              refine g_iconst 38 hM rfl rfl ?_
              refine g_isub 39 hM rfl rfl ?_
              refine g_ic_gt_f 42 1032 hM rfl rfl rfl hg1 hg2 hc3 ?_
              refine g_aload_n 43 hM rfl rfl rfl ?_
              refine g_iload 45 hM rfl rfl rfl ?_
              refine g_kiaload 46 hM rfl rfl hL hg4 ?_
              refine g_bipush 48 hM rfl rfl rfl ?_
              refine g_iand 49 hM rfl rfl ?_
              refine g_tsw 244 hM rfl (zR_and _ _) hc24 rfl rfl rfl ?_
              refine g_aload_n 245 hM rfl rfl rfl ?_
              refine g_aload_n 246 hM rfl rfl rfl ?_
              refine g_iload 248 hM rfl rfl rfl ?_
              refine g_iconst 249 hM rfl rfl ?_
              refine g_iadd 250 hM rfl rfl ?_
              refine g_kiaload 251 hM rfl rfl hL hg25 ?_
              refine g_if_eq_t 258 hM rfl rfl (zR_toInt _) hc26 ?_
              refine g_iconst 259 hM rfl rfl ?_
              refine g_call 262 _ [.int (Int32.ofInt r28)] hM rfl rfl rfl rfl rfl (xM_15 _) rfl (z_rcv2 rfl) rfl rfl (by omega) (w_15 (by omega) h27) rfl ?_
              refine g_aload_n 263 hM rfl rfl rfl ?_
              refine g_aload_n 264 hM rfl rfl rfl ?_
              refine g_iload 266 hM rfl rfl rfl ?_
              refine g_iconst 267 hM rfl rfl ?_
              refine g_iadd 268 hM rfl rfl ?_
              refine g_kiaload 269 hM rfl rfl hL hg25 ?_
              refine g_if_eq_f 272 276 hM rfl rfl rfl (zR_toInt _) hc29 ?_
              refine g_iconst 273 hM rfl rfl ?_
              refine g_goto 277 hM rfl rfl ?_
              refine g_call 280 _ [.int (Int32.ofInt r37), .int (Int32.ofInt r28)] hM rfl rfl rfl rfl rfl (xM_144 _) rfl (z_rcv2 rfl) rfl rfl (by omega) (w_144 (by omega) h36) rfl ?_
              refine g_ic_eq_f 283 1026 hM rfl rfl rfl hg39 hg40 hc41 ?_
              refine g_iconst 284 hM rfl rfl ?_
              rw [show r = _ from hK]
              exact g_ret hM rfl rfl
        · rw [if_neg hc26] at h
          obtain ⟨r43, h42, h⟩ := zo_some h
          by_cases hc44 : (gX k (v4 + 1)) = 0
          · rw [if_pos hc44] at h
            obtain ⟨r46, s47, h45, h⟩ := zb_some h
            obtain ⟨hg48, h⟩ := zg_some h
            obtain ⟨hg49, h⟩ := zg_some h
            by_cases hc50 : r43 = r46
            · rw [if_pos hc50] at h
              cases h
              refine ⟨x, Or.inl rfl, fun r hK => ?_⟩
              refine g_iload 35 hM rfl rfl rfl ?_
              refine g_aload_n 36 hM rfl rfl rfl ?_
              refine g_kalenX 37 hM rfl rfl ?_
              refine g_iconst 38 hM rfl rfl ?_
              refine g_isub 39 hM rfl rfl ?_
              refine g_ic_gt_f 42 1032 hM rfl rfl rfl hg1 hg2 hc3 ?_
              refine g_aload_n 43 hM rfl rfl rfl ?_
              refine g_iload 45 hM rfl rfl rfl ?_
              refine g_kiaload 46 hM rfl rfl hL hg4 ?_
              refine g_bipush 48 hM rfl rfl rfl ?_
              refine g_iand 49 hM rfl rfl ?_
              refine g_tsw 244 hM rfl (zR_and _ _) hc24 rfl rfl rfl ?_
              refine g_aload_n 245 hM rfl rfl rfl ?_
              refine g_aload_n 246 hM rfl rfl rfl ?_
              refine g_iload 248 hM rfl rfl rfl ?_
              refine g_iconst 249 hM rfl rfl ?_
              refine g_iadd 250 hM rfl rfl ?_
              refine g_kiaload 251 hM rfl rfl hL hg25 ?_
              refine g_if_eq_f 254 258 hM rfl rfl rfl (zR_toInt _) hc26 ?_
              refine g_iconst 255 hM rfl rfl ?_
              refine g_goto 259 hM rfl rfl ?_
              refine g_call 262 _ [.int (Int32.ofInt r43)] hM rfl rfl rfl rfl rfl (xM_15 _) rfl (z_rcv2 rfl) rfl rfl (by omega) (w_15 (by omega) h42) rfl ?_
              refine g_aload_n 263 hM rfl rfl rfl ?_
              refine g_aload_n 264 hM rfl rfl rfl ?_
              refine g_iload 266 hM rfl rfl rfl ?_
              refine g_iconst 267 hM rfl rfl ?_
              refine g_iadd 268 hM rfl rfl ?_
              refine g_kiaload 269 hM rfl rfl hL hg25 ?_
              refine g_if_eq_t 276 hM rfl rfl (zR_toInt _) hc44 ?_
              refine g_iconst 277 hM rfl rfl ?_
              refine g_call 280 _ [.int (Int32.ofInt r46), .int (Int32.ofInt r43)] hM rfl rfl rfl rfl rfl (xM_144 _) rfl (z_rcv2 rfl) rfl rfl (by omega) (w_144 (by omega) h45) rfl ?_
              refine g_ic_eq_t 1026 hM rfl rfl hg48 hg49 hc50 ?_
              refine g_iinc 1029 hM rfl rfl rfl rfl ?_
              refine g_goto 33 hM rfl rfl ?_
              exact g_lv [(0, .ref (am_big + 0)), (1, .ref 0), (2, .ref 177), (3, .ref 205), (4, .int (Int32.ofInt (v4 + 4)))] rfl ⟨rfl, rfl, rfl, rfl, rfl, trivial⟩ hK
            · rw [if_neg hc50] at h
              cases h
              refine ⟨x, Or.inl rfl, fun r hK => ?_⟩
              refine g_iload 35 hM rfl rfl rfl ?_
              refine g_aload_n 36 hM rfl rfl rfl ?_
              refine g_kalenX 37 hM rfl rfl ?_
              refine g_iconst 38 hM rfl rfl ?_
              refine g_isub 39 hM rfl rfl ?_
              refine g_ic_gt_f 42 1032 hM rfl rfl rfl hg1 hg2 hc3 ?_
              refine g_aload_n 43 hM rfl rfl rfl ?_
              refine g_iload 45 hM rfl rfl rfl ?_
              refine g_kiaload 46 hM rfl rfl hL hg4 ?_
              refine g_bipush 48 hM rfl rfl rfl ?_
              refine g_iand 49 hM rfl rfl ?_
              refine g_tsw 244 hM rfl (zR_and _ _) hc24 rfl rfl rfl ?_
              refine g_aload_n 245 hM rfl rfl rfl ?_
              refine g_aload_n 246 hM rfl rfl rfl ?_
              refine g_iload 248 hM rfl rfl rfl ?_
              refine g_iconst 249 hM rfl rfl ?_
              refine g_iadd 250 hM rfl rfl ?_
              refine g_kiaload 251 hM rfl rfl hL hg25 ?_
              refine g_if_eq_f 254 258 hM rfl rfl rfl (zR_toInt _) hc26 ?_
              refine g_iconst 255 hM rfl rfl ?_
              refine g_goto 259 hM rfl rfl ?_
              refine g_call 262 _ [.int (Int32.ofInt r43)] hM rfl rfl rfl rfl rfl (xM_15 _) rfl (z_rcv2 rfl) rfl rfl (by omega) (w_15 (by omega) h42) rfl ?_
              refine g_aload_n 263 hM rfl rfl rfl ?_
              refine g_aload_n 264 hM rfl rfl rfl ?_
              refine g_iload 266 hM rfl rfl rfl ?_
              refine g_iconst 267 hM rfl rfl ?_
              refine g_iadd 268 hM rfl rfl ?_
              refine g_kiaload 269 hM rfl rfl hL hg25 ?_
              refine g_if_eq_t 276 hM rfl rfl (zR_toInt _) hc44 ?_
              refine g_iconst 277 hM rfl rfl ?_
              refine g_call 280 _ [.int (Int32.ofInt r46), .int (Int32.ofInt r43)] hM rfl rfl rfl rfl rfl (xM_144 _) rfl (z_rcv2 rfl) rfl rfl (by omega) (w_144 (by omega) h45) rfl ?_
              refine g_ic_eq_f 283 1026 hM rfl rfl rfl hg48 hg49 hc50 ?_
              refine g_iconst 284 hM rfl rfl ?_
              rw [show r = _ from hK]
              exact g_ret hM rfl rfl
          · rw [if_neg hc44] at h
            obtain ⟨r52, s53, h51, h⟩ := zb_some h
            obtain ⟨hg54, h⟩ := zg_some h
            obtain ⟨hg55, h⟩ := zg_some h
            by_cases hc56 : r43 = r52
            · rw [if_pos hc56] at h
              cases h
              refine ⟨x, Or.inl rfl, fun r hK => ?_⟩
              refine g_iload 35 hM rfl rfl rfl ?_
              refine g_aload_n 36 hM rfl rfl rfl ?_
              refine g_kalenX 37 hM rfl rfl ?_
              refine g_iconst 38 hM rfl rfl ?_
              refine g_isub 39 hM rfl rfl ?_
              refine g_ic_gt_f 42 1032 hM rfl rfl rfl hg1 hg2 hc3 ?_
              refine g_aload_n 43 hM rfl rfl rfl ?_
              refine g_iload 45 hM rfl rfl rfl ?_
              refine g_kiaload 46 hM rfl rfl hL hg4 ?_
              refine g_bipush 48 hM rfl rfl rfl ?_
              refine g_iand 49 hM rfl rfl ?_
              refine g_tsw 244 hM rfl (zR_and _ _) hc24 rfl rfl rfl ?_
              refine g_aload_n 245 hM rfl rfl rfl ?_
              refine g_aload_n 246 hM rfl rfl rfl ?_
              refine g_iload 248 hM rfl rfl rfl ?_
              refine g_iconst 249 hM rfl rfl ?_
              refine g_iadd 250 hM rfl rfl ?_
              refine g_kiaload 251 hM rfl rfl hL hg25 ?_
              refine g_if_eq_f 254 258 hM rfl rfl rfl (zR_toInt _) hc26 ?_
              refine g_iconst 255 hM rfl rfl ?_
              refine g_goto 259 hM rfl rfl ?_
              refine g_call 262 _ [.int (Int32.ofInt r43)] hM rfl rfl rfl rfl rfl (xM_15 _) rfl (z_rcv2 rfl) rfl rfl (by omega) (w_15 (by omega) h42) rfl ?_
              refine g_aload_n 263 hM rfl rfl rfl ?_
              refine g_aload_n 264 hM rfl rfl rfl ?_
              refine g_iload 266 hM rfl rfl rfl ?_
              refine g_iconst 267 hM rfl rfl ?_
              refine g_iadd 268 hM rfl rfl ?_
              refine g_kiaload 269 hM rfl rfl hL hg25 ?_
              refine g_if_eq_f 272 276 hM rfl rfl rfl (zR_toInt _) hc44 ?_
              refine g_iconst 273 hM rfl rfl ?_
              refine g_goto 277 hM rfl rfl ?_
              refine g_call 280 _ [.int (Int32.ofInt r52), .int (Int32.ofInt r43)] hM rfl rfl rfl rfl rfl (xM_144 _) rfl (z_rcv2 rfl) rfl rfl (by omega) (w_144 (by omega) h51) rfl ?_
              refine g_ic_eq_t 1026 hM rfl rfl hg54 hg55 hc56 ?_
              refine g_iinc 1029 hM rfl rfl rfl rfl ?_
              refine g_goto 33 hM rfl rfl ?_
              exact g_lv [(0, .ref (am_big + 0)), (1, .ref 0), (2, .ref 177), (3, .ref 205), (4, .int (Int32.ofInt (v4 + 4)))] rfl ⟨rfl, rfl, rfl, rfl, rfl, trivial⟩ hK
            · rw [if_neg hc56] at h
              cases h
              refine ⟨x, Or.inl rfl, fun r hK => ?_⟩
              refine g_iload 35 hM rfl rfl rfl ?_
              refine g_aload_n 36 hM rfl rfl rfl ?_
              refine g_kalenX 37 hM rfl rfl ?_
              refine g_iconst 38 hM rfl rfl ?_
              refine g_isub 39 hM rfl rfl ?_
              refine g_ic_gt_f 42 1032 hM rfl rfl rfl hg1 hg2 hc3 ?_
              refine g_aload_n 43 hM rfl rfl rfl ?_
              refine g_iload 45 hM rfl rfl rfl ?_
              refine g_kiaload 46 hM rfl rfl hL hg4 ?_
              refine g_bipush 48 hM rfl rfl rfl ?_
              refine g_iand 49 hM rfl rfl ?_
              refine g_tsw 244 hM rfl (zR_and _ _) hc24 rfl rfl rfl ?_
              refine g_aload_n 245 hM rfl rfl rfl ?_
              refine g_aload_n 246 hM rfl rfl rfl ?_
              refine g_iload 248 hM rfl rfl rfl ?_
              refine g_iconst 249 hM rfl rfl ?_
              refine g_iadd 250 hM rfl rfl ?_
              refine g_kiaload 251 hM rfl rfl hL hg25 ?_
              refine g_if_eq_f 254 258 hM rfl rfl rfl (zR_toInt _) hc26 ?_
              refine g_iconst 255 hM rfl rfl ?_
              refine g_goto 259 hM rfl rfl ?_
              refine g_call 262 _ [.int (Int32.ofInt r43)] hM rfl rfl rfl rfl rfl (xM_15 _) rfl (z_rcv2 rfl) rfl rfl (by omega) (w_15 (by omega) h42) rfl ?_
              refine g_aload_n 263 hM rfl rfl rfl ?_
              refine g_aload_n 264 hM rfl rfl rfl ?_
              refine g_iload 266 hM rfl rfl rfl ?_
              refine g_iconst 267 hM rfl rfl ?_
              refine g_iadd 268 hM rfl rfl ?_
              refine g_kiaload 269 hM rfl rfl hL hg25 ?_
              refine g_if_eq_f 272 276 hM rfl rfl rfl (zR_toInt _) hc44 ?_
              refine g_iconst 273 hM rfl rfl ?_
              refine g_goto 277 hM rfl rfl ?_
              refine g_call 280 _ [.int (Int32.ofInt r52), .int (Int32.ofInt r43)] hM rfl rfl rfl rfl rfl (xM_144 _) rfl (z_rcv2 rfl) rfl rfl (by omega) (w_144 (by omega) h51) rfl ?_
              refine g_ic_eq_f 283 1026 hM rfl rfl rfl hg54 hg55 hc56 ?_
              refine g_iconst 284 hM rfl rfl ?_
              rw [show r = _ from hK]
              exact g_ret hM rfl rfl
      · rw [if_neg hc24] at h
        by_cases hc57 : t_0_49 (zand (gX k v4) 31) = 285
        · rw [if_pos hc57] at h
          obtain ⟨hg58, h⟩ := zg_some h
          obtain ⟨hg59, h⟩ := zg_some h
          obtain ⟨hg60, h⟩ := zg_some h
          obtain ⟨r62, s63, h61, h⟩ := zb_some h
          obtain ⟨x64, hxx64, hzx64⟩ := w_3 (k := k) (d := d - 1) (by omega) hxl h61
          obtain ⟨r66, s67, h65, h⟩ := zb_some h
          obtain ⟨r69, h68, h⟩ := zo_some h
          obtain ⟨hg70, h⟩ := zg_some h
          obtain ⟨hg71, h⟩ := zg_some h
          by_cases hc72 : r69 = r62
          · rw [if_pos hc72] at h
            by_cases hc73 : r62 = 0
            · rw [if_pos hc73] at h
              obtain ⟨hg74, h⟩ := zg_some h
              by_cases hc75 : (gJ s67 205 0) = (BitVec.ofInt 64 r66)
              · rw [if_pos hc75] at h
                cases h
                refine ⟨x64, hxx64, fun r hK => ?_⟩
                refine g_iload 35 hM rfl rfl rfl ?_
                refine g_aload_n 36 hM rfl rfl rfl ?_
                refine g_kalenX 37 hM rfl rfl ?_
                refine g_iconst 38 hM rfl rfl ?_
                refine g_isub 39 hM rfl rfl ?_
                refine g_ic_gt_f 42 1032 hM rfl rfl rfl hg1 hg2 hc3 ?_
                refine g_aload_n 43 hM rfl rfl rfl ?_
                refine g_iload 45 hM rfl rfl rfl ?_
                refine g_kiaload 46 hM rfl rfl hL hg4 ?_
                refine g_bipush 48 hM rfl rfl rfl ?_
                refine g_iand 49 hM rfl rfl ?_
                refine g_tsw 285 hM rfl (zR_and _ _) hc57 rfl rfl rfl ?_
                refine g_aload_n 286 hM rfl rfl rfl ?_
                refine g_aload_n 287 hM rfl rfl rfl ?_
                refine g_iload 289 hM rfl rfl rfl ?_
                refine g_iconst 290 hM rfl rfl ?_
                refine g_iadd 291 hM rfl rfl ?_
                refine g_kiaload 292 hM rfl rfl hL hg58 ?_
                refine g_i2l 293 hM rfl rfl (zR_toInt _) ?_
                refine g_bipush 295 hM rfl rfl rfl ?_
                refine g_lshl 296 hM rfl rfl (zR_lit rfl) ?_
                refine g_aload_n 297 hM rfl rfl rfl ?_
                refine g_iload 299 hM rfl rfl rfl ?_
                refine g_iconst 300 hM rfl rfl ?_
                refine g_iadd 301 hM rfl rfl ?_
                refine g_kiaload 302 hM rfl rfl hL hg59 ?_
                refine g_i2l 303 hM rfl rfl (zR_toInt _) ?_
                refine g_ldc2 306 (4294967295#64) hM rfl rfl rfl (by decide) ?_
                refine g_land 307 hM rfl rfl ?_
                refine g_lor 308 hM rfl rfl ?_
                refine g_aload_n 309 hM rfl rfl rfl ?_
                refine g_iload 311 hM rfl rfl rfl ?_
                refine g_iconst 312 hM rfl rfl ?_
                refine g_iadd 313 hM rfl rfl ?_
                refine g_kiaload 314 hM rfl rfl hL hg60 ?_
                refine g_aload_n 315 hM rfl rfl rfl ?_
                refine g_call 318 _ [.int (Int32.ofInt r62)] hM rfl rfl rfl rfl rfl (xM_3 _) rfl rfl rfl rfl (by omega) hzx64 rfl ?_
                refine g_istore 320 hM rfl rfl rfl ?_
                refine g_aload_n 321 hM rfl rfl rfl ?_
                refine g_aload_n 322 hM rfl rfl rfl ?_
                refine g_iload 324 hM rfl rfl rfl ?_
                refine g_iconst 325 hM rfl rfl ?_
                refine g_iadd 326 hM rfl rfl ?_
                refine g_kiaload 327 hM rfl rfl hL hg58 ?_
                refine g_i2l 328 hM rfl rfl (zR_toInt _) ?_
                refine g_bipush 330 hM rfl rfl rfl ?_
                refine g_lshl 331 hM rfl rfl (zR_lit rfl) ?_
                refine g_aload_n 332 hM rfl rfl rfl ?_
                refine g_iload 334 hM rfl rfl rfl ?_
                refine g_iconst 335 hM rfl rfl ?_
                refine g_iadd 336 hM rfl rfl ?_
                refine g_kiaload 337 hM rfl rfl hL hg59 ?_
                refine g_i2l 338 hM rfl rfl (zR_toInt _) ?_
                refine g_ldc2 341 (4294967295#64) hM rfl rfl rfl (by decide) ?_
                refine g_land 342 hM rfl rfl ?_
                refine g_lor 343 hM rfl rfl ?_
                refine g_aload_n 344 hM rfl rfl rfl ?_
                refine g_iload 346 hM rfl rfl rfl ?_
                refine g_iconst 347 hM rfl rfl ?_
                refine g_iadd 348 hM rfl rfl ?_
                refine g_kiaload 349 hM rfl rfl hL hg60 ?_
                refine g_call 352 _ [.int (Int32.ofInt r66)] hM rfl rfl rfl rfl rfl (xM_145 _) rfl (z_rcv2 rfl) rfl rfl (by omega) (w_145 (by omega) h65) rfl ?_
                refine g_istore 354 hM rfl rfl rfl ?_
                refine g_aload_n 355 hM rfl rfl rfl ?_
                refine g_call 358 _ [.int (Int32.ofInt r69)] hM rfl rfl rfl rfl rfl (xM_142 _) rfl (z_rcv2 rfl) rfl rfl (by omega) (w_142 (by omega) h68) rfl ?_
                refine g_iload 360 hM rfl rfl rfl ?_
                refine g_ic_eq_t 365 hM rfl rfl hg70 hg71 hc72 ?_
                refine g_iload 367 hM rfl rfl rfl ?_
                refine g_if_ne_f 370 382 hM rfl rfl rfl hg71 hc73 ?_
                refine g_aload_n 371 hM rfl rfl rfl ?_
                refine g_iconst 372 hM rfl rfl ?_
                refine g_laload 373 (gJ s67 205 0) hM rfl rfl rfl rfl ⟨by decide, by decide⟩ rfl ?_
                refine g_iload 375 hM rfl rfl rfl ?_
                refine g_i2l 376 hM rfl rfl hg74 ?_
                refine g_lc_eq_t 377 382 hM rfl rfl rfl rfl hc75 ?_
                refine g_goto 1026 hM rfl rfl ?_
                refine g_iinc 1029 hM rfl rfl rfl rfl ?_
                refine g_goto 33 hM rfl rfl ?_
                exact g_lv [(0, .ref (am_big + 0)), (1, .ref 0), (2, .ref 177), (3, .ref 205), (4, .int (Int32.ofInt (v4 + 4)))] rfl ⟨rfl, rfl, rfl, rfl, rfl, trivial⟩ hK
              · rw [if_neg hc75] at h
                cases h
                refine ⟨x64, hxx64, fun r hK => ?_⟩
                refine g_iload 35 hM rfl rfl rfl ?_
                refine g_aload_n 36 hM rfl rfl rfl ?_
                refine g_kalenX 37 hM rfl rfl ?_
                refine g_iconst 38 hM rfl rfl ?_
                refine g_isub 39 hM rfl rfl ?_
                refine g_ic_gt_f 42 1032 hM rfl rfl rfl hg1 hg2 hc3 ?_
                refine g_aload_n 43 hM rfl rfl rfl ?_
                refine g_iload 45 hM rfl rfl rfl ?_
                refine g_kiaload 46 hM rfl rfl hL hg4 ?_
                refine g_bipush 48 hM rfl rfl rfl ?_
                refine g_iand 49 hM rfl rfl ?_
                refine g_tsw 285 hM rfl (zR_and _ _) hc57 rfl rfl rfl ?_
                refine g_aload_n 286 hM rfl rfl rfl ?_
                refine g_aload_n 287 hM rfl rfl rfl ?_
                refine g_iload 289 hM rfl rfl rfl ?_
                refine g_iconst 290 hM rfl rfl ?_
                refine g_iadd 291 hM rfl rfl ?_
                refine g_kiaload 292 hM rfl rfl hL hg58 ?_
                refine g_i2l 293 hM rfl rfl (zR_toInt _) ?_
                refine g_bipush 295 hM rfl rfl rfl ?_
                refine g_lshl 296 hM rfl rfl (zR_lit rfl) ?_
                refine g_aload_n 297 hM rfl rfl rfl ?_
                refine g_iload 299 hM rfl rfl rfl ?_
                refine g_iconst 300 hM rfl rfl ?_
                refine g_iadd 301 hM rfl rfl ?_
                refine g_kiaload 302 hM rfl rfl hL hg59 ?_
                refine g_i2l 303 hM rfl rfl (zR_toInt _) ?_
                refine g_ldc2 306 (4294967295#64) hM rfl rfl rfl (by decide) ?_
                refine g_land 307 hM rfl rfl ?_
                refine g_lor 308 hM rfl rfl ?_
                refine g_aload_n 309 hM rfl rfl rfl ?_
                refine g_iload 311 hM rfl rfl rfl ?_
                refine g_iconst 312 hM rfl rfl ?_
                refine g_iadd 313 hM rfl rfl ?_
                refine g_kiaload 314 hM rfl rfl hL hg60 ?_
                refine g_aload_n 315 hM rfl rfl rfl ?_
                refine g_call 318 _ [.int (Int32.ofInt r62)] hM rfl rfl rfl rfl rfl (xM_3 _) rfl rfl rfl rfl (by omega) hzx64 rfl ?_
                refine g_istore 320 hM rfl rfl rfl ?_
                refine g_aload_n 321 hM rfl rfl rfl ?_
                refine g_aload_n 322 hM rfl rfl rfl ?_
                refine g_iload 324 hM rfl rfl rfl ?_
                refine g_iconst 325 hM rfl rfl ?_
                refine g_iadd 326 hM rfl rfl ?_
                refine g_kiaload 327 hM rfl rfl hL hg58 ?_
                refine g_i2l 328 hM rfl rfl (zR_toInt _) ?_
                refine g_bipush 330 hM rfl rfl rfl ?_
                refine g_lshl 331 hM rfl rfl (zR_lit rfl) ?_
                refine g_aload_n 332 hM rfl rfl rfl ?_
                refine g_iload 334 hM rfl rfl rfl ?_
                refine g_iconst 335 hM rfl rfl ?_
                refine g_iadd 336 hM rfl rfl ?_
                refine g_kiaload 337 hM rfl rfl hL hg59 ?_
                refine g_i2l 338 hM rfl rfl (zR_toInt _) ?_
                refine g_ldc2 341 (4294967295#64) hM rfl rfl rfl (by decide) ?_
                refine g_land 342 hM rfl rfl ?_
                refine g_lor 343 hM rfl rfl ?_
                refine g_aload_n 344 hM rfl rfl rfl ?_
                refine g_iload 346 hM rfl rfl rfl ?_
                refine g_iconst 347 hM rfl rfl ?_
                refine g_iadd 348 hM rfl rfl ?_
                refine g_kiaload 349 hM rfl rfl hL hg60 ?_
                refine g_call 352 _ [.int (Int32.ofInt r66)] hM rfl rfl rfl rfl rfl (xM_145 _) rfl (z_rcv2 rfl) rfl rfl (by omega) (w_145 (by omega) h65) rfl ?_
                refine g_istore 354 hM rfl rfl rfl ?_
                refine g_aload_n 355 hM rfl rfl rfl ?_
                refine g_call 358 _ [.int (Int32.ofInt r69)] hM rfl rfl rfl rfl rfl (xM_142 _) rfl (z_rcv2 rfl) rfl rfl (by omega) (w_142 (by omega) h68) rfl ?_
                refine g_iload 360 hM rfl rfl rfl ?_
                refine g_ic_eq_t 365 hM rfl rfl hg70 hg71 hc72 ?_
                refine g_iload 367 hM rfl rfl rfl ?_
                refine g_if_ne_f 370 382 hM rfl rfl rfl hg71 hc73 ?_
                refine g_aload_n 371 hM rfl rfl rfl ?_
                refine g_iconst 372 hM rfl rfl ?_
                refine g_laload 373 (gJ s67 205 0) hM rfl rfl rfl rfl ⟨by decide, by decide⟩ rfl ?_
                refine g_iload 375 hM rfl rfl rfl ?_
                refine g_i2l 376 hM rfl rfl hg74 ?_
                refine g_lc_eq_f 377 380 382 hM rfl rfl rfl rfl rfl hc75 ?_
                refine g_iconst 381 hM rfl rfl ?_
                rw [show r = _ from hK]
                exact g_ret hM rfl rfl
            · rw [if_neg hc73] at h
              cases h
              refine ⟨x64, hxx64, fun r hK => ?_⟩
              refine g_iload 35 hM rfl rfl rfl ?_
              refine g_aload_n 36 hM rfl rfl rfl ?_
              refine g_kalenX 37 hM rfl rfl ?_
              refine g_iconst 38 hM rfl rfl ?_
              refine g_isub 39 hM rfl rfl ?_
              refine g_ic_gt_f 42 1032 hM rfl rfl rfl hg1 hg2 hc3 ?_
              refine g_aload_n 43 hM rfl rfl rfl ?_
              refine g_iload 45 hM rfl rfl rfl ?_
              refine g_kiaload 46 hM rfl rfl hL hg4 ?_
              refine g_bipush 48 hM rfl rfl rfl ?_
              refine g_iand 49 hM rfl rfl ?_
              refine g_tsw 285 hM rfl (zR_and _ _) hc57 rfl rfl rfl ?_
              refine g_aload_n 286 hM rfl rfl rfl ?_
              refine g_aload_n 287 hM rfl rfl rfl ?_
              refine g_iload 289 hM rfl rfl rfl ?_
              refine g_iconst 290 hM rfl rfl ?_
              refine g_iadd 291 hM rfl rfl ?_
              refine g_kiaload 292 hM rfl rfl hL hg58 ?_
              refine g_i2l 293 hM rfl rfl (zR_toInt _) ?_
              refine g_bipush 295 hM rfl rfl rfl ?_
              refine g_lshl 296 hM rfl rfl (zR_lit rfl) ?_
              refine g_aload_n 297 hM rfl rfl rfl ?_
              refine g_iload 299 hM rfl rfl rfl ?_
              refine g_iconst 300 hM rfl rfl ?_
              refine g_iadd 301 hM rfl rfl ?_
              refine g_kiaload 302 hM rfl rfl hL hg59 ?_
              refine g_i2l 303 hM rfl rfl (zR_toInt _) ?_
              refine g_ldc2 306 (4294967295#64) hM rfl rfl rfl (by decide) ?_
              refine g_land 307 hM rfl rfl ?_
              refine g_lor 308 hM rfl rfl ?_
              refine g_aload_n 309 hM rfl rfl rfl ?_
              refine g_iload 311 hM rfl rfl rfl ?_
              refine g_iconst 312 hM rfl rfl ?_
              refine g_iadd 313 hM rfl rfl ?_
              refine g_kiaload 314 hM rfl rfl hL hg60 ?_
              refine g_aload_n 315 hM rfl rfl rfl ?_
              refine g_call 318 _ [.int (Int32.ofInt r62)] hM rfl rfl rfl rfl rfl (xM_3 _) rfl rfl rfl rfl (by omega) hzx64 rfl ?_
              refine g_istore 320 hM rfl rfl rfl ?_
              refine g_aload_n 321 hM rfl rfl rfl ?_
              refine g_aload_n 322 hM rfl rfl rfl ?_
              refine g_iload 324 hM rfl rfl rfl ?_
              refine g_iconst 325 hM rfl rfl ?_
              refine g_iadd 326 hM rfl rfl ?_
              refine g_kiaload 327 hM rfl rfl hL hg58 ?_
              refine g_i2l 328 hM rfl rfl (zR_toInt _) ?_
              refine g_bipush 330 hM rfl rfl rfl ?_
              refine g_lshl 331 hM rfl rfl (zR_lit rfl) ?_
              refine g_aload_n 332 hM rfl rfl rfl ?_
              refine g_iload 334 hM rfl rfl rfl ?_
              refine g_iconst 335 hM rfl rfl ?_
              refine g_iadd 336 hM rfl rfl ?_
              refine g_kiaload 337 hM rfl rfl hL hg59 ?_
              refine g_i2l 338 hM rfl rfl (zR_toInt _) ?_
              refine g_ldc2 341 (4294967295#64) hM rfl rfl rfl (by decide) ?_
              refine g_land 342 hM rfl rfl ?_
              refine g_lor 343 hM rfl rfl ?_
              refine g_aload_n 344 hM rfl rfl rfl ?_
              refine g_iload 346 hM rfl rfl rfl ?_
              refine g_iconst 347 hM rfl rfl ?_
              refine g_iadd 348 hM rfl rfl ?_
              refine g_kiaload 349 hM rfl rfl hL hg60 ?_
              refine g_call 352 _ [.int (Int32.ofInt r66)] hM rfl rfl rfl rfl rfl (xM_145 _) rfl (z_rcv2 rfl) rfl rfl (by omega) (w_145 (by omega) h65) rfl ?_
              refine g_istore 354 hM rfl rfl rfl ?_
              refine g_aload_n 355 hM rfl rfl rfl ?_
              refine g_call 358 _ [.int (Int32.ofInt r69)] hM rfl rfl rfl rfl rfl (xM_142 _) rfl (z_rcv2 rfl) rfl rfl (by omega) (w_142 (by omega) h68) rfl ?_
              refine g_iload 360 hM rfl rfl rfl ?_
              refine g_ic_eq_t 365 hM rfl rfl hg70 hg71 hc72 ?_
              refine g_iload 367 hM rfl rfl rfl ?_
              refine g_if_ne_t 382 hM rfl rfl hg71 hc73 ?_
              refine g_goto 1026 hM rfl rfl ?_
              refine g_iinc 1029 hM rfl rfl rfl rfl ?_
              refine g_goto 33 hM rfl rfl ?_
              exact g_lv [(0, .ref (am_big + 0)), (1, .ref 0), (2, .ref 177), (3, .ref 205), (4, .int (Int32.ofInt (v4 + 4)))] rfl ⟨rfl, rfl, rfl, rfl, rfl, trivial⟩ hK
          · rw [if_neg hc72] at h
            cases h
            refine ⟨x64, hxx64, fun r hK => ?_⟩
            refine g_iload 35 hM rfl rfl rfl ?_
            refine g_aload_n 36 hM rfl rfl rfl ?_
            refine g_kalenX 37 hM rfl rfl ?_
            refine g_iconst 38 hM rfl rfl ?_
            refine g_isub 39 hM rfl rfl ?_
            refine g_ic_gt_f 42 1032 hM rfl rfl rfl hg1 hg2 hc3 ?_
            refine g_aload_n 43 hM rfl rfl rfl ?_
            refine g_iload 45 hM rfl rfl rfl ?_
            refine g_kiaload 46 hM rfl rfl hL hg4 ?_
            refine g_bipush 48 hM rfl rfl rfl ?_
            refine g_iand 49 hM rfl rfl ?_
            refine g_tsw 285 hM rfl (zR_and _ _) hc57 rfl rfl rfl ?_
            refine g_aload_n 286 hM rfl rfl rfl ?_
            refine g_aload_n 287 hM rfl rfl rfl ?_
            refine g_iload 289 hM rfl rfl rfl ?_
            refine g_iconst 290 hM rfl rfl ?_
            refine g_iadd 291 hM rfl rfl ?_
            refine g_kiaload 292 hM rfl rfl hL hg58 ?_
            refine g_i2l 293 hM rfl rfl (zR_toInt _) ?_
            refine g_bipush 295 hM rfl rfl rfl ?_
            refine g_lshl 296 hM rfl rfl (zR_lit rfl) ?_
            refine g_aload_n 297 hM rfl rfl rfl ?_
            refine g_iload 299 hM rfl rfl rfl ?_
            refine g_iconst 300 hM rfl rfl ?_
            refine g_iadd 301 hM rfl rfl ?_
            refine g_kiaload 302 hM rfl rfl hL hg59 ?_
            refine g_i2l 303 hM rfl rfl (zR_toInt _) ?_
            refine g_ldc2 306 (4294967295#64) hM rfl rfl rfl (by decide) ?_
            refine g_land 307 hM rfl rfl ?_
            refine g_lor 308 hM rfl rfl ?_
            refine g_aload_n 309 hM rfl rfl rfl ?_
            refine g_iload 311 hM rfl rfl rfl ?_
            refine g_iconst 312 hM rfl rfl ?_
            refine g_iadd 313 hM rfl rfl ?_
            refine g_kiaload 314 hM rfl rfl hL hg60 ?_
            refine g_aload_n 315 hM rfl rfl rfl ?_
            refine g_call 318 _ [.int (Int32.ofInt r62)] hM rfl rfl rfl rfl rfl (xM_3 _) rfl rfl rfl rfl (by omega) hzx64 rfl ?_
            refine g_istore 320 hM rfl rfl rfl ?_
            refine g_aload_n 321 hM rfl rfl rfl ?_
            refine g_aload_n 322 hM rfl rfl rfl ?_
            refine g_iload 324 hM rfl rfl rfl ?_
            refine g_iconst 325 hM rfl rfl ?_
            refine g_iadd 326 hM rfl rfl ?_
            refine g_kiaload 327 hM rfl rfl hL hg58 ?_
            refine g_i2l 328 hM rfl rfl (zR_toInt _) ?_
            refine g_bipush 330 hM rfl rfl rfl ?_
            refine g_lshl 331 hM rfl rfl (zR_lit rfl) ?_
            refine g_aload_n 332 hM rfl rfl rfl ?_
            refine g_iload 334 hM rfl rfl rfl ?_
            refine g_iconst 335 hM rfl rfl ?_
            refine g_iadd 336 hM rfl rfl ?_
            refine g_kiaload 337 hM rfl rfl hL hg59 ?_
            refine g_i2l 338 hM rfl rfl (zR_toInt _) ?_
            refine g_ldc2 341 (4294967295#64) hM rfl rfl rfl (by decide) ?_
            refine g_land 342 hM rfl rfl ?_
            refine g_lor 343 hM rfl rfl ?_
            refine g_aload_n 344 hM rfl rfl rfl ?_
            refine g_iload 346 hM rfl rfl rfl ?_
            refine g_iconst 347 hM rfl rfl ?_
            refine g_iadd 348 hM rfl rfl ?_
            refine g_kiaload 349 hM rfl rfl hL hg60 ?_
            refine g_call 352 _ [.int (Int32.ofInt r66)] hM rfl rfl rfl rfl rfl (xM_145 _) rfl (z_rcv2 rfl) rfl rfl (by omega) (w_145 (by omega) h65) rfl ?_
            refine g_istore 354 hM rfl rfl rfl ?_
            refine g_aload_n 355 hM rfl rfl rfl ?_
            refine g_call 358 _ [.int (Int32.ofInt r69)] hM rfl rfl rfl rfl rfl (xM_142 _) rfl (z_rcv2 rfl) rfl rfl (by omega) (w_142 (by omega) h68) rfl ?_
            refine g_iload 360 hM rfl rfl rfl ?_
            refine g_ic_eq_f 363 365 hM rfl rfl rfl hg70 hg71 hc72 ?_
            refine g_iconst 364 hM rfl rfl ?_
            rw [show r = _ from hK]
            exact g_ret hM rfl rfl
        · rw [if_neg hc57] at h
          by_cases hc76 : t_0_49 (zand (gX k v4) 31) = 385
          · rw [if_pos hc76] at h
            obtain ⟨hg77, h⟩ := zg_some h
            obtain ⟨hg78, h⟩ := zg_some h
            obtain ⟨hg79, h⟩ := zg_some h
            obtain ⟨r81, s82, h80, h⟩ := zb_some h
            obtain ⟨x83, hxx83, hzx83⟩ := w_4 (k := k) (d := d - 1) (by omega) hxl h80
            obtain ⟨r85, s86, h84, h⟩ := zb_some h
            obtain ⟨r88, h87, h⟩ := zo_some h
            obtain ⟨hg89, h⟩ := zg_some h
            obtain ⟨hg90, h⟩ := zg_some h
            by_cases hc91 : r88 = r81
            · rw [if_pos hc91] at h
              by_cases hc92 : r81 = 0
              · rw [if_pos hc92] at h
                obtain ⟨hg93, h⟩ := zg_some h
                by_cases hc94 : (gJ s86 205 0) = (BitVec.ofInt 64 r85)
                · rw [if_pos hc94] at h
                  cases h
                  refine ⟨x83, hxx83, fun r hK => ?_⟩
                  refine g_iload 35 hM rfl rfl rfl ?_
                  refine g_aload_n 36 hM rfl rfl rfl ?_
                  refine g_kalenX 37 hM rfl rfl ?_
                  refine g_iconst 38 hM rfl rfl ?_
                  refine g_isub 39 hM rfl rfl ?_
                  refine g_ic_gt_f 42 1032 hM rfl rfl rfl hg1 hg2 hc3 ?_
                  refine g_aload_n 43 hM rfl rfl rfl ?_
                  refine g_iload 45 hM rfl rfl rfl ?_
                  refine g_kiaload 46 hM rfl rfl hL hg4 ?_
                  refine g_bipush 48 hM rfl rfl rfl ?_
                  refine g_iand 49 hM rfl rfl ?_
                  refine g_tsw 385 hM rfl (zR_and _ _) hc76 rfl rfl rfl ?_
                  refine g_aload_n 386 hM rfl rfl rfl ?_
                  refine g_aload_n 387 hM rfl rfl rfl ?_
                  refine g_iload 389 hM rfl rfl rfl ?_
                  refine g_iconst 390 hM rfl rfl ?_
                  refine g_iadd 391 hM rfl rfl ?_
                  refine g_kiaload 392 hM rfl rfl hL hg77 ?_
                  refine g_aload_n 393 hM rfl rfl rfl ?_
                  refine g_iload 395 hM rfl rfl rfl ?_
                  refine g_iconst 396 hM rfl rfl ?_
                  refine g_iadd 397 hM rfl rfl ?_
                  refine g_kiaload 398 hM rfl rfl hL hg78 ?_
                  refine g_aload_n 399 hM rfl rfl rfl ?_
                  refine g_iload 401 hM rfl rfl rfl ?_
                  refine g_iconst 402 hM rfl rfl ?_
                  refine g_iadd 403 hM rfl rfl ?_
                  refine g_kiaload 404 hM rfl rfl hL hg79 ?_
                  refine g_aload_n 405 hM rfl rfl rfl ?_
                  refine g_call 408 _ [.int (Int32.ofInt r81)] hM rfl rfl rfl rfl rfl (xM_4 _) rfl rfl rfl rfl (by omega) hzx83 rfl ?_
                  refine g_istore 410 hM rfl rfl rfl ?_
                  refine g_aload_n 411 hM rfl rfl rfl ?_
                  refine g_aload_n 412 hM rfl rfl rfl ?_
                  refine g_iload 414 hM rfl rfl rfl ?_
                  refine g_iconst 415 hM rfl rfl ?_
                  refine g_iadd 416 hM rfl rfl ?_
                  refine g_kiaload 417 hM rfl rfl hL hg77 ?_
                  refine g_aload_n 418 hM rfl rfl rfl ?_
                  refine g_iload 420 hM rfl rfl rfl ?_
                  refine g_iconst 421 hM rfl rfl ?_
                  refine g_iadd 422 hM rfl rfl ?_
                  refine g_kiaload 423 hM rfl rfl hL hg78 ?_
                  refine g_aload_n 424 hM rfl rfl rfl ?_
                  refine g_iload 426 hM rfl rfl rfl ?_
                  refine g_iconst 427 hM rfl rfl ?_
                  refine g_iadd 428 hM rfl rfl ?_
                  refine g_kiaload 429 hM rfl rfl hL hg79 ?_
                  refine g_call 432 _ [.int (Int32.ofInt r85)] hM rfl rfl rfl rfl rfl (xM_151 _) rfl (z_rcv2 rfl) rfl rfl (by omega) (w_151 (by omega) h84) rfl ?_
                  refine g_istore 434 hM rfl rfl rfl ?_
                  refine g_aload_n 435 hM rfl rfl rfl ?_
                  refine g_call 438 _ [.int (Int32.ofInt r88)] hM rfl rfl rfl rfl rfl (xM_142 _) rfl (z_rcv2 rfl) rfl rfl (by omega) (w_142 (by omega) h87) rfl ?_
                  refine g_iload 440 hM rfl rfl rfl ?_
                  refine g_ic_eq_t 445 hM rfl rfl hg89 hg90 hc91 ?_
                  refine g_iload 447 hM rfl rfl rfl ?_
                  refine g_if_ne_f 450 462 hM rfl rfl rfl hg90 hc92 ?_
                  refine g_aload_n 451 hM rfl rfl rfl ?_
                  refine g_iconst 452 hM rfl rfl ?_
                  refine g_laload 453 (gJ s86 205 0) hM rfl rfl rfl rfl ⟨by decide, by decide⟩ rfl ?_
                  refine g_iload 455 hM rfl rfl rfl ?_
                  refine g_i2l 456 hM rfl rfl hg93 ?_
                  refine g_lc_eq_t 457 462 hM rfl rfl rfl rfl hc94 ?_
                  refine g_goto 1026 hM rfl rfl ?_
                  refine g_iinc 1029 hM rfl rfl rfl rfl ?_
                  refine g_goto 33 hM rfl rfl ?_
                  exact g_lv [(0, .ref (am_big + 0)), (1, .ref 0), (2, .ref 177), (3, .ref 205), (4, .int (Int32.ofInt (v4 + 4)))] rfl ⟨rfl, rfl, rfl, rfl, rfl, trivial⟩ hK
                · rw [if_neg hc94] at h
                  cases h
                  refine ⟨x83, hxx83, fun r hK => ?_⟩
                  refine g_iload 35 hM rfl rfl rfl ?_
                  refine g_aload_n 36 hM rfl rfl rfl ?_
                  refine g_kalenX 37 hM rfl rfl ?_
                  refine g_iconst 38 hM rfl rfl ?_
                  refine g_isub 39 hM rfl rfl ?_
                  refine g_ic_gt_f 42 1032 hM rfl rfl rfl hg1 hg2 hc3 ?_
                  refine g_aload_n 43 hM rfl rfl rfl ?_
                  refine g_iload 45 hM rfl rfl rfl ?_
                  refine g_kiaload 46 hM rfl rfl hL hg4 ?_
                  refine g_bipush 48 hM rfl rfl rfl ?_
                  refine g_iand 49 hM rfl rfl ?_
                  refine g_tsw 385 hM rfl (zR_and _ _) hc76 rfl rfl rfl ?_
                  refine g_aload_n 386 hM rfl rfl rfl ?_
                  refine g_aload_n 387 hM rfl rfl rfl ?_
                  refine g_iload 389 hM rfl rfl rfl ?_
                  refine g_iconst 390 hM rfl rfl ?_
                  refine g_iadd 391 hM rfl rfl ?_
                  refine g_kiaload 392 hM rfl rfl hL hg77 ?_
                  refine g_aload_n 393 hM rfl rfl rfl ?_
                  refine g_iload 395 hM rfl rfl rfl ?_
                  refine g_iconst 396 hM rfl rfl ?_
                  refine g_iadd 397 hM rfl rfl ?_
                  refine g_kiaload 398 hM rfl rfl hL hg78 ?_
                  refine g_aload_n 399 hM rfl rfl rfl ?_
                  refine g_iload 401 hM rfl rfl rfl ?_
                  refine g_iconst 402 hM rfl rfl ?_
                  refine g_iadd 403 hM rfl rfl ?_
                  refine g_kiaload 404 hM rfl rfl hL hg79 ?_
                  refine g_aload_n 405 hM rfl rfl rfl ?_
                  refine g_call 408 _ [.int (Int32.ofInt r81)] hM rfl rfl rfl rfl rfl (xM_4 _) rfl rfl rfl rfl (by omega) hzx83 rfl ?_
                  refine g_istore 410 hM rfl rfl rfl ?_
                  refine g_aload_n 411 hM rfl rfl rfl ?_
                  refine g_aload_n 412 hM rfl rfl rfl ?_
                  refine g_iload 414 hM rfl rfl rfl ?_
                  refine g_iconst 415 hM rfl rfl ?_
                  refine g_iadd 416 hM rfl rfl ?_
                  refine g_kiaload 417 hM rfl rfl hL hg77 ?_
                  refine g_aload_n 418 hM rfl rfl rfl ?_
                  refine g_iload 420 hM rfl rfl rfl ?_
                  refine g_iconst 421 hM rfl rfl ?_
                  refine g_iadd 422 hM rfl rfl ?_
                  refine g_kiaload 423 hM rfl rfl hL hg78 ?_
                  refine g_aload_n 424 hM rfl rfl rfl ?_
                  refine g_iload 426 hM rfl rfl rfl ?_
                  refine g_iconst 427 hM rfl rfl ?_
                  refine g_iadd 428 hM rfl rfl ?_
                  refine g_kiaload 429 hM rfl rfl hL hg79 ?_
                  refine g_call 432 _ [.int (Int32.ofInt r85)] hM rfl rfl rfl rfl rfl (xM_151 _) rfl (z_rcv2 rfl) rfl rfl (by omega) (w_151 (by omega) h84) rfl ?_
                  refine g_istore 434 hM rfl rfl rfl ?_
                  refine g_aload_n 435 hM rfl rfl rfl ?_
                  refine g_call 438 _ [.int (Int32.ofInt r88)] hM rfl rfl rfl rfl rfl (xM_142 _) rfl (z_rcv2 rfl) rfl rfl (by omega) (w_142 (by omega) h87) rfl ?_
                  refine g_iload 440 hM rfl rfl rfl ?_
                  refine g_ic_eq_t 445 hM rfl rfl hg89 hg90 hc91 ?_
                  refine g_iload 447 hM rfl rfl rfl ?_
                  refine g_if_ne_f 450 462 hM rfl rfl rfl hg90 hc92 ?_
                  refine g_aload_n 451 hM rfl rfl rfl ?_
                  refine g_iconst 452 hM rfl rfl ?_
                  refine g_laload 453 (gJ s86 205 0) hM rfl rfl rfl rfl ⟨by decide, by decide⟩ rfl ?_
                  refine g_iload 455 hM rfl rfl rfl ?_
                  refine g_i2l 456 hM rfl rfl hg93 ?_
                  refine g_lc_eq_f 457 460 462 hM rfl rfl rfl rfl rfl hc94 ?_
                  refine g_iconst 461 hM rfl rfl ?_
                  rw [show r = _ from hK]
                  exact g_ret hM rfl rfl
              · rw [if_neg hc92] at h
                cases h
                refine ⟨x83, hxx83, fun r hK => ?_⟩
                refine g_iload 35 hM rfl rfl rfl ?_
                refine g_aload_n 36 hM rfl rfl rfl ?_
                refine g_kalenX 37 hM rfl rfl ?_
                refine g_iconst 38 hM rfl rfl ?_
                refine g_isub 39 hM rfl rfl ?_
                refine g_ic_gt_f 42 1032 hM rfl rfl rfl hg1 hg2 hc3 ?_
                refine g_aload_n 43 hM rfl rfl rfl ?_
                refine g_iload 45 hM rfl rfl rfl ?_
                refine g_kiaload 46 hM rfl rfl hL hg4 ?_
                refine g_bipush 48 hM rfl rfl rfl ?_
                refine g_iand 49 hM rfl rfl ?_
                refine g_tsw 385 hM rfl (zR_and _ _) hc76 rfl rfl rfl ?_
                refine g_aload_n 386 hM rfl rfl rfl ?_
                refine g_aload_n 387 hM rfl rfl rfl ?_
                refine g_iload 389 hM rfl rfl rfl ?_
                refine g_iconst 390 hM rfl rfl ?_
                refine g_iadd 391 hM rfl rfl ?_
                refine g_kiaload 392 hM rfl rfl hL hg77 ?_
                refine g_aload_n 393 hM rfl rfl rfl ?_
                refine g_iload 395 hM rfl rfl rfl ?_
                refine g_iconst 396 hM rfl rfl ?_
                refine g_iadd 397 hM rfl rfl ?_
                refine g_kiaload 398 hM rfl rfl hL hg78 ?_
                refine g_aload_n 399 hM rfl rfl rfl ?_
                refine g_iload 401 hM rfl rfl rfl ?_
                refine g_iconst 402 hM rfl rfl ?_
                refine g_iadd 403 hM rfl rfl ?_
                refine g_kiaload 404 hM rfl rfl hL hg79 ?_
                refine g_aload_n 405 hM rfl rfl rfl ?_
                refine g_call 408 _ [.int (Int32.ofInt r81)] hM rfl rfl rfl rfl rfl (xM_4 _) rfl rfl rfl rfl (by omega) hzx83 rfl ?_
                refine g_istore 410 hM rfl rfl rfl ?_
                refine g_aload_n 411 hM rfl rfl rfl ?_
                refine g_aload_n 412 hM rfl rfl rfl ?_
                refine g_iload 414 hM rfl rfl rfl ?_
                refine g_iconst 415 hM rfl rfl ?_
                refine g_iadd 416 hM rfl rfl ?_
                refine g_kiaload 417 hM rfl rfl hL hg77 ?_
                refine g_aload_n 418 hM rfl rfl rfl ?_
                refine g_iload 420 hM rfl rfl rfl ?_
                refine g_iconst 421 hM rfl rfl ?_
                refine g_iadd 422 hM rfl rfl ?_
                refine g_kiaload 423 hM rfl rfl hL hg78 ?_
                refine g_aload_n 424 hM rfl rfl rfl ?_
                refine g_iload 426 hM rfl rfl rfl ?_
                refine g_iconst 427 hM rfl rfl ?_
                refine g_iadd 428 hM rfl rfl ?_
                refine g_kiaload 429 hM rfl rfl hL hg79 ?_
                refine g_call 432 _ [.int (Int32.ofInt r85)] hM rfl rfl rfl rfl rfl (xM_151 _) rfl (z_rcv2 rfl) rfl rfl (by omega) (w_151 (by omega) h84) rfl ?_
                refine g_istore 434 hM rfl rfl rfl ?_
                refine g_aload_n 435 hM rfl rfl rfl ?_
                refine g_call 438 _ [.int (Int32.ofInt r88)] hM rfl rfl rfl rfl rfl (xM_142 _) rfl (z_rcv2 rfl) rfl rfl (by omega) (w_142 (by omega) h87) rfl ?_
                refine g_iload 440 hM rfl rfl rfl ?_
                refine g_ic_eq_t 445 hM rfl rfl hg89 hg90 hc91 ?_
                refine g_iload 447 hM rfl rfl rfl ?_
                refine g_if_ne_t 462 hM rfl rfl hg90 hc92 ?_
                refine g_goto 1026 hM rfl rfl ?_
                refine g_iinc 1029 hM rfl rfl rfl rfl ?_
                refine g_goto 33 hM rfl rfl ?_
                exact g_lv [(0, .ref (am_big + 0)), (1, .ref 0), (2, .ref 177), (3, .ref 205), (4, .int (Int32.ofInt (v4 + 4)))] rfl ⟨rfl, rfl, rfl, rfl, rfl, trivial⟩ hK
            · rw [if_neg hc91] at h
              cases h
              refine ⟨x83, hxx83, fun r hK => ?_⟩
              refine g_iload 35 hM rfl rfl rfl ?_
              refine g_aload_n 36 hM rfl rfl rfl ?_
              refine g_kalenX 37 hM rfl rfl ?_
              refine g_iconst 38 hM rfl rfl ?_
              refine g_isub 39 hM rfl rfl ?_
              refine g_ic_gt_f 42 1032 hM rfl rfl rfl hg1 hg2 hc3 ?_
              refine g_aload_n 43 hM rfl rfl rfl ?_
              refine g_iload 45 hM rfl rfl rfl ?_
              refine g_kiaload 46 hM rfl rfl hL hg4 ?_
              refine g_bipush 48 hM rfl rfl rfl ?_
              refine g_iand 49 hM rfl rfl ?_
              refine g_tsw 385 hM rfl (zR_and _ _) hc76 rfl rfl rfl ?_
              refine g_aload_n 386 hM rfl rfl rfl ?_
              refine g_aload_n 387 hM rfl rfl rfl ?_
              refine g_iload 389 hM rfl rfl rfl ?_
              refine g_iconst 390 hM rfl rfl ?_
              refine g_iadd 391 hM rfl rfl ?_
              refine g_kiaload 392 hM rfl rfl hL hg77 ?_
              refine g_aload_n 393 hM rfl rfl rfl ?_
              refine g_iload 395 hM rfl rfl rfl ?_
              refine g_iconst 396 hM rfl rfl ?_
              refine g_iadd 397 hM rfl rfl ?_
              refine g_kiaload 398 hM rfl rfl hL hg78 ?_
              refine g_aload_n 399 hM rfl rfl rfl ?_
              refine g_iload 401 hM rfl rfl rfl ?_
              refine g_iconst 402 hM rfl rfl ?_
              refine g_iadd 403 hM rfl rfl ?_
              refine g_kiaload 404 hM rfl rfl hL hg79 ?_
              refine g_aload_n 405 hM rfl rfl rfl ?_
              refine g_call 408 _ [.int (Int32.ofInt r81)] hM rfl rfl rfl rfl rfl (xM_4 _) rfl rfl rfl rfl (by omega) hzx83 rfl ?_
              refine g_istore 410 hM rfl rfl rfl ?_
              refine g_aload_n 411 hM rfl rfl rfl ?_
              refine g_aload_n 412 hM rfl rfl rfl ?_
              refine g_iload 414 hM rfl rfl rfl ?_
              refine g_iconst 415 hM rfl rfl ?_
              refine g_iadd 416 hM rfl rfl ?_
              refine g_kiaload 417 hM rfl rfl hL hg77 ?_
              refine g_aload_n 418 hM rfl rfl rfl ?_
              refine g_iload 420 hM rfl rfl rfl ?_
              refine g_iconst 421 hM rfl rfl ?_
              refine g_iadd 422 hM rfl rfl ?_
              refine g_kiaload 423 hM rfl rfl hL hg78 ?_
              refine g_aload_n 424 hM rfl rfl rfl ?_
              refine g_iload 426 hM rfl rfl rfl ?_
              refine g_iconst 427 hM rfl rfl ?_
              refine g_iadd 428 hM rfl rfl ?_
              refine g_kiaload 429 hM rfl rfl hL hg79 ?_
              refine g_call 432 _ [.int (Int32.ofInt r85)] hM rfl rfl rfl rfl rfl (xM_151 _) rfl (z_rcv2 rfl) rfl rfl (by omega) (w_151 (by omega) h84) rfl ?_
              refine g_istore 434 hM rfl rfl rfl ?_
              refine g_aload_n 435 hM rfl rfl rfl ?_
              refine g_call 438 _ [.int (Int32.ofInt r88)] hM rfl rfl rfl rfl rfl (xM_142 _) rfl (z_rcv2 rfl) rfl rfl (by omega) (w_142 (by omega) h87) rfl ?_
              refine g_iload 440 hM rfl rfl rfl ?_
              refine g_ic_eq_f 443 445 hM rfl rfl rfl hg89 hg90 hc91 ?_
              refine g_iconst 444 hM rfl rfl ?_
              rw [show r = _ from hK]
              exact g_ret hM rfl rfl
          · rw [if_neg hc76] at h
            by_cases hc95 : t_0_49 (zand (gX k v4) 31) = 465
            · rw [if_pos hc95] at h
              obtain ⟨r97, s98, h96, h⟩ := zb_some h
              obtain ⟨x99, hxx99, hzx99⟩ := w_5 (k := k) (d := d - 1) (by omega) hxl h96
              obtain ⟨r101, s102, h100, h⟩ := zb_some h
              obtain ⟨r104, h103, h⟩ := zo_some h
              obtain ⟨hg105, h⟩ := zg_some h
              obtain ⟨hg106, h⟩ := zg_some h
              by_cases hc107 : r104 = r97
              · rw [if_pos hc107] at h
                by_cases hc108 : r97 = 0
                · rw [if_pos hc108] at h
                  obtain ⟨hg109, h⟩ := zg_some h
                  by_cases hc110 : (gJ s102 205 0) = (BitVec.ofInt 64 r101)
                  · rw [if_pos hc110] at h
                    cases h
                    refine ⟨x99, hxx99, fun r hK => ?_⟩
                    refine g_iload 35 hM rfl rfl rfl ?_
                    refine g_aload_n 36 hM rfl rfl rfl ?_
                    refine g_kalenX 37 hM rfl rfl ?_
                    refine g_iconst 38 hM rfl rfl ?_
                    refine g_isub 39 hM rfl rfl ?_
                    refine g_ic_gt_f 42 1032 hM rfl rfl rfl hg1 hg2 hc3 ?_
                    refine g_aload_n 43 hM rfl rfl rfl ?_
                    refine g_iload 45 hM rfl rfl rfl ?_
                    refine g_kiaload 46 hM rfl rfl hL hg4 ?_
                    refine g_bipush 48 hM rfl rfl rfl ?_
                    refine g_iand 49 hM rfl rfl ?_
                    refine g_tsw 465 hM rfl (zR_and _ _) hc95 rfl rfl rfl ?_
                    refine g_aload_n 466 hM rfl rfl rfl ?_
                    refine g_aload_n 467 hM rfl rfl rfl ?_
                    refine g_call 470 _ [.int (Int32.ofInt r97)] hM rfl rfl rfl rfl rfl (xM_5 _) rfl rfl rfl rfl (by omega) hzx99 rfl ?_
                    refine g_istore 472 hM rfl rfl rfl ?_
                    refine g_aload_n 473 hM rfl rfl rfl ?_
                    refine g_call 476 _ [.int (Int32.ofInt r101)] hM rfl rfl rfl rfl rfl (xM_155 _) rfl (z_rcv2 rfl) rfl rfl (by omega) (w_155 (by omega) h100) rfl ?_
                    refine g_istore 478 hM rfl rfl rfl ?_
                    refine g_aload_n 479 hM rfl rfl rfl ?_
                    refine g_call 482 _ [.int (Int32.ofInt r104)] hM rfl rfl rfl rfl rfl (xM_142 _) rfl (z_rcv2 rfl) rfl rfl (by omega) (w_142 (by omega) h103) rfl ?_
                    refine g_iload 484 hM rfl rfl rfl ?_
                    refine g_ic_eq_t 489 hM rfl rfl hg105 hg106 hc107 ?_
                    refine g_iload 491 hM rfl rfl rfl ?_
                    refine g_if_ne_f 494 506 hM rfl rfl rfl hg106 hc108 ?_
                    refine g_aload_n 495 hM rfl rfl rfl ?_
                    refine g_iconst 496 hM rfl rfl ?_
                    refine g_laload 497 (gJ s102 205 0) hM rfl rfl rfl rfl ⟨by decide, by decide⟩ rfl ?_
                    refine g_iload 499 hM rfl rfl rfl ?_
                    refine g_i2l 500 hM rfl rfl hg109 ?_
                    refine g_lc_eq_t 501 506 hM rfl rfl rfl rfl hc110 ?_
                    refine g_goto 1026 hM rfl rfl ?_
                    refine g_iinc 1029 hM rfl rfl rfl rfl ?_
                    refine g_goto 33 hM rfl rfl ?_
                    exact g_lv [(0, .ref (am_big + 0)), (1, .ref 0), (2, .ref 177), (3, .ref 205), (4, .int (Int32.ofInt (v4 + 4)))] rfl ⟨rfl, rfl, rfl, rfl, rfl, trivial⟩ hK
                  · rw [if_neg hc110] at h
                    cases h
                    refine ⟨x99, hxx99, fun r hK => ?_⟩
                    refine g_iload 35 hM rfl rfl rfl ?_
                    refine g_aload_n 36 hM rfl rfl rfl ?_
                    refine g_kalenX 37 hM rfl rfl ?_
                    refine g_iconst 38 hM rfl rfl ?_
                    refine g_isub 39 hM rfl rfl ?_
                    refine g_ic_gt_f 42 1032 hM rfl rfl rfl hg1 hg2 hc3 ?_
                    refine g_aload_n 43 hM rfl rfl rfl ?_
                    refine g_iload 45 hM rfl rfl rfl ?_
                    refine g_kiaload 46 hM rfl rfl hL hg4 ?_
                    refine g_bipush 48 hM rfl rfl rfl ?_
                    refine g_iand 49 hM rfl rfl ?_
                    refine g_tsw 465 hM rfl (zR_and _ _) hc95 rfl rfl rfl ?_
                    refine g_aload_n 466 hM rfl rfl rfl ?_
                    refine g_aload_n 467 hM rfl rfl rfl ?_
                    refine g_call 470 _ [.int (Int32.ofInt r97)] hM rfl rfl rfl rfl rfl (xM_5 _) rfl rfl rfl rfl (by omega) hzx99 rfl ?_
                    refine g_istore 472 hM rfl rfl rfl ?_
                    refine g_aload_n 473 hM rfl rfl rfl ?_
                    refine g_call 476 _ [.int (Int32.ofInt r101)] hM rfl rfl rfl rfl rfl (xM_155 _) rfl (z_rcv2 rfl) rfl rfl (by omega) (w_155 (by omega) h100) rfl ?_
                    refine g_istore 478 hM rfl rfl rfl ?_
                    refine g_aload_n 479 hM rfl rfl rfl ?_
                    refine g_call 482 _ [.int (Int32.ofInt r104)] hM rfl rfl rfl rfl rfl (xM_142 _) rfl (z_rcv2 rfl) rfl rfl (by omega) (w_142 (by omega) h103) rfl ?_
                    refine g_iload 484 hM rfl rfl rfl ?_
                    refine g_ic_eq_t 489 hM rfl rfl hg105 hg106 hc107 ?_
                    refine g_iload 491 hM rfl rfl rfl ?_
                    refine g_if_ne_f 494 506 hM rfl rfl rfl hg106 hc108 ?_
                    refine g_aload_n 495 hM rfl rfl rfl ?_
                    refine g_iconst 496 hM rfl rfl ?_
                    refine g_laload 497 (gJ s102 205 0) hM rfl rfl rfl rfl ⟨by decide, by decide⟩ rfl ?_
                    refine g_iload 499 hM rfl rfl rfl ?_
                    refine g_i2l 500 hM rfl rfl hg109 ?_
                    refine g_lc_eq_f 501 504 506 hM rfl rfl rfl rfl rfl hc110 ?_
                    refine g_iconst 505 hM rfl rfl ?_
                    rw [show r = _ from hK]
                    exact g_ret hM rfl rfl
                · rw [if_neg hc108] at h
                  cases h
                  refine ⟨x99, hxx99, fun r hK => ?_⟩
                  refine g_iload 35 hM rfl rfl rfl ?_
                  refine g_aload_n 36 hM rfl rfl rfl ?_
                  refine g_kalenX 37 hM rfl rfl ?_
                  refine g_iconst 38 hM rfl rfl ?_
                  refine g_isub 39 hM rfl rfl ?_
                  refine g_ic_gt_f 42 1032 hM rfl rfl rfl hg1 hg2 hc3 ?_
                  refine g_aload_n 43 hM rfl rfl rfl ?_
                  refine g_iload 45 hM rfl rfl rfl ?_
                  refine g_kiaload 46 hM rfl rfl hL hg4 ?_
                  refine g_bipush 48 hM rfl rfl rfl ?_
                  refine g_iand 49 hM rfl rfl ?_
                  refine g_tsw 465 hM rfl (zR_and _ _) hc95 rfl rfl rfl ?_
                  refine g_aload_n 466 hM rfl rfl rfl ?_
                  refine g_aload_n 467 hM rfl rfl rfl ?_
                  refine g_call 470 _ [.int (Int32.ofInt r97)] hM rfl rfl rfl rfl rfl (xM_5 _) rfl rfl rfl rfl (by omega) hzx99 rfl ?_
                  refine g_istore 472 hM rfl rfl rfl ?_
                  refine g_aload_n 473 hM rfl rfl rfl ?_
                  refine g_call 476 _ [.int (Int32.ofInt r101)] hM rfl rfl rfl rfl rfl (xM_155 _) rfl (z_rcv2 rfl) rfl rfl (by omega) (w_155 (by omega) h100) rfl ?_
                  refine g_istore 478 hM rfl rfl rfl ?_
                  refine g_aload_n 479 hM rfl rfl rfl ?_
                  refine g_call 482 _ [.int (Int32.ofInt r104)] hM rfl rfl rfl rfl rfl (xM_142 _) rfl (z_rcv2 rfl) rfl rfl (by omega) (w_142 (by omega) h103) rfl ?_
                  refine g_iload 484 hM rfl rfl rfl ?_
                  refine g_ic_eq_t 489 hM rfl rfl hg105 hg106 hc107 ?_
                  refine g_iload 491 hM rfl rfl rfl ?_
                  refine g_if_ne_t 506 hM rfl rfl hg106 hc108 ?_
                  refine g_goto 1026 hM rfl rfl ?_
                  refine g_iinc 1029 hM rfl rfl rfl rfl ?_
                  refine g_goto 33 hM rfl rfl ?_
                  exact g_lv [(0, .ref (am_big + 0)), (1, .ref 0), (2, .ref 177), (3, .ref 205), (4, .int (Int32.ofInt (v4 + 4)))] rfl ⟨rfl, rfl, rfl, rfl, rfl, trivial⟩ hK
              · rw [if_neg hc107] at h
                cases h
                refine ⟨x99, hxx99, fun r hK => ?_⟩
                refine g_iload 35 hM rfl rfl rfl ?_
                refine g_aload_n 36 hM rfl rfl rfl ?_
                refine g_kalenX 37 hM rfl rfl ?_
                refine g_iconst 38 hM rfl rfl ?_
                refine g_isub 39 hM rfl rfl ?_
                refine g_ic_gt_f 42 1032 hM rfl rfl rfl hg1 hg2 hc3 ?_
                refine g_aload_n 43 hM rfl rfl rfl ?_
                refine g_iload 45 hM rfl rfl rfl ?_
                refine g_kiaload 46 hM rfl rfl hL hg4 ?_
                refine g_bipush 48 hM rfl rfl rfl ?_
                refine g_iand 49 hM rfl rfl ?_
                refine g_tsw 465 hM rfl (zR_and _ _) hc95 rfl rfl rfl ?_
                refine g_aload_n 466 hM rfl rfl rfl ?_
                refine g_aload_n 467 hM rfl rfl rfl ?_
                refine g_call 470 _ [.int (Int32.ofInt r97)] hM rfl rfl rfl rfl rfl (xM_5 _) rfl rfl rfl rfl (by omega) hzx99 rfl ?_
                refine g_istore 472 hM rfl rfl rfl ?_
                refine g_aload_n 473 hM rfl rfl rfl ?_
                refine g_call 476 _ [.int (Int32.ofInt r101)] hM rfl rfl rfl rfl rfl (xM_155 _) rfl (z_rcv2 rfl) rfl rfl (by omega) (w_155 (by omega) h100) rfl ?_
                refine g_istore 478 hM rfl rfl rfl ?_
                refine g_aload_n 479 hM rfl rfl rfl ?_
                refine g_call 482 _ [.int (Int32.ofInt r104)] hM rfl rfl rfl rfl rfl (xM_142 _) rfl (z_rcv2 rfl) rfl rfl (by omega) (w_142 (by omega) h103) rfl ?_
                refine g_iload 484 hM rfl rfl rfl ?_
                refine g_ic_eq_f 487 489 hM rfl rfl rfl hg105 hg106 hc107 ?_
                refine g_iconst 488 hM rfl rfl ?_
                rw [show r = _ from hK]
                exact g_ret hM rfl rfl
            · rw [if_neg hc95] at h
              by_cases hc111 : t_0_49 (zand (gX k v4) 31) = 509
              · rw [if_pos hc111] at h
                obtain ⟨r113, s114, h112, h⟩ := zb_some h
                obtain ⟨x115, hxx115, hzx115⟩ := w_6 (k := k) (d := d - 1) (by omega) hxl h112
                obtain ⟨r117, s118, h116, h⟩ := zb_some h
                obtain ⟨r120, h119, h⟩ := zo_some h
                obtain ⟨hg121, h⟩ := zg_some h
                obtain ⟨hg122, h⟩ := zg_some h
                by_cases hc123 : r120 = r113
                · rw [if_pos hc123] at h
                  by_cases hc124 : r113 = 0
                  · rw [if_pos hc124] at h
                    obtain ⟨hg125, h⟩ := zg_some h
                    by_cases hc126 : (gJ s118 205 0) = (BitVec.ofInt 64 r117)
                    · rw [if_pos hc126] at h
                      cases h
                      refine ⟨x115, hxx115, fun r hK => ?_⟩
                      refine g_iload 35 hM rfl rfl rfl ?_
                      refine g_aload_n 36 hM rfl rfl rfl ?_
                      refine g_kalenX 37 hM rfl rfl ?_
                      refine g_iconst 38 hM rfl rfl ?_
                      refine g_isub 39 hM rfl rfl ?_
                      refine g_ic_gt_f 42 1032 hM rfl rfl rfl hg1 hg2 hc3 ?_
                      refine g_aload_n 43 hM rfl rfl rfl ?_
                      refine g_iload 45 hM rfl rfl rfl ?_
                      refine g_kiaload 46 hM rfl rfl hL hg4 ?_
                      refine g_bipush 48 hM rfl rfl rfl ?_
                      refine g_iand 49 hM rfl rfl ?_
                      refine g_tsw 509 hM rfl (zR_and _ _) hc111 rfl rfl rfl ?_
                      refine g_aload_n 510 hM rfl rfl rfl ?_
                      refine g_aload_n 511 hM rfl rfl rfl ?_
                      refine g_call 514 _ [.int (Int32.ofInt r113)] hM rfl rfl rfl rfl rfl (xM_6 _) rfl rfl rfl rfl (by omega) hzx115 rfl ?_
                      refine g_istore 516 hM rfl rfl rfl ?_
                      refine g_aload_n 517 hM rfl rfl rfl ?_
                      refine g_call 520 _ [.int (Int32.ofInt r117)] hM rfl rfl rfl rfl rfl (xM_190 _) rfl (z_rcv2 rfl) rfl rfl (by omega) (w_190 (by omega) h116) rfl ?_
                      refine g_istore 522 hM rfl rfl rfl ?_
                      refine g_aload_n 523 hM rfl rfl rfl ?_
                      refine g_call 526 _ [.int (Int32.ofInt r120)] hM rfl rfl rfl rfl rfl (xM_142 _) rfl (z_rcv2 rfl) rfl rfl (by omega) (w_142 (by omega) h119) rfl ?_
                      refine g_iload 528 hM rfl rfl rfl ?_
                      refine g_ic_eq_t 533 hM rfl rfl hg121 hg122 hc123 ?_
                      refine g_iload 535 hM rfl rfl rfl ?_
                      refine g_if_ne_f 538 550 hM rfl rfl rfl hg122 hc124 ?_
                      refine g_aload_n 539 hM rfl rfl rfl ?_
                      refine g_iconst 540 hM rfl rfl ?_
                      refine g_laload 541 (gJ s118 205 0) hM rfl rfl rfl rfl ⟨by decide, by decide⟩ rfl ?_
                      refine g_iload 543 hM rfl rfl rfl ?_
                      refine g_i2l 544 hM rfl rfl hg125 ?_
                      refine g_lc_eq_t 545 550 hM rfl rfl rfl rfl hc126 ?_
                      refine g_goto 1026 hM rfl rfl ?_
                      refine g_iinc 1029 hM rfl rfl rfl rfl ?_
                      refine g_goto 33 hM rfl rfl ?_
                      exact g_lv [(0, .ref (am_big + 0)), (1, .ref 0), (2, .ref 177), (3, .ref 205), (4, .int (Int32.ofInt (v4 + 4)))] rfl ⟨rfl, rfl, rfl, rfl, rfl, trivial⟩ hK
                    · rw [if_neg hc126] at h
                      cases h
                      refine ⟨x115, hxx115, fun r hK => ?_⟩
                      refine g_iload 35 hM rfl rfl rfl ?_
                      refine g_aload_n 36 hM rfl rfl rfl ?_
                      refine g_kalenX 37 hM rfl rfl ?_
                      refine g_iconst 38 hM rfl rfl ?_
                      refine g_isub 39 hM rfl rfl ?_
                      refine g_ic_gt_f 42 1032 hM rfl rfl rfl hg1 hg2 hc3 ?_
                      refine g_aload_n 43 hM rfl rfl rfl ?_
                      refine g_iload 45 hM rfl rfl rfl ?_
                      refine g_kiaload 46 hM rfl rfl hL hg4 ?_
                      refine g_bipush 48 hM rfl rfl rfl ?_
                      refine g_iand 49 hM rfl rfl ?_
                      refine g_tsw 509 hM rfl (zR_and _ _) hc111 rfl rfl rfl ?_
                      refine g_aload_n 510 hM rfl rfl rfl ?_
                      refine g_aload_n 511 hM rfl rfl rfl ?_
                      refine g_call 514 _ [.int (Int32.ofInt r113)] hM rfl rfl rfl rfl rfl (xM_6 _) rfl rfl rfl rfl (by omega) hzx115 rfl ?_
                      refine g_istore 516 hM rfl rfl rfl ?_
                      refine g_aload_n 517 hM rfl rfl rfl ?_
                      refine g_call 520 _ [.int (Int32.ofInt r117)] hM rfl rfl rfl rfl rfl (xM_190 _) rfl (z_rcv2 rfl) rfl rfl (by omega) (w_190 (by omega) h116) rfl ?_
                      refine g_istore 522 hM rfl rfl rfl ?_
                      refine g_aload_n 523 hM rfl rfl rfl ?_
                      refine g_call 526 _ [.int (Int32.ofInt r120)] hM rfl rfl rfl rfl rfl (xM_142 _) rfl (z_rcv2 rfl) rfl rfl (by omega) (w_142 (by omega) h119) rfl ?_
                      refine g_iload 528 hM rfl rfl rfl ?_
                      refine g_ic_eq_t 533 hM rfl rfl hg121 hg122 hc123 ?_
                      refine g_iload 535 hM rfl rfl rfl ?_
                      refine g_if_ne_f 538 550 hM rfl rfl rfl hg122 hc124 ?_
                      refine g_aload_n 539 hM rfl rfl rfl ?_
                      refine g_iconst 540 hM rfl rfl ?_
                      refine g_laload 541 (gJ s118 205 0) hM rfl rfl rfl rfl ⟨by decide, by decide⟩ rfl ?_
                      refine g_iload 543 hM rfl rfl rfl ?_
                      refine g_i2l 544 hM rfl rfl hg125 ?_
                      refine g_lc_eq_f 545 548 550 hM rfl rfl rfl rfl rfl hc126 ?_
                      refine g_iconst 549 hM rfl rfl ?_
                      rw [show r = _ from hK]
                      exact g_ret hM rfl rfl
                  · rw [if_neg hc124] at h
                    cases h
                    refine ⟨x115, hxx115, fun r hK => ?_⟩
                    refine g_iload 35 hM rfl rfl rfl ?_
                    refine g_aload_n 36 hM rfl rfl rfl ?_
                    refine g_kalenX 37 hM rfl rfl ?_
                    refine g_iconst 38 hM rfl rfl ?_
                    refine g_isub 39 hM rfl rfl ?_
                    refine g_ic_gt_f 42 1032 hM rfl rfl rfl hg1 hg2 hc3 ?_
                    refine g_aload_n 43 hM rfl rfl rfl ?_
                    refine g_iload 45 hM rfl rfl rfl ?_
                    refine g_kiaload 46 hM rfl rfl hL hg4 ?_
                    refine g_bipush 48 hM rfl rfl rfl ?_
                    refine g_iand 49 hM rfl rfl ?_
                    refine g_tsw 509 hM rfl (zR_and _ _) hc111 rfl rfl rfl ?_
                    refine g_aload_n 510 hM rfl rfl rfl ?_
                    refine g_aload_n 511 hM rfl rfl rfl ?_
                    refine g_call 514 _ [.int (Int32.ofInt r113)] hM rfl rfl rfl rfl rfl (xM_6 _) rfl rfl rfl rfl (by omega) hzx115 rfl ?_
                    refine g_istore 516 hM rfl rfl rfl ?_
                    refine g_aload_n 517 hM rfl rfl rfl ?_
                    refine g_call 520 _ [.int (Int32.ofInt r117)] hM rfl rfl rfl rfl rfl (xM_190 _) rfl (z_rcv2 rfl) rfl rfl (by omega) (w_190 (by omega) h116) rfl ?_
                    refine g_istore 522 hM rfl rfl rfl ?_
                    refine g_aload_n 523 hM rfl rfl rfl ?_
                    refine g_call 526 _ [.int (Int32.ofInt r120)] hM rfl rfl rfl rfl rfl (xM_142 _) rfl (z_rcv2 rfl) rfl rfl (by omega) (w_142 (by omega) h119) rfl ?_
                    refine g_iload 528 hM rfl rfl rfl ?_
                    refine g_ic_eq_t 533 hM rfl rfl hg121 hg122 hc123 ?_
                    refine g_iload 535 hM rfl rfl rfl ?_
                    refine g_if_ne_t 550 hM rfl rfl hg122 hc124 ?_
                    refine g_goto 1026 hM rfl rfl ?_
                    refine g_iinc 1029 hM rfl rfl rfl rfl ?_
                    refine g_goto 33 hM rfl rfl ?_
                    exact g_lv [(0, .ref (am_big + 0)), (1, .ref 0), (2, .ref 177), (3, .ref 205), (4, .int (Int32.ofInt (v4 + 4)))] rfl ⟨rfl, rfl, rfl, rfl, rfl, trivial⟩ hK
                · rw [if_neg hc123] at h
                  cases h
                  refine ⟨x115, hxx115, fun r hK => ?_⟩
                  refine g_iload 35 hM rfl rfl rfl ?_
                  refine g_aload_n 36 hM rfl rfl rfl ?_
                  refine g_kalenX 37 hM rfl rfl ?_
                  refine g_iconst 38 hM rfl rfl ?_
                  refine g_isub 39 hM rfl rfl ?_
                  refine g_ic_gt_f 42 1032 hM rfl rfl rfl hg1 hg2 hc3 ?_
                  refine g_aload_n 43 hM rfl rfl rfl ?_
                  refine g_iload 45 hM rfl rfl rfl ?_
                  refine g_kiaload 46 hM rfl rfl hL hg4 ?_
                  refine g_bipush 48 hM rfl rfl rfl ?_
                  refine g_iand 49 hM rfl rfl ?_
                  refine g_tsw 509 hM rfl (zR_and _ _) hc111 rfl rfl rfl ?_
                  refine g_aload_n 510 hM rfl rfl rfl ?_
                  refine g_aload_n 511 hM rfl rfl rfl ?_
                  refine g_call 514 _ [.int (Int32.ofInt r113)] hM rfl rfl rfl rfl rfl (xM_6 _) rfl rfl rfl rfl (by omega) hzx115 rfl ?_
                  refine g_istore 516 hM rfl rfl rfl ?_
                  refine g_aload_n 517 hM rfl rfl rfl ?_
                  refine g_call 520 _ [.int (Int32.ofInt r117)] hM rfl rfl rfl rfl rfl (xM_190 _) rfl (z_rcv2 rfl) rfl rfl (by omega) (w_190 (by omega) h116) rfl ?_
                  refine g_istore 522 hM rfl rfl rfl ?_
                  refine g_aload_n 523 hM rfl rfl rfl ?_
                  refine g_call 526 _ [.int (Int32.ofInt r120)] hM rfl rfl rfl rfl rfl (xM_142 _) rfl (z_rcv2 rfl) rfl rfl (by omega) (w_142 (by omega) h119) rfl ?_
                  refine g_iload 528 hM rfl rfl rfl ?_
                  refine g_ic_eq_f 531 533 hM rfl rfl rfl hg121 hg122 hc123 ?_
                  refine g_iconst 532 hM rfl rfl ?_
                  rw [show r = _ from hK]
                  exact g_ret hM rfl rfl
              · rw [if_neg hc111] at h
                by_cases hc127 : t_0_49 (zand (gX k v4) 31) = 553
                · rw [if_pos hc127] at h
                  obtain ⟨r129, s130, h128, h⟩ := zb_some h
                  obtain ⟨r132, s133, h131, h⟩ := zb_some h
                  obtain ⟨hg134, h⟩ := zg_some h
                  obtain ⟨hg135, h⟩ := zg_some h
                  by_cases hc136 : r129 = r132
                  · rw [if_pos hc136] at h
                    cases h
                    refine ⟨x, Or.inl rfl, fun r hK => ?_⟩
                    refine g_iload 35 hM rfl rfl rfl ?_
                    refine g_aload_n 36 hM rfl rfl rfl ?_
                    refine g_kalenX 37 hM rfl rfl ?_
                    refine g_iconst 38 hM rfl rfl ?_
                    refine g_isub 39 hM rfl rfl ?_
                    refine g_ic_gt_f 42 1032 hM rfl rfl rfl hg1 hg2 hc3 ?_
                    refine g_aload_n 43 hM rfl rfl rfl ?_
                    refine g_iload 45 hM rfl rfl rfl ?_
                    refine g_kiaload 46 hM rfl rfl hL hg4 ?_
                    refine g_bipush 48 hM rfl rfl rfl ?_
                    refine g_iand 49 hM rfl rfl ?_
                    refine g_tsw 553 hM rfl (zR_and _ _) hc127 rfl rfl rfl ?_
                    refine g_aload_n 554 hM rfl rfl rfl ?_
                    refine g_call 557 _ [.int (Int32.ofInt r129)] hM rfl rfl rfl rfl rfl (xM_16 _) rfl (z_rcv2 rfl) rfl rfl (by omega) (w_16 (by omega) h128) rfl ?_
                    refine g_aload_n 558 hM rfl rfl rfl ?_
                    refine g_call 561 _ [.int (Int32.ofInt r132), .int (Int32.ofInt r129)] hM rfl rfl rfl rfl rfl (xM_191 _) rfl (z_rcv2 rfl) rfl rfl (by omega) (w_191 (by omega) h131) rfl ?_
                    refine g_ic_eq_t 1026 hM rfl rfl hg134 hg135 hc136 ?_
                    refine g_iinc 1029 hM rfl rfl rfl rfl ?_
                    refine g_goto 33 hM rfl rfl ?_
                    exact g_lv [(0, .ref (am_big + 0)), (1, .ref 0), (2, .ref 177), (3, .ref 205), (4, .int (Int32.ofInt (v4 + 4)))] rfl ⟨rfl, rfl, rfl, rfl, rfl, trivial⟩ hK
                  · rw [if_neg hc136] at h
                    cases h
                    refine ⟨x, Or.inl rfl, fun r hK => ?_⟩
                    refine g_iload 35 hM rfl rfl rfl ?_
                    refine g_aload_n 36 hM rfl rfl rfl ?_
                    refine g_kalenX 37 hM rfl rfl ?_
                    refine g_iconst 38 hM rfl rfl ?_
                    refine g_isub 39 hM rfl rfl ?_
                    refine g_ic_gt_f 42 1032 hM rfl rfl rfl hg1 hg2 hc3 ?_
                    refine g_aload_n 43 hM rfl rfl rfl ?_
                    refine g_iload 45 hM rfl rfl rfl ?_
                    refine g_kiaload 46 hM rfl rfl hL hg4 ?_
                    refine g_bipush 48 hM rfl rfl rfl ?_
                    refine g_iand 49 hM rfl rfl ?_
                    refine g_tsw 553 hM rfl (zR_and _ _) hc127 rfl rfl rfl ?_
                    refine g_aload_n 554 hM rfl rfl rfl ?_
                    refine g_call 557 _ [.int (Int32.ofInt r129)] hM rfl rfl rfl rfl rfl (xM_16 _) rfl (z_rcv2 rfl) rfl rfl (by omega) (w_16 (by omega) h128) rfl ?_
                    refine g_aload_n 558 hM rfl rfl rfl ?_
                    refine g_call 561 _ [.int (Int32.ofInt r132), .int (Int32.ofInt r129)] hM rfl rfl rfl rfl rfl (xM_191 _) rfl (z_rcv2 rfl) rfl rfl (by omega) (w_191 (by omega) h131) rfl ?_
                    refine g_ic_eq_f 564 1026 hM rfl rfl rfl hg134 hg135 hc136 ?_
                    refine g_iconst 565 hM rfl rfl ?_
                    rw [show r = _ from hK]
                    exact g_ret hM rfl rfl
                · rw [if_neg hc127] at h
                  by_cases hc137 : t_0_49 (zand (gX k v4) 31) = 566
                  · rw [if_pos hc137] at h
                    obtain ⟨r139, s140, h138, h⟩ := zb_some h
                    obtain ⟨r142, s143, h141, h⟩ := zb_some h
                    obtain ⟨hg144, h⟩ := zg_some h
                    obtain ⟨hg145, h⟩ := zg_some h
                    by_cases hc146 : r139 = r142
                    · rw [if_pos hc146] at h
                      cases h
                      refine ⟨x, Or.inl rfl, fun r hK => ?_⟩
                      refine g_iload 35 hM rfl rfl rfl ?_
                      refine g_aload_n 36 hM rfl rfl rfl ?_
                      refine g_kalenX 37 hM rfl rfl ?_
                      refine g_iconst 38 hM rfl rfl ?_
                      refine g_isub 39 hM rfl rfl ?_
                      refine g_ic_gt_f 42 1032 hM rfl rfl rfl hg1 hg2 hc3 ?_
                      refine g_aload_n 43 hM rfl rfl rfl ?_
                      refine g_iload 45 hM rfl rfl rfl ?_
                      refine g_kiaload 46 hM rfl rfl hL hg4 ?_
                      refine g_bipush 48 hM rfl rfl rfl ?_
                      refine g_iand 49 hM rfl rfl ?_
                      refine g_tsw 566 hM rfl (zR_and _ _) hc137 rfl rfl rfl ?_
                      refine g_aload_n 567 hM rfl rfl rfl ?_
                      refine g_call 570 _ [.int (Int32.ofInt r139)] hM rfl rfl rfl rfl rfl (xM_23 _) rfl (z_rcv2 rfl) rfl rfl (by omega) (w_23 (by omega) h138) rfl ?_
                      refine g_aload_n 571 hM rfl rfl rfl ?_
                      refine g_call 574 _ [.int (Int32.ofInt r142), .int (Int32.ofInt r139)] hM rfl rfl rfl rfl rfl (xM_192 _) rfl (z_rcv2 rfl) rfl rfl (by omega) (w_192 (by omega) h141) rfl ?_
                      refine g_ic_eq_t 1026 hM rfl rfl hg144 hg145 hc146 ?_
                      refine g_iinc 1029 hM rfl rfl rfl rfl ?_
                      refine g_goto 33 hM rfl rfl ?_
                      exact g_lv [(0, .ref (am_big + 0)), (1, .ref 0), (2, .ref 177), (3, .ref 205), (4, .int (Int32.ofInt (v4 + 4)))] rfl ⟨rfl, rfl, rfl, rfl, rfl, trivial⟩ hK
                    · rw [if_neg hc146] at h
                      cases h
                      refine ⟨x, Or.inl rfl, fun r hK => ?_⟩
                      refine g_iload 35 hM rfl rfl rfl ?_
                      refine g_aload_n 36 hM rfl rfl rfl ?_
                      refine g_kalenX 37 hM rfl rfl ?_
                      refine g_iconst 38 hM rfl rfl ?_
                      refine g_isub 39 hM rfl rfl ?_
                      refine g_ic_gt_f 42 1032 hM rfl rfl rfl hg1 hg2 hc3 ?_
                      refine g_aload_n 43 hM rfl rfl rfl ?_
                      refine g_iload 45 hM rfl rfl rfl ?_
                      refine g_kiaload 46 hM rfl rfl hL hg4 ?_
                      refine g_bipush 48 hM rfl rfl rfl ?_
                      refine g_iand 49 hM rfl rfl ?_
                      refine g_tsw 566 hM rfl (zR_and _ _) hc137 rfl rfl rfl ?_
                      refine g_aload_n 567 hM rfl rfl rfl ?_
                      refine g_call 570 _ [.int (Int32.ofInt r139)] hM rfl rfl rfl rfl rfl (xM_23 _) rfl (z_rcv2 rfl) rfl rfl (by omega) (w_23 (by omega) h138) rfl ?_
                      refine g_aload_n 571 hM rfl rfl rfl ?_
                      refine g_call 574 _ [.int (Int32.ofInt r142), .int (Int32.ofInt r139)] hM rfl rfl rfl rfl rfl (xM_192 _) rfl (z_rcv2 rfl) rfl rfl (by omega) (w_192 (by omega) h141) rfl ?_
                      refine g_ic_eq_f 577 1026 hM rfl rfl rfl hg144 hg145 hc146 ?_
                      refine g_iconst 578 hM rfl rfl ?_
                      rw [show r = _ from hK]
                      exact g_ret hM rfl rfl
                  · rw [if_neg hc137] at h
                    by_cases hc147 : t_0_49 (zand (gX k v4) 31) = 579
                    · rw [if_pos hc147] at h
                      obtain ⟨r149, s150, h148, h⟩ := zb_some h
                      obtain ⟨x151, hxx151, hzx151⟩ := w_7 (k := k) (d := d - 1) (by omega) hxl h148
                      obtain ⟨r153, s154, h152, h⟩ := zb_some h
                      obtain ⟨r156, h155, h⟩ := zo_some h
                      obtain ⟨hg157, h⟩ := zg_some h
                      obtain ⟨hg158, h⟩ := zg_some h
                      by_cases hc159 : r156 = r149
                      · rw [if_pos hc159] at h
                        by_cases hc160 : r149 = 0
                        · rw [if_pos hc160] at h
                          obtain ⟨hg161, h⟩ := zg_some h
                          by_cases hc162 : (gJ s154 205 0) = (BitVec.ofInt 64 r153)
                          · rw [if_pos hc162] at h
                            cases h
                            refine ⟨x151, hxx151, fun r hK => ?_⟩
                            refine g_iload 35 hM rfl rfl rfl ?_
                            refine g_aload_n 36 hM rfl rfl rfl ?_
                            refine g_kalenX 37 hM rfl rfl ?_
                            refine g_iconst 38 hM rfl rfl ?_
                            refine g_isub 39 hM rfl rfl ?_
                            refine g_ic_gt_f 42 1032 hM rfl rfl rfl hg1 hg2 hc3 ?_
                            refine g_aload_n 43 hM rfl rfl rfl ?_
                            refine g_iload 45 hM rfl rfl rfl ?_
                            refine g_kiaload 46 hM rfl rfl hL hg4 ?_
                            refine g_bipush 48 hM rfl rfl rfl ?_
                            refine g_iand 49 hM rfl rfl ?_
                            refine g_tsw 579 hM rfl (zR_and _ _) hc147 rfl rfl rfl ?_
                            refine g_aload_n 580 hM rfl rfl rfl ?_
                            refine g_aload_n 581 hM rfl rfl rfl ?_
                            refine g_call 584 _ [.int (Int32.ofInt r149)] hM rfl rfl rfl rfl rfl (xM_7 _) rfl rfl rfl rfl (by omega) hzx151 rfl ?_
                            refine g_istore 586 hM rfl rfl rfl ?_
                            refine g_aload_n 587 hM rfl rfl rfl ?_
                            refine g_call 590 _ [.int (Int32.ofInt r153)] hM rfl rfl rfl rfl rfl (xM_223 _) rfl (z_rcv2 rfl) rfl rfl (by omega) (w_223 (by omega) h152) rfl ?_
                            refine g_istore 592 hM rfl rfl rfl ?_
                            refine g_aload_n 593 hM rfl rfl rfl ?_
                            refine g_call 596 _ [.int (Int32.ofInt r156)] hM rfl rfl rfl rfl rfl (xM_142 _) rfl (z_rcv2 rfl) rfl rfl (by omega) (w_142 (by omega) h155) rfl ?_
                            refine g_iload 598 hM rfl rfl rfl ?_
                            refine g_ic_eq_t 603 hM rfl rfl hg157 hg158 hc159 ?_
                            refine g_iload 605 hM rfl rfl rfl ?_
                            refine g_if_ne_f 608 620 hM rfl rfl rfl hg158 hc160 ?_
                            refine g_aload_n 609 hM rfl rfl rfl ?_
                            refine g_iconst 610 hM rfl rfl ?_
                            refine g_laload 611 (gJ s154 205 0) hM rfl rfl rfl rfl ⟨by decide, by decide⟩ rfl ?_
                            refine g_iload 613 hM rfl rfl rfl ?_
                            refine g_i2l 614 hM rfl rfl hg161 ?_
                            refine g_lc_eq_t 615 620 hM rfl rfl rfl rfl hc162 ?_
                            refine g_goto 1026 hM rfl rfl ?_
                            refine g_iinc 1029 hM rfl rfl rfl rfl ?_
                            refine g_goto 33 hM rfl rfl ?_
                            exact g_lv [(0, .ref (am_big + 0)), (1, .ref 0), (2, .ref 177), (3, .ref 205), (4, .int (Int32.ofInt (v4 + 4)))] rfl ⟨rfl, rfl, rfl, rfl, rfl, trivial⟩ hK
                          · rw [if_neg hc162] at h
                            cases h
                            refine ⟨x151, hxx151, fun r hK => ?_⟩
                            refine g_iload 35 hM rfl rfl rfl ?_
                            refine g_aload_n 36 hM rfl rfl rfl ?_
                            refine g_kalenX 37 hM rfl rfl ?_
                            refine g_iconst 38 hM rfl rfl ?_
                            refine g_isub 39 hM rfl rfl ?_
                            refine g_ic_gt_f 42 1032 hM rfl rfl rfl hg1 hg2 hc3 ?_
                            refine g_aload_n 43 hM rfl rfl rfl ?_
                            refine g_iload 45 hM rfl rfl rfl ?_
                            refine g_kiaload 46 hM rfl rfl hL hg4 ?_
                            refine g_bipush 48 hM rfl rfl rfl ?_
                            refine g_iand 49 hM rfl rfl ?_
                            refine g_tsw 579 hM rfl (zR_and _ _) hc147 rfl rfl rfl ?_
                            refine g_aload_n 580 hM rfl rfl rfl ?_
                            refine g_aload_n 581 hM rfl rfl rfl ?_
                            refine g_call 584 _ [.int (Int32.ofInt r149)] hM rfl rfl rfl rfl rfl (xM_7 _) rfl rfl rfl rfl (by omega) hzx151 rfl ?_
                            refine g_istore 586 hM rfl rfl rfl ?_
                            refine g_aload_n 587 hM rfl rfl rfl ?_
                            refine g_call 590 _ [.int (Int32.ofInt r153)] hM rfl rfl rfl rfl rfl (xM_223 _) rfl (z_rcv2 rfl) rfl rfl (by omega) (w_223 (by omega) h152) rfl ?_
                            refine g_istore 592 hM rfl rfl rfl ?_
                            refine g_aload_n 593 hM rfl rfl rfl ?_
                            refine g_call 596 _ [.int (Int32.ofInt r156)] hM rfl rfl rfl rfl rfl (xM_142 _) rfl (z_rcv2 rfl) rfl rfl (by omega) (w_142 (by omega) h155) rfl ?_
                            refine g_iload 598 hM rfl rfl rfl ?_
                            refine g_ic_eq_t 603 hM rfl rfl hg157 hg158 hc159 ?_
                            refine g_iload 605 hM rfl rfl rfl ?_
                            refine g_if_ne_f 608 620 hM rfl rfl rfl hg158 hc160 ?_
                            refine g_aload_n 609 hM rfl rfl rfl ?_
                            refine g_iconst 610 hM rfl rfl ?_
                            refine g_laload 611 (gJ s154 205 0) hM rfl rfl rfl rfl ⟨by decide, by decide⟩ rfl ?_
                            refine g_iload 613 hM rfl rfl rfl ?_
                            refine g_i2l 614 hM rfl rfl hg161 ?_
                            refine g_lc_eq_f 615 618 620 hM rfl rfl rfl rfl rfl hc162 ?_
                            refine g_iconst 619 hM rfl rfl ?_
                            rw [show r = _ from hK]
                            exact g_ret hM rfl rfl
                        · rw [if_neg hc160] at h
                          cases h
                          refine ⟨x151, hxx151, fun r hK => ?_⟩
                          refine g_iload 35 hM rfl rfl rfl ?_
                          refine g_aload_n 36 hM rfl rfl rfl ?_
                          refine g_kalenX 37 hM rfl rfl ?_
                          refine g_iconst 38 hM rfl rfl ?_
                          refine g_isub 39 hM rfl rfl ?_
                          refine g_ic_gt_f 42 1032 hM rfl rfl rfl hg1 hg2 hc3 ?_
                          refine g_aload_n 43 hM rfl rfl rfl ?_
                          refine g_iload 45 hM rfl rfl rfl ?_
                          refine g_kiaload 46 hM rfl rfl hL hg4 ?_
                          refine g_bipush 48 hM rfl rfl rfl ?_
                          refine g_iand 49 hM rfl rfl ?_
                          refine g_tsw 579 hM rfl (zR_and _ _) hc147 rfl rfl rfl ?_
                          refine g_aload_n 580 hM rfl rfl rfl ?_
                          refine g_aload_n 581 hM rfl rfl rfl ?_
                          refine g_call 584 _ [.int (Int32.ofInt r149)] hM rfl rfl rfl rfl rfl (xM_7 _) rfl rfl rfl rfl (by omega) hzx151 rfl ?_
                          refine g_istore 586 hM rfl rfl rfl ?_
                          refine g_aload_n 587 hM rfl rfl rfl ?_
                          refine g_call 590 _ [.int (Int32.ofInt r153)] hM rfl rfl rfl rfl rfl (xM_223 _) rfl (z_rcv2 rfl) rfl rfl (by omega) (w_223 (by omega) h152) rfl ?_
                          refine g_istore 592 hM rfl rfl rfl ?_
                          refine g_aload_n 593 hM rfl rfl rfl ?_
                          refine g_call 596 _ [.int (Int32.ofInt r156)] hM rfl rfl rfl rfl rfl (xM_142 _) rfl (z_rcv2 rfl) rfl rfl (by omega) (w_142 (by omega) h155) rfl ?_
                          refine g_iload 598 hM rfl rfl rfl ?_
                          refine g_ic_eq_t 603 hM rfl rfl hg157 hg158 hc159 ?_
                          refine g_iload 605 hM rfl rfl rfl ?_
                          refine g_if_ne_t 620 hM rfl rfl hg158 hc160 ?_
                          refine g_goto 1026 hM rfl rfl ?_
                          refine g_iinc 1029 hM rfl rfl rfl rfl ?_
                          refine g_goto 33 hM rfl rfl ?_
                          exact g_lv [(0, .ref (am_big + 0)), (1, .ref 0), (2, .ref 177), (3, .ref 205), (4, .int (Int32.ofInt (v4 + 4)))] rfl ⟨rfl, rfl, rfl, rfl, rfl, trivial⟩ hK
                      · rw [if_neg hc159] at h
                        cases h
                        refine ⟨x151, hxx151, fun r hK => ?_⟩
                        refine g_iload 35 hM rfl rfl rfl ?_
                        refine g_aload_n 36 hM rfl rfl rfl ?_
                        refine g_kalenX 37 hM rfl rfl ?_
                        refine g_iconst 38 hM rfl rfl ?_
                        refine g_isub 39 hM rfl rfl ?_
                        refine g_ic_gt_f 42 1032 hM rfl rfl rfl hg1 hg2 hc3 ?_
                        refine g_aload_n 43 hM rfl rfl rfl ?_
                        refine g_iload 45 hM rfl rfl rfl ?_
                        refine g_kiaload 46 hM rfl rfl hL hg4 ?_
                        refine g_bipush 48 hM rfl rfl rfl ?_
                        refine g_iand 49 hM rfl rfl ?_
                        refine g_tsw 579 hM rfl (zR_and _ _) hc147 rfl rfl rfl ?_
                        refine g_aload_n 580 hM rfl rfl rfl ?_
                        refine g_aload_n 581 hM rfl rfl rfl ?_
                        refine g_call 584 _ [.int (Int32.ofInt r149)] hM rfl rfl rfl rfl rfl (xM_7 _) rfl rfl rfl rfl (by omega) hzx151 rfl ?_
                        refine g_istore 586 hM rfl rfl rfl ?_
                        refine g_aload_n 587 hM rfl rfl rfl ?_
                        refine g_call 590 _ [.int (Int32.ofInt r153)] hM rfl rfl rfl rfl rfl (xM_223 _) rfl (z_rcv2 rfl) rfl rfl (by omega) (w_223 (by omega) h152) rfl ?_
                        refine g_istore 592 hM rfl rfl rfl ?_
                        refine g_aload_n 593 hM rfl rfl rfl ?_
                        refine g_call 596 _ [.int (Int32.ofInt r156)] hM rfl rfl rfl rfl rfl (xM_142 _) rfl (z_rcv2 rfl) rfl rfl (by omega) (w_142 (by omega) h155) rfl ?_
                        refine g_iload 598 hM rfl rfl rfl ?_
                        refine g_ic_eq_f 601 603 hM rfl rfl rfl hg157 hg158 hc159 ?_
                        refine g_iconst 602 hM rfl rfl ?_
                        rw [show r = _ from hK]
                        exact g_ret hM rfl rfl
                    · rw [if_neg hc147] at h
                      by_cases hc163 : t_0_49 (zand (gX k v4) 31) = 623
                      · rw [if_pos hc163] at h
                        obtain ⟨r165, s166, h164, h⟩ := zb_some h
                        obtain ⟨x167, hxx167, hzx167⟩ := w_8 (k := k) (d := d - 1) (by omega) hxl h164
                        obtain ⟨r169, s170, h168, h⟩ := zb_some h
                        obtain ⟨r172, h171, h⟩ := zo_some h
                        obtain ⟨hg173, h⟩ := zg_some h
                        obtain ⟨hg174, h⟩ := zg_some h
                        by_cases hc175 : r172 = r165
                        · rw [if_pos hc175] at h
                          by_cases hc176 : r165 = 0
                          · rw [if_pos hc176] at h
                            obtain ⟨hg177, h⟩ := zg_some h
                            by_cases hc178 : (gJ s170 205 0) = (BitVec.ofInt 64 r169)
                            · rw [if_pos hc178] at h
                              cases h
                              refine ⟨x167, hxx167, fun r hK => ?_⟩
                              refine g_iload 35 hM rfl rfl rfl ?_
                              refine g_aload_n 36 hM rfl rfl rfl ?_
                              refine g_kalenX 37 hM rfl rfl ?_
                              refine g_iconst 38 hM rfl rfl ?_
                              refine g_isub 39 hM rfl rfl ?_
                              refine g_ic_gt_f 42 1032 hM rfl rfl rfl hg1 hg2 hc3 ?_
                              refine g_aload_n 43 hM rfl rfl rfl ?_
                              refine g_iload 45 hM rfl rfl rfl ?_
                              refine g_kiaload 46 hM rfl rfl hL hg4 ?_
                              refine g_bipush 48 hM rfl rfl rfl ?_
                              refine g_iand 49 hM rfl rfl ?_
                              refine g_tsw 623 hM rfl (zR_and _ _) hc163 rfl rfl rfl ?_
                              refine g_aload_n 624 hM rfl rfl rfl ?_
                              refine g_aload_n 625 hM rfl rfl rfl ?_
                              refine g_call 628 _ [.int (Int32.ofInt r165)] hM rfl rfl rfl rfl rfl (xM_8 _) rfl rfl rfl rfl (by omega) hzx167 rfl ?_
                              refine g_istore 630 hM rfl rfl rfl ?_
                              refine g_aload_n 631 hM rfl rfl rfl ?_
                              refine g_call 634 _ [.int (Int32.ofInt r169)] hM rfl rfl rfl rfl rfl (xM_224 _) rfl (z_rcv2 rfl) rfl rfl (by omega) (w_224 (by omega) h168) rfl ?_
                              refine g_istore 636 hM rfl rfl rfl ?_
                              refine g_aload_n 637 hM rfl rfl rfl ?_
                              refine g_call 640 _ [.int (Int32.ofInt r172)] hM rfl rfl rfl rfl rfl (xM_142 _) rfl (z_rcv2 rfl) rfl rfl (by omega) (w_142 (by omega) h171) rfl ?_
                              refine g_iload 642 hM rfl rfl rfl ?_
                              refine g_ic_eq_t 647 hM rfl rfl hg173 hg174 hc175 ?_
                              refine g_iload 649 hM rfl rfl rfl ?_
                              refine g_if_ne_f 652 664 hM rfl rfl rfl hg174 hc176 ?_
                              refine g_aload_n 653 hM rfl rfl rfl ?_
                              refine g_iconst 654 hM rfl rfl ?_
                              refine g_laload 655 (gJ s170 205 0) hM rfl rfl rfl rfl ⟨by decide, by decide⟩ rfl ?_
                              refine g_iload 657 hM rfl rfl rfl ?_
                              refine g_i2l 658 hM rfl rfl hg177 ?_
                              refine g_lc_eq_t 659 664 hM rfl rfl rfl rfl hc178 ?_
                              refine g_goto 1026 hM rfl rfl ?_
                              refine g_iinc 1029 hM rfl rfl rfl rfl ?_
                              refine g_goto 33 hM rfl rfl ?_
                              exact g_lv [(0, .ref (am_big + 0)), (1, .ref 0), (2, .ref 177), (3, .ref 205), (4, .int (Int32.ofInt (v4 + 4)))] rfl ⟨rfl, rfl, rfl, rfl, rfl, trivial⟩ hK
                            · rw [if_neg hc178] at h
                              cases h
                              refine ⟨x167, hxx167, fun r hK => ?_⟩
                              refine g_iload 35 hM rfl rfl rfl ?_
                              refine g_aload_n 36 hM rfl rfl rfl ?_
                              refine g_kalenX 37 hM rfl rfl ?_
                              refine g_iconst 38 hM rfl rfl ?_
                              refine g_isub 39 hM rfl rfl ?_
                              refine g_ic_gt_f 42 1032 hM rfl rfl rfl hg1 hg2 hc3 ?_
                              refine g_aload_n 43 hM rfl rfl rfl ?_
                              refine g_iload 45 hM rfl rfl rfl ?_
                              refine g_kiaload 46 hM rfl rfl hL hg4 ?_
                              refine g_bipush 48 hM rfl rfl rfl ?_
                              refine g_iand 49 hM rfl rfl ?_
                              refine g_tsw 623 hM rfl (zR_and _ _) hc163 rfl rfl rfl ?_
                              refine g_aload_n 624 hM rfl rfl rfl ?_
                              refine g_aload_n 625 hM rfl rfl rfl ?_
                              refine g_call 628 _ [.int (Int32.ofInt r165)] hM rfl rfl rfl rfl rfl (xM_8 _) rfl rfl rfl rfl (by omega) hzx167 rfl ?_
                              refine g_istore 630 hM rfl rfl rfl ?_
                              refine g_aload_n 631 hM rfl rfl rfl ?_
                              refine g_call 634 _ [.int (Int32.ofInt r169)] hM rfl rfl rfl rfl rfl (xM_224 _) rfl (z_rcv2 rfl) rfl rfl (by omega) (w_224 (by omega) h168) rfl ?_
                              refine g_istore 636 hM rfl rfl rfl ?_
                              refine g_aload_n 637 hM rfl rfl rfl ?_
                              refine g_call 640 _ [.int (Int32.ofInt r172)] hM rfl rfl rfl rfl rfl (xM_142 _) rfl (z_rcv2 rfl) rfl rfl (by omega) (w_142 (by omega) h171) rfl ?_
                              refine g_iload 642 hM rfl rfl rfl ?_
                              refine g_ic_eq_t 647 hM rfl rfl hg173 hg174 hc175 ?_
                              refine g_iload 649 hM rfl rfl rfl ?_
                              refine g_if_ne_f 652 664 hM rfl rfl rfl hg174 hc176 ?_
                              refine g_aload_n 653 hM rfl rfl rfl ?_
                              refine g_iconst 654 hM rfl rfl ?_
                              refine g_laload 655 (gJ s170 205 0) hM rfl rfl rfl rfl ⟨by decide, by decide⟩ rfl ?_
                              refine g_iload 657 hM rfl rfl rfl ?_
                              refine g_i2l 658 hM rfl rfl hg177 ?_
                              refine g_lc_eq_f 659 662 664 hM rfl rfl rfl rfl rfl hc178 ?_
                              refine g_iconst 663 hM rfl rfl ?_
                              rw [show r = _ from hK]
                              exact g_ret hM rfl rfl
                          · rw [if_neg hc176] at h
                            cases h
                            refine ⟨x167, hxx167, fun r hK => ?_⟩
                            refine g_iload 35 hM rfl rfl rfl ?_
                            refine g_aload_n 36 hM rfl rfl rfl ?_
                            refine g_kalenX 37 hM rfl rfl ?_
                            refine g_iconst 38 hM rfl rfl ?_
                            refine g_isub 39 hM rfl rfl ?_
                            refine g_ic_gt_f 42 1032 hM rfl rfl rfl hg1 hg2 hc3 ?_
                            refine g_aload_n 43 hM rfl rfl rfl ?_
                            refine g_iload 45 hM rfl rfl rfl ?_
                            refine g_kiaload 46 hM rfl rfl hL hg4 ?_
                            refine g_bipush 48 hM rfl rfl rfl ?_
                            refine g_iand 49 hM rfl rfl ?_
                            refine g_tsw 623 hM rfl (zR_and _ _) hc163 rfl rfl rfl ?_
                            refine g_aload_n 624 hM rfl rfl rfl ?_
                            refine g_aload_n 625 hM rfl rfl rfl ?_
                            refine g_call 628 _ [.int (Int32.ofInt r165)] hM rfl rfl rfl rfl rfl (xM_8 _) rfl rfl rfl rfl (by omega) hzx167 rfl ?_
                            refine g_istore 630 hM rfl rfl rfl ?_
                            refine g_aload_n 631 hM rfl rfl rfl ?_
                            refine g_call 634 _ [.int (Int32.ofInt r169)] hM rfl rfl rfl rfl rfl (xM_224 _) rfl (z_rcv2 rfl) rfl rfl (by omega) (w_224 (by omega) h168) rfl ?_
                            refine g_istore 636 hM rfl rfl rfl ?_
                            refine g_aload_n 637 hM rfl rfl rfl ?_
                            refine g_call 640 _ [.int (Int32.ofInt r172)] hM rfl rfl rfl rfl rfl (xM_142 _) rfl (z_rcv2 rfl) rfl rfl (by omega) (w_142 (by omega) h171) rfl ?_
                            refine g_iload 642 hM rfl rfl rfl ?_
                            refine g_ic_eq_t 647 hM rfl rfl hg173 hg174 hc175 ?_
                            refine g_iload 649 hM rfl rfl rfl ?_
                            refine g_if_ne_t 664 hM rfl rfl hg174 hc176 ?_
                            refine g_goto 1026 hM rfl rfl ?_
                            refine g_iinc 1029 hM rfl rfl rfl rfl ?_
                            refine g_goto 33 hM rfl rfl ?_
                            exact g_lv [(0, .ref (am_big + 0)), (1, .ref 0), (2, .ref 177), (3, .ref 205), (4, .int (Int32.ofInt (v4 + 4)))] rfl ⟨rfl, rfl, rfl, rfl, rfl, trivial⟩ hK
                        · rw [if_neg hc175] at h
                          cases h
                          refine ⟨x167, hxx167, fun r hK => ?_⟩
                          refine g_iload 35 hM rfl rfl rfl ?_
                          refine g_aload_n 36 hM rfl rfl rfl ?_
                          refine g_kalenX 37 hM rfl rfl ?_
                          refine g_iconst 38 hM rfl rfl ?_
                          refine g_isub 39 hM rfl rfl ?_
                          refine g_ic_gt_f 42 1032 hM rfl rfl rfl hg1 hg2 hc3 ?_
                          refine g_aload_n 43 hM rfl rfl rfl ?_
                          refine g_iload 45 hM rfl rfl rfl ?_
                          refine g_kiaload 46 hM rfl rfl hL hg4 ?_
                          refine g_bipush 48 hM rfl rfl rfl ?_
                          refine g_iand 49 hM rfl rfl ?_
                          refine g_tsw 623 hM rfl (zR_and _ _) hc163 rfl rfl rfl ?_
                          refine g_aload_n 624 hM rfl rfl rfl ?_
                          refine g_aload_n 625 hM rfl rfl rfl ?_
                          refine g_call 628 _ [.int (Int32.ofInt r165)] hM rfl rfl rfl rfl rfl (xM_8 _) rfl rfl rfl rfl (by omega) hzx167 rfl ?_
                          refine g_istore 630 hM rfl rfl rfl ?_
                          refine g_aload_n 631 hM rfl rfl rfl ?_
                          refine g_call 634 _ [.int (Int32.ofInt r169)] hM rfl rfl rfl rfl rfl (xM_224 _) rfl (z_rcv2 rfl) rfl rfl (by omega) (w_224 (by omega) h168) rfl ?_
                          refine g_istore 636 hM rfl rfl rfl ?_
                          refine g_aload_n 637 hM rfl rfl rfl ?_
                          refine g_call 640 _ [.int (Int32.ofInt r172)] hM rfl rfl rfl rfl rfl (xM_142 _) rfl (z_rcv2 rfl) rfl rfl (by omega) (w_142 (by omega) h171) rfl ?_
                          refine g_iload 642 hM rfl rfl rfl ?_
                          refine g_ic_eq_f 645 647 hM rfl rfl rfl hg173 hg174 hc175 ?_
                          refine g_iconst 646 hM rfl rfl ?_
                          rw [show r = _ from hK]
                          exact g_ret hM rfl rfl
                      · rw [if_neg hc163] at h
                        by_cases hc179 : t_0_49 (zand (gX k v4) 31) = 667
                        · rw [if_pos hc179] at h
                          obtain ⟨hg180, h⟩ := zg_some h
                          obtain ⟨hg181, h⟩ := zg_some h
                          obtain ⟨r183, s184, h182, h⟩ := zb_some h
                          obtain ⟨x185, hxx185, hzx185⟩ := w_9 (k := k) (d := d - 1) (by omega) hxl h182
                          obtain ⟨r187, s188, h186, h⟩ := zb_some h
                          obtain ⟨r190, h189, h⟩ := zo_some h
                          obtain ⟨hg191, h⟩ := zg_some h
                          obtain ⟨hg192, h⟩ := zg_some h
                          by_cases hc193 : r190 = r183
                          · rw [if_pos hc193] at h
                            by_cases hc194 : r183 = 0
                            · rw [if_pos hc194] at h
                              obtain ⟨hg195, h⟩ := zg_some h
                              by_cases hc196 : r187 = 0
                              · rw [if_pos hc196] at h
                                by_cases hc197 : (gJ s188 205 0) = (0#64)
                                · rw [if_pos hc197] at h
                                  cases h
                                  refine ⟨x185, hxx185, fun r hK => ?_⟩
                                  refine g_iload 35 hM rfl rfl rfl ?_
                                  refine g_aload_n 36 hM rfl rfl rfl ?_
                                  refine g_kalenX 37 hM rfl rfl ?_
                                  refine g_iconst 38 hM rfl rfl ?_
                                  refine g_isub 39 hM rfl rfl ?_
                                  refine g_ic_gt_f 42 1032 hM rfl rfl rfl hg1 hg2 hc3 ?_
                                  refine g_aload_n 43 hM rfl rfl rfl ?_
                                  refine g_iload 45 hM rfl rfl rfl ?_
                                  refine g_kiaload 46 hM rfl rfl hL hg4 ?_
                                  refine g_bipush 48 hM rfl rfl rfl ?_
                                  refine g_iand 49 hM rfl rfl ?_
                                  refine g_tsw 667 hM rfl (zR_and _ _) hc179 rfl rfl rfl ?_
                                  refine g_aload_n 668 hM rfl rfl rfl ?_
                                  refine g_aload_n 669 hM rfl rfl rfl ?_
                                  refine g_iload 671 hM rfl rfl rfl ?_
                                  refine g_iconst 672 hM rfl rfl ?_
                                  refine g_iadd 673 hM rfl rfl ?_
                                  refine g_kiaload 674 hM rfl rfl hL hg180 ?_
                                  refine g_aload_n 675 hM rfl rfl rfl ?_
                                  refine g_iload 677 hM rfl rfl rfl ?_
                                  refine g_iconst 678 hM rfl rfl ?_
                                  refine g_iadd 679 hM rfl rfl ?_
                                  refine g_kiaload 680 hM rfl rfl hL hg181 ?_
                                  refine g_aload_n 681 hM rfl rfl rfl ?_
                                  refine g_call 684 _ [.int (Int32.ofInt r183)] hM rfl rfl rfl rfl rfl (xM_9 _) rfl rfl rfl rfl (by omega) hzx185 rfl ?_
                                  refine g_istore 686 hM rfl rfl rfl ?_
                                  refine g_aload_n 687 hM rfl rfl rfl ?_
                                  refine g_aload_n 688 hM rfl rfl rfl ?_
                                  refine g_iload 690 hM rfl rfl rfl ?_
                                  refine g_iconst 691 hM rfl rfl ?_
                                  refine g_iadd 692 hM rfl rfl ?_
                                  refine g_kiaload 693 hM rfl rfl hL hg180 ?_
                                  refine g_aload_n 694 hM rfl rfl rfl ?_
                                  refine g_iload 696 hM rfl rfl rfl ?_
                                  refine g_iconst 697 hM rfl rfl ?_
                                  refine g_iadd 698 hM rfl rfl ?_
                                  refine g_kiaload 699 hM rfl rfl hL hg181 ?_
                                  refine g_call 702 _ [.int (Int32.ofInt r187)] hM rfl rfl rfl rfl rfl (xM_225 _) rfl (z_rcv2 rfl) rfl rfl (by omega) (w_225 (by omega) h186) rfl ?_
                                  refine g_istore 704 hM rfl rfl rfl ?_
                                  refine g_aload_n 705 hM rfl rfl rfl ?_
                                  refine g_call 708 _ [.int (Int32.ofInt r190)] hM rfl rfl rfl rfl rfl (xM_142 _) rfl (z_rcv2 rfl) rfl rfl (by omega) (w_142 (by omega) h189) rfl ?_
                                  refine g_iload 710 hM rfl rfl rfl ?_
                                  refine g_ic_eq_t 715 hM rfl rfl hg191 hg192 hc193 ?_
                                  refine g_iload 717 hM rfl rfl rfl ?_
                                  refine g_if_ne_f 720 739 hM rfl rfl rfl hg192 hc194 ?_
                                  refine g_aload_n 721 hM rfl rfl rfl ?_
                                  refine g_iconst 722 hM rfl rfl ?_
                                  refine g_laload 723 (gJ s188 205 0) hM rfl rfl rfl rfl ⟨by decide, by decide⟩ rfl ?_
                                  refine g_iload 725 hM rfl rfl rfl ?_
                                  refine g_if_eq_t 732 hM rfl rfl hg195 hc196 ?_
                                  refine g_lconst 733 (0#64) hM rfl rfl rfl ?_
                                  refine g_lc_eq_t 734 739 hM rfl rfl rfl rfl hc197 ?_
                                  refine g_goto 1026 hM rfl rfl ?_
                                  refine g_iinc 1029 hM rfl rfl rfl rfl ?_
                                  refine g_goto 33 hM rfl rfl ?_
                                  exact g_lv [(0, .ref (am_big + 0)), (1, .ref 0), (2, .ref 177), (3, .ref 205), (4, .int (Int32.ofInt (v4 + 4)))] rfl ⟨rfl, rfl, rfl, rfl, rfl, trivial⟩ hK
                                · rw [if_neg hc197] at h
                                  cases h
                                  refine ⟨x185, hxx185, fun r hK => ?_⟩
                                  refine g_iload 35 hM rfl rfl rfl ?_
                                  refine g_aload_n 36 hM rfl rfl rfl ?_
                                  refine g_kalenX 37 hM rfl rfl ?_
                                  refine g_iconst 38 hM rfl rfl ?_
                                  refine g_isub 39 hM rfl rfl ?_
                                  refine g_ic_gt_f 42 1032 hM rfl rfl rfl hg1 hg2 hc3 ?_
                                  refine g_aload_n 43 hM rfl rfl rfl ?_
                                  refine g_iload 45 hM rfl rfl rfl ?_
                                  refine g_kiaload 46 hM rfl rfl hL hg4 ?_
                                  refine g_bipush 48 hM rfl rfl rfl ?_
                                  refine g_iand 49 hM rfl rfl ?_
                                  refine g_tsw 667 hM rfl (zR_and _ _) hc179 rfl rfl rfl ?_
                                  refine g_aload_n 668 hM rfl rfl rfl ?_
                                  refine g_aload_n 669 hM rfl rfl rfl ?_
                                  refine g_iload 671 hM rfl rfl rfl ?_
                                  refine g_iconst 672 hM rfl rfl ?_
                                  refine g_iadd 673 hM rfl rfl ?_
                                  refine g_kiaload 674 hM rfl rfl hL hg180 ?_
                                  refine g_aload_n 675 hM rfl rfl rfl ?_
                                  refine g_iload 677 hM rfl rfl rfl ?_
                                  refine g_iconst 678 hM rfl rfl ?_
                                  refine g_iadd 679 hM rfl rfl ?_
                                  refine g_kiaload 680 hM rfl rfl hL hg181 ?_
                                  refine g_aload_n 681 hM rfl rfl rfl ?_
                                  refine g_call 684 _ [.int (Int32.ofInt r183)] hM rfl rfl rfl rfl rfl (xM_9 _) rfl rfl rfl rfl (by omega) hzx185 rfl ?_
                                  refine g_istore 686 hM rfl rfl rfl ?_
                                  refine g_aload_n 687 hM rfl rfl rfl ?_
                                  refine g_aload_n 688 hM rfl rfl rfl ?_
                                  refine g_iload 690 hM rfl rfl rfl ?_
                                  refine g_iconst 691 hM rfl rfl ?_
                                  refine g_iadd 692 hM rfl rfl ?_
                                  refine g_kiaload 693 hM rfl rfl hL hg180 ?_
                                  refine g_aload_n 694 hM rfl rfl rfl ?_
                                  refine g_iload 696 hM rfl rfl rfl ?_
                                  refine g_iconst 697 hM rfl rfl ?_
                                  refine g_iadd 698 hM rfl rfl ?_
                                  refine g_kiaload 699 hM rfl rfl hL hg181 ?_
                                  refine g_call 702 _ [.int (Int32.ofInt r187)] hM rfl rfl rfl rfl rfl (xM_225 _) rfl (z_rcv2 rfl) rfl rfl (by omega) (w_225 (by omega) h186) rfl ?_
                                  refine g_istore 704 hM rfl rfl rfl ?_
                                  refine g_aload_n 705 hM rfl rfl rfl ?_
                                  refine g_call 708 _ [.int (Int32.ofInt r190)] hM rfl rfl rfl rfl rfl (xM_142 _) rfl (z_rcv2 rfl) rfl rfl (by omega) (w_142 (by omega) h189) rfl ?_
                                  refine g_iload 710 hM rfl rfl rfl ?_
                                  refine g_ic_eq_t 715 hM rfl rfl hg191 hg192 hc193 ?_
                                  refine g_iload 717 hM rfl rfl rfl ?_
                                  refine g_if_ne_f 720 739 hM rfl rfl rfl hg192 hc194 ?_
                                  refine g_aload_n 721 hM rfl rfl rfl ?_
                                  refine g_iconst 722 hM rfl rfl ?_
                                  refine g_laload 723 (gJ s188 205 0) hM rfl rfl rfl rfl ⟨by decide, by decide⟩ rfl ?_
                                  refine g_iload 725 hM rfl rfl rfl ?_
                                  refine g_if_eq_t 732 hM rfl rfl hg195 hc196 ?_
                                  refine g_lconst 733 (0#64) hM rfl rfl rfl ?_
                                  refine g_lc_eq_f 734 737 739 hM rfl rfl rfl rfl rfl hc197 ?_
                                  refine g_iconst 738 hM rfl rfl ?_
                                  rw [show r = _ from hK]
                                  exact g_ret hM rfl rfl
                              · rw [if_neg hc196] at h
                                by_cases hc198 : (gJ s188 205 0) = (1#64)
                                · rw [if_pos hc198] at h
                                  cases h
                                  refine ⟨x185, hxx185, fun r hK => ?_⟩
                                  refine g_iload 35 hM rfl rfl rfl ?_
                                  refine g_aload_n 36 hM rfl rfl rfl ?_
                                  refine g_kalenX 37 hM rfl rfl ?_
                                  refine g_iconst 38 hM rfl rfl ?_
                                  refine g_isub 39 hM rfl rfl ?_
                                  refine g_ic_gt_f 42 1032 hM rfl rfl rfl hg1 hg2 hc3 ?_
                                  refine g_aload_n 43 hM rfl rfl rfl ?_
                                  refine g_iload 45 hM rfl rfl rfl ?_
                                  refine g_kiaload 46 hM rfl rfl hL hg4 ?_
                                  refine g_bipush 48 hM rfl rfl rfl ?_
                                  refine g_iand 49 hM rfl rfl ?_
                                  refine g_tsw 667 hM rfl (zR_and _ _) hc179 rfl rfl rfl ?_
                                  refine g_aload_n 668 hM rfl rfl rfl ?_
                                  refine g_aload_n 669 hM rfl rfl rfl ?_
                                  refine g_iload 671 hM rfl rfl rfl ?_
                                  refine g_iconst 672 hM rfl rfl ?_
                                  refine g_iadd 673 hM rfl rfl ?_
                                  refine g_kiaload 674 hM rfl rfl hL hg180 ?_
                                  refine g_aload_n 675 hM rfl rfl rfl ?_
                                  refine g_iload 677 hM rfl rfl rfl ?_
                                  refine g_iconst 678 hM rfl rfl ?_
                                  refine g_iadd 679 hM rfl rfl ?_
                                  refine g_kiaload 680 hM rfl rfl hL hg181 ?_
                                  refine g_aload_n 681 hM rfl rfl rfl ?_
                                  refine g_call 684 _ [.int (Int32.ofInt r183)] hM rfl rfl rfl rfl rfl (xM_9 _) rfl rfl rfl rfl (by omega) hzx185 rfl ?_
                                  refine g_istore 686 hM rfl rfl rfl ?_
                                  refine g_aload_n 687 hM rfl rfl rfl ?_
                                  refine g_aload_n 688 hM rfl rfl rfl ?_
                                  refine g_iload 690 hM rfl rfl rfl ?_
                                  refine g_iconst 691 hM rfl rfl ?_
                                  refine g_iadd 692 hM rfl rfl ?_
                                  refine g_kiaload 693 hM rfl rfl hL hg180 ?_
                                  refine g_aload_n 694 hM rfl rfl rfl ?_
                                  refine g_iload 696 hM rfl rfl rfl ?_
                                  refine g_iconst 697 hM rfl rfl ?_
                                  refine g_iadd 698 hM rfl rfl ?_
                                  refine g_kiaload 699 hM rfl rfl hL hg181 ?_
                                  refine g_call 702 _ [.int (Int32.ofInt r187)] hM rfl rfl rfl rfl rfl (xM_225 _) rfl (z_rcv2 rfl) rfl rfl (by omega) (w_225 (by omega) h186) rfl ?_
                                  refine g_istore 704 hM rfl rfl rfl ?_
                                  refine g_aload_n 705 hM rfl rfl rfl ?_
                                  refine g_call 708 _ [.int (Int32.ofInt r190)] hM rfl rfl rfl rfl rfl (xM_142 _) rfl (z_rcv2 rfl) rfl rfl (by omega) (w_142 (by omega) h189) rfl ?_
                                  refine g_iload 710 hM rfl rfl rfl ?_
                                  refine g_ic_eq_t 715 hM rfl rfl hg191 hg192 hc193 ?_
                                  refine g_iload 717 hM rfl rfl rfl ?_
                                  refine g_if_ne_f 720 739 hM rfl rfl rfl hg192 hc194 ?_
                                  refine g_aload_n 721 hM rfl rfl rfl ?_
                                  refine g_iconst 722 hM rfl rfl ?_
                                  refine g_laload 723 (gJ s188 205 0) hM rfl rfl rfl rfl ⟨by decide, by decide⟩ rfl ?_
                                  refine g_iload 725 hM rfl rfl rfl ?_
                                  refine g_if_eq_f 728 732 hM rfl rfl rfl hg195 hc196 ?_
                                  refine g_lconst 729 (1#64) hM rfl rfl rfl ?_
                                  refine g_goto 733 hM rfl rfl ?_
                                  refine g_lc_eq_t 734 739 hM rfl rfl rfl rfl hc198 ?_
                                  refine g_goto 1026 hM rfl rfl ?_
                                  refine g_iinc 1029 hM rfl rfl rfl rfl ?_
                                  refine g_goto 33 hM rfl rfl ?_
                                  exact g_lv [(0, .ref (am_big + 0)), (1, .ref 0), (2, .ref 177), (3, .ref 205), (4, .int (Int32.ofInt (v4 + 4)))] rfl ⟨rfl, rfl, rfl, rfl, rfl, trivial⟩ hK
                                · rw [if_neg hc198] at h
                                  cases h
                                  refine ⟨x185, hxx185, fun r hK => ?_⟩
                                  refine g_iload 35 hM rfl rfl rfl ?_
                                  refine g_aload_n 36 hM rfl rfl rfl ?_
                                  refine g_kalenX 37 hM rfl rfl ?_
                                  refine g_iconst 38 hM rfl rfl ?_
                                  refine g_isub 39 hM rfl rfl ?_
                                  refine g_ic_gt_f 42 1032 hM rfl rfl rfl hg1 hg2 hc3 ?_
                                  refine g_aload_n 43 hM rfl rfl rfl ?_
                                  refine g_iload 45 hM rfl rfl rfl ?_
                                  refine g_kiaload 46 hM rfl rfl hL hg4 ?_
                                  refine g_bipush 48 hM rfl rfl rfl ?_
                                  refine g_iand 49 hM rfl rfl ?_
                                  refine g_tsw 667 hM rfl (zR_and _ _) hc179 rfl rfl rfl ?_
                                  refine g_aload_n 668 hM rfl rfl rfl ?_
                                  refine g_aload_n 669 hM rfl rfl rfl ?_
                                  refine g_iload 671 hM rfl rfl rfl ?_
                                  refine g_iconst 672 hM rfl rfl ?_
                                  refine g_iadd 673 hM rfl rfl ?_
                                  refine g_kiaload 674 hM rfl rfl hL hg180 ?_
                                  refine g_aload_n 675 hM rfl rfl rfl ?_
                                  refine g_iload 677 hM rfl rfl rfl ?_
                                  refine g_iconst 678 hM rfl rfl ?_
                                  refine g_iadd 679 hM rfl rfl ?_
                                  refine g_kiaload 680 hM rfl rfl hL hg181 ?_
                                  refine g_aload_n 681 hM rfl rfl rfl ?_
                                  refine g_call 684 _ [.int (Int32.ofInt r183)] hM rfl rfl rfl rfl rfl (xM_9 _) rfl rfl rfl rfl (by omega) hzx185 rfl ?_
                                  refine g_istore 686 hM rfl rfl rfl ?_
                                  refine g_aload_n 687 hM rfl rfl rfl ?_
                                  refine g_aload_n 688 hM rfl rfl rfl ?_
                                  refine g_iload 690 hM rfl rfl rfl ?_
                                  refine g_iconst 691 hM rfl rfl ?_
                                  refine g_iadd 692 hM rfl rfl ?_
                                  refine g_kiaload 693 hM rfl rfl hL hg180 ?_
                                  refine g_aload_n 694 hM rfl rfl rfl ?_
                                  refine g_iload 696 hM rfl rfl rfl ?_
                                  refine g_iconst 697 hM rfl rfl ?_
                                  refine g_iadd 698 hM rfl rfl ?_
                                  refine g_kiaload 699 hM rfl rfl hL hg181 ?_
                                  refine g_call 702 _ [.int (Int32.ofInt r187)] hM rfl rfl rfl rfl rfl (xM_225 _) rfl (z_rcv2 rfl) rfl rfl (by omega) (w_225 (by omega) h186) rfl ?_
                                  refine g_istore 704 hM rfl rfl rfl ?_
                                  refine g_aload_n 705 hM rfl rfl rfl ?_
                                  refine g_call 708 _ [.int (Int32.ofInt r190)] hM rfl rfl rfl rfl rfl (xM_142 _) rfl (z_rcv2 rfl) rfl rfl (by omega) (w_142 (by omega) h189) rfl ?_
                                  refine g_iload 710 hM rfl rfl rfl ?_
                                  refine g_ic_eq_t 715 hM rfl rfl hg191 hg192 hc193 ?_
                                  refine g_iload 717 hM rfl rfl rfl ?_
                                  refine g_if_ne_f 720 739 hM rfl rfl rfl hg192 hc194 ?_
                                  refine g_aload_n 721 hM rfl rfl rfl ?_
                                  refine g_iconst 722 hM rfl rfl ?_
                                  refine g_laload 723 (gJ s188 205 0) hM rfl rfl rfl rfl ⟨by decide, by decide⟩ rfl ?_
                                  refine g_iload 725 hM rfl rfl rfl ?_
                                  refine g_if_eq_f 728 732 hM rfl rfl rfl hg195 hc196 ?_
                                  refine g_lconst 729 (1#64) hM rfl rfl rfl ?_
                                  refine g_goto 733 hM rfl rfl ?_
                                  refine g_lc_eq_f 734 737 739 hM rfl rfl rfl rfl rfl hc198 ?_
                                  refine g_iconst 738 hM rfl rfl ?_
                                  rw [show r = _ from hK]
                                  exact g_ret hM rfl rfl
                            · rw [if_neg hc194] at h
                              cases h
                              refine ⟨x185, hxx185, fun r hK => ?_⟩
                              refine g_iload 35 hM rfl rfl rfl ?_
                              refine g_aload_n 36 hM rfl rfl rfl ?_
                              refine g_kalenX 37 hM rfl rfl ?_
                              refine g_iconst 38 hM rfl rfl ?_
                              refine g_isub 39 hM rfl rfl ?_
                              refine g_ic_gt_f 42 1032 hM rfl rfl rfl hg1 hg2 hc3 ?_
                              refine g_aload_n 43 hM rfl rfl rfl ?_
                              refine g_iload 45 hM rfl rfl rfl ?_
                              refine g_kiaload 46 hM rfl rfl hL hg4 ?_
                              refine g_bipush 48 hM rfl rfl rfl ?_
                              refine g_iand 49 hM rfl rfl ?_
                              refine g_tsw 667 hM rfl (zR_and _ _) hc179 rfl rfl rfl ?_
                              refine g_aload_n 668 hM rfl rfl rfl ?_
                              refine g_aload_n 669 hM rfl rfl rfl ?_
                              refine g_iload 671 hM rfl rfl rfl ?_
                              refine g_iconst 672 hM rfl rfl ?_
                              refine g_iadd 673 hM rfl rfl ?_
                              refine g_kiaload 674 hM rfl rfl hL hg180 ?_
                              refine g_aload_n 675 hM rfl rfl rfl ?_
                              refine g_iload 677 hM rfl rfl rfl ?_
                              refine g_iconst 678 hM rfl rfl ?_
                              refine g_iadd 679 hM rfl rfl ?_
                              refine g_kiaload 680 hM rfl rfl hL hg181 ?_
                              refine g_aload_n 681 hM rfl rfl rfl ?_
                              refine g_call 684 _ [.int (Int32.ofInt r183)] hM rfl rfl rfl rfl rfl (xM_9 _) rfl rfl rfl rfl (by omega) hzx185 rfl ?_
                              refine g_istore 686 hM rfl rfl rfl ?_
                              refine g_aload_n 687 hM rfl rfl rfl ?_
                              refine g_aload_n 688 hM rfl rfl rfl ?_
                              refine g_iload 690 hM rfl rfl rfl ?_
                              refine g_iconst 691 hM rfl rfl ?_
                              refine g_iadd 692 hM rfl rfl ?_
                              refine g_kiaload 693 hM rfl rfl hL hg180 ?_
                              refine g_aload_n 694 hM rfl rfl rfl ?_
                              refine g_iload 696 hM rfl rfl rfl ?_
                              refine g_iconst 697 hM rfl rfl ?_
                              refine g_iadd 698 hM rfl rfl ?_
                              refine g_kiaload 699 hM rfl rfl hL hg181 ?_
                              refine g_call 702 _ [.int (Int32.ofInt r187)] hM rfl rfl rfl rfl rfl (xM_225 _) rfl (z_rcv2 rfl) rfl rfl (by omega) (w_225 (by omega) h186) rfl ?_
                              refine g_istore 704 hM rfl rfl rfl ?_
                              refine g_aload_n 705 hM rfl rfl rfl ?_
                              refine g_call 708 _ [.int (Int32.ofInt r190)] hM rfl rfl rfl rfl rfl (xM_142 _) rfl (z_rcv2 rfl) rfl rfl (by omega) (w_142 (by omega) h189) rfl ?_
                              refine g_iload 710 hM rfl rfl rfl ?_
                              refine g_ic_eq_t 715 hM rfl rfl hg191 hg192 hc193 ?_
                              refine g_iload 717 hM rfl rfl rfl ?_
                              refine g_if_ne_t 739 hM rfl rfl hg192 hc194 ?_
                              refine g_goto 1026 hM rfl rfl ?_
                              refine g_iinc 1029 hM rfl rfl rfl rfl ?_
                              refine g_goto 33 hM rfl rfl ?_
                              exact g_lv [(0, .ref (am_big + 0)), (1, .ref 0), (2, .ref 177), (3, .ref 205), (4, .int (Int32.ofInt (v4 + 4)))] rfl ⟨rfl, rfl, rfl, rfl, rfl, trivial⟩ hK
                          · rw [if_neg hc193] at h
                            cases h
                            refine ⟨x185, hxx185, fun r hK => ?_⟩
                            refine g_iload 35 hM rfl rfl rfl ?_
                            refine g_aload_n 36 hM rfl rfl rfl ?_
                            refine g_kalenX 37 hM rfl rfl ?_
                            refine g_iconst 38 hM rfl rfl ?_
                            refine g_isub 39 hM rfl rfl ?_
                            refine g_ic_gt_f 42 1032 hM rfl rfl rfl hg1 hg2 hc3 ?_
                            refine g_aload_n 43 hM rfl rfl rfl ?_
                            refine g_iload 45 hM rfl rfl rfl ?_
                            refine g_kiaload 46 hM rfl rfl hL hg4 ?_
                            refine g_bipush 48 hM rfl rfl rfl ?_
                            refine g_iand 49 hM rfl rfl ?_
                            refine g_tsw 667 hM rfl (zR_and _ _) hc179 rfl rfl rfl ?_
                            refine g_aload_n 668 hM rfl rfl rfl ?_
                            refine g_aload_n 669 hM rfl rfl rfl ?_
                            refine g_iload 671 hM rfl rfl rfl ?_
                            refine g_iconst 672 hM rfl rfl ?_
                            refine g_iadd 673 hM rfl rfl ?_
                            refine g_kiaload 674 hM rfl rfl hL hg180 ?_
                            refine g_aload_n 675 hM rfl rfl rfl ?_
                            refine g_iload 677 hM rfl rfl rfl ?_
                            refine g_iconst 678 hM rfl rfl ?_
                            refine g_iadd 679 hM rfl rfl ?_
                            refine g_kiaload 680 hM rfl rfl hL hg181 ?_
                            refine g_aload_n 681 hM rfl rfl rfl ?_
                            refine g_call 684 _ [.int (Int32.ofInt r183)] hM rfl rfl rfl rfl rfl (xM_9 _) rfl rfl rfl rfl (by omega) hzx185 rfl ?_
                            refine g_istore 686 hM rfl rfl rfl ?_
                            refine g_aload_n 687 hM rfl rfl rfl ?_
                            refine g_aload_n 688 hM rfl rfl rfl ?_
                            refine g_iload 690 hM rfl rfl rfl ?_
                            refine g_iconst 691 hM rfl rfl ?_
                            refine g_iadd 692 hM rfl rfl ?_
                            refine g_kiaload 693 hM rfl rfl hL hg180 ?_
                            refine g_aload_n 694 hM rfl rfl rfl ?_
                            refine g_iload 696 hM rfl rfl rfl ?_
                            refine g_iconst 697 hM rfl rfl ?_
                            refine g_iadd 698 hM rfl rfl ?_
                            refine g_kiaload 699 hM rfl rfl hL hg181 ?_
                            refine g_call 702 _ [.int (Int32.ofInt r187)] hM rfl rfl rfl rfl rfl (xM_225 _) rfl (z_rcv2 rfl) rfl rfl (by omega) (w_225 (by omega) h186) rfl ?_
                            refine g_istore 704 hM rfl rfl rfl ?_
                            refine g_aload_n 705 hM rfl rfl rfl ?_
                            refine g_call 708 _ [.int (Int32.ofInt r190)] hM rfl rfl rfl rfl rfl (xM_142 _) rfl (z_rcv2 rfl) rfl rfl (by omega) (w_142 (by omega) h189) rfl ?_
                            refine g_iload 710 hM rfl rfl rfl ?_
                            refine g_ic_eq_f 713 715 hM rfl rfl rfl hg191 hg192 hc193 ?_
                            refine g_iconst 714 hM rfl rfl ?_
                            rw [show r = _ from hK]
                            exact g_ret hM rfl rfl
                        · rw [if_neg hc179] at h
                          by_cases hc199 : t_0_49 (zand (gX k v4) 31) = 742
                          · rw [if_pos hc199] at h
                            obtain ⟨r201, s202, h200, h⟩ := zb_some h
                            obtain ⟨r204, s205, h203, h⟩ := zb_some h
                            obtain ⟨hg206, h⟩ := zg_some h
                            obtain ⟨hg207, h⟩ := zg_some h
                            by_cases hc208 : r201 = r204
                            · rw [if_pos hc208] at h
                              cases h
                              refine ⟨x, Or.inl rfl, fun r hK => ?_⟩
                              refine g_iload 35 hM rfl rfl rfl ?_
                              refine g_aload_n 36 hM rfl rfl rfl ?_
                              refine g_kalenX 37 hM rfl rfl ?_
                              refine g_iconst 38 hM rfl rfl ?_
                              refine g_isub 39 hM rfl rfl ?_
                              refine g_ic_gt_f 42 1032 hM rfl rfl rfl hg1 hg2 hc3 ?_
                              refine g_aload_n 43 hM rfl rfl rfl ?_
                              refine g_iload 45 hM rfl rfl rfl ?_
                              refine g_kiaload 46 hM rfl rfl hL hg4 ?_
                              refine g_bipush 48 hM rfl rfl rfl ?_
                              refine g_iand 49 hM rfl rfl ?_
                              refine g_tsw 742 hM rfl (zR_and _ _) hc199 rfl rfl rfl ?_
                              refine g_aload_n 743 hM rfl rfl rfl ?_
                              refine g_call 746 _ [.int (Int32.ofInt r201)] hM rfl rfl rfl rfl rfl (xM_27 _) rfl (z_rcv2 rfl) rfl rfl (by omega) (w_27 (by omega) h200) rfl ?_
                              refine g_aload_n 747 hM rfl rfl rfl ?_
                              refine g_call 750 _ [.int (Int32.ofInt r204), .int (Int32.ofInt r201)] hM rfl rfl rfl rfl rfl (xM_226 _) rfl (z_rcv2 rfl) rfl rfl (by omega) (w_226 (by omega) h203) rfl ?_
                              refine g_ic_eq_t 1026 hM rfl rfl hg206 hg207 hc208 ?_
                              refine g_iinc 1029 hM rfl rfl rfl rfl ?_
                              refine g_goto 33 hM rfl rfl ?_
                              exact g_lv [(0, .ref (am_big + 0)), (1, .ref 0), (2, .ref 177), (3, .ref 205), (4, .int (Int32.ofInt (v4 + 4)))] rfl ⟨rfl, rfl, rfl, rfl, rfl, trivial⟩ hK
                            · rw [if_neg hc208] at h
                              cases h
                              refine ⟨x, Or.inl rfl, fun r hK => ?_⟩
                              refine g_iload 35 hM rfl rfl rfl ?_
                              refine g_aload_n 36 hM rfl rfl rfl ?_
                              refine g_kalenX 37 hM rfl rfl ?_
                              refine g_iconst 38 hM rfl rfl ?_
                              refine g_isub 39 hM rfl rfl ?_
                              refine g_ic_gt_f 42 1032 hM rfl rfl rfl hg1 hg2 hc3 ?_
                              refine g_aload_n 43 hM rfl rfl rfl ?_
                              refine g_iload 45 hM rfl rfl rfl ?_
                              refine g_kiaload 46 hM rfl rfl hL hg4 ?_
                              refine g_bipush 48 hM rfl rfl rfl ?_
                              refine g_iand 49 hM rfl rfl ?_
                              refine g_tsw 742 hM rfl (zR_and _ _) hc199 rfl rfl rfl ?_
                              refine g_aload_n 743 hM rfl rfl rfl ?_
                              refine g_call 746 _ [.int (Int32.ofInt r201)] hM rfl rfl rfl rfl rfl (xM_27 _) rfl (z_rcv2 rfl) rfl rfl (by omega) (w_27 (by omega) h200) rfl ?_
                              refine g_aload_n 747 hM rfl rfl rfl ?_
                              refine g_call 750 _ [.int (Int32.ofInt r204), .int (Int32.ofInt r201)] hM rfl rfl rfl rfl rfl (xM_226 _) rfl (z_rcv2 rfl) rfl rfl (by omega) (w_226 (by omega) h203) rfl ?_
                              refine g_ic_eq_f 753 1026 hM rfl rfl rfl hg206 hg207 hc208 ?_
                              refine g_iconst 754 hM rfl rfl ?_
                              rw [show r = _ from hK]
                              exact g_ret hM rfl rfl
                          · rw [if_neg hc199] at h
                            by_cases hc209 : t_0_49 (zand (gX k v4) 31) = 755
                            · rw [if_pos hc209] at h
                              obtain ⟨r211, s212, h210, h⟩ := zb_some h
                              obtain ⟨r214, s215, h213, h⟩ := zb_some h
                              obtain ⟨hg216, h⟩ := zg_some h
                              obtain ⟨hg217, h⟩ := zg_some h
                              by_cases hc218 : r211 = r214
                              · rw [if_pos hc218] at h
                                cases h
                                refine ⟨x, Or.inl rfl, fun r hK => ?_⟩
                                refine g_iload 35 hM rfl rfl rfl ?_
                                refine g_aload_n 36 hM rfl rfl rfl ?_
                                refine g_kalenX 37 hM rfl rfl ?_
                                refine g_iconst 38 hM rfl rfl ?_
                                refine g_isub 39 hM rfl rfl ?_
                                refine g_ic_gt_f 42 1032 hM rfl rfl rfl hg1 hg2 hc3 ?_
                                refine g_aload_n 43 hM rfl rfl rfl ?_
                                refine g_iload 45 hM rfl rfl rfl ?_
                                refine g_kiaload 46 hM rfl rfl hL hg4 ?_
                                refine g_bipush 48 hM rfl rfl rfl ?_
                                refine g_iand 49 hM rfl rfl ?_
                                refine g_tsw 755 hM rfl (zR_and _ _) hc209 rfl rfl rfl ?_
                                refine g_aload_n 756 hM rfl rfl rfl ?_
                                refine g_call 759 _ [.int (Int32.ofInt r211)] hM rfl rfl rfl rfl rfl (xM_28 _) rfl (z_rcv2 rfl) rfl rfl (by omega) (w_28 (by omega) h210) rfl ?_
                                refine g_aload_n 760 hM rfl rfl rfl ?_
                                refine g_call 763 _ [.int (Int32.ofInt r214), .int (Int32.ofInt r211)] hM rfl rfl rfl rfl rfl (xM_227 _) rfl (z_rcv2 rfl) rfl rfl (by omega) (w_227 (by omega) h213) rfl ?_
                                refine g_ic_eq_t 1026 hM rfl rfl hg216 hg217 hc218 ?_
                                refine g_iinc 1029 hM rfl rfl rfl rfl ?_
                                refine g_goto 33 hM rfl rfl ?_
                                exact g_lv [(0, .ref (am_big + 0)), (1, .ref 0), (2, .ref 177), (3, .ref 205), (4, .int (Int32.ofInt (v4 + 4)))] rfl ⟨rfl, rfl, rfl, rfl, rfl, trivial⟩ hK
                              · rw [if_neg hc218] at h
                                cases h
                                refine ⟨x, Or.inl rfl, fun r hK => ?_⟩
                                refine g_iload 35 hM rfl rfl rfl ?_
                                refine g_aload_n 36 hM rfl rfl rfl ?_
                                refine g_kalenX 37 hM rfl rfl ?_
                                refine g_iconst 38 hM rfl rfl ?_
                                refine g_isub 39 hM rfl rfl ?_
                                refine g_ic_gt_f 42 1032 hM rfl rfl rfl hg1 hg2 hc3 ?_
                                refine g_aload_n 43 hM rfl rfl rfl ?_
                                refine g_iload 45 hM rfl rfl rfl ?_
                                refine g_kiaload 46 hM rfl rfl hL hg4 ?_
                                refine g_bipush 48 hM rfl rfl rfl ?_
                                refine g_iand 49 hM rfl rfl ?_
                                refine g_tsw 755 hM rfl (zR_and _ _) hc209 rfl rfl rfl ?_
                                refine g_aload_n 756 hM rfl rfl rfl ?_
                                refine g_call 759 _ [.int (Int32.ofInt r211)] hM rfl rfl rfl rfl rfl (xM_28 _) rfl (z_rcv2 rfl) rfl rfl (by omega) (w_28 (by omega) h210) rfl ?_
                                refine g_aload_n 760 hM rfl rfl rfl ?_
                                refine g_call 763 _ [.int (Int32.ofInt r214), .int (Int32.ofInt r211)] hM rfl rfl rfl rfl rfl (xM_227 _) rfl (z_rcv2 rfl) rfl rfl (by omega) (w_227 (by omega) h213) rfl ?_
                                refine g_ic_eq_f 766 1026 hM rfl rfl rfl hg216 hg217 hc218 ?_
                                refine g_iconst 767 hM rfl rfl ?_
                                rw [show r = _ from hK]
                                exact g_ret hM rfl rfl
                            · rw [if_neg hc209] at h
                              by_cases hc219 : t_0_49 (zand (gX k v4) 31) = 768
                              · rw [if_pos hc219] at h
                                obtain ⟨r221, s222, h220, h⟩ := zb_some h
                                obtain ⟨r224, s225, h223, h⟩ := zb_some h
                                obtain ⟨hg226, h⟩ := zg_some h
                                obtain ⟨hg227, h⟩ := zg_some h
                                by_cases hc228 : r221 = r224
                                · rw [if_pos hc228] at h
                                  cases h
                                  refine ⟨x, Or.inl rfl, fun r hK => ?_⟩
                                  refine g_iload 35 hM rfl rfl rfl ?_
                                  refine g_aload_n 36 hM rfl rfl rfl ?_
                                  refine g_kalenX 37 hM rfl rfl ?_
                                  refine g_iconst 38 hM rfl rfl ?_
                                  refine g_isub 39 hM rfl rfl ?_
                                  refine g_ic_gt_f 42 1032 hM rfl rfl rfl hg1 hg2 hc3 ?_
                                  refine g_aload_n 43 hM rfl rfl rfl ?_
                                  refine g_iload 45 hM rfl rfl rfl ?_
                                  refine g_kiaload 46 hM rfl rfl hL hg4 ?_
                                  refine g_bipush 48 hM rfl rfl rfl ?_
                                  refine g_iand 49 hM rfl rfl ?_
                                  refine g_tsw 768 hM rfl (zR_and _ _) hc219 rfl rfl rfl ?_
                                  refine g_aload_n 769 hM rfl rfl rfl ?_
                                  refine g_call 772 _ [.int (Int32.ofInt r221)] hM rfl rfl rfl rfl rfl (xM_29 _) rfl (z_rcv2 rfl) rfl rfl (by omega) (w_29 (by omega) h220) rfl ?_
                                  refine g_aload_n 773 hM rfl rfl rfl ?_
                                  refine g_call 776 _ [.int (Int32.ofInt r224), .int (Int32.ofInt r221)] hM rfl rfl rfl rfl rfl (xM_235 _) rfl (z_rcv2 rfl) rfl rfl (by omega) (w_235 (by omega) h223) rfl ?_
                                  refine g_ic_eq_t 1026 hM rfl rfl hg226 hg227 hc228 ?_
                                  refine g_iinc 1029 hM rfl rfl rfl rfl ?_
                                  refine g_goto 33 hM rfl rfl ?_
                                  exact g_lv [(0, .ref (am_big + 0)), (1, .ref 0), (2, .ref 177), (3, .ref 205), (4, .int (Int32.ofInt (v4 + 4)))] rfl ⟨rfl, rfl, rfl, rfl, rfl, trivial⟩ hK
                                · rw [if_neg hc228] at h
                                  cases h
                                  refine ⟨x, Or.inl rfl, fun r hK => ?_⟩
                                  refine g_iload 35 hM rfl rfl rfl ?_
                                  refine g_aload_n 36 hM rfl rfl rfl ?_
                                  refine g_kalenX 37 hM rfl rfl ?_
                                  refine g_iconst 38 hM rfl rfl ?_
                                  refine g_isub 39 hM rfl rfl ?_
                                  refine g_ic_gt_f 42 1032 hM rfl rfl rfl hg1 hg2 hc3 ?_
                                  refine g_aload_n 43 hM rfl rfl rfl ?_
                                  refine g_iload 45 hM rfl rfl rfl ?_
                                  refine g_kiaload 46 hM rfl rfl hL hg4 ?_
                                  refine g_bipush 48 hM rfl rfl rfl ?_
                                  refine g_iand 49 hM rfl rfl ?_
                                  refine g_tsw 768 hM rfl (zR_and _ _) hc219 rfl rfl rfl ?_
                                  refine g_aload_n 769 hM rfl rfl rfl ?_
                                  refine g_call 772 _ [.int (Int32.ofInt r221)] hM rfl rfl rfl rfl rfl (xM_29 _) rfl (z_rcv2 rfl) rfl rfl (by omega) (w_29 (by omega) h220) rfl ?_
                                  refine g_aload_n 773 hM rfl rfl rfl ?_
                                  refine g_call 776 _ [.int (Int32.ofInt r224), .int (Int32.ofInt r221)] hM rfl rfl rfl rfl rfl (xM_235 _) rfl (z_rcv2 rfl) rfl rfl (by omega) (w_235 (by omega) h223) rfl ?_
                                  refine g_ic_eq_f 779 1026 hM rfl rfl rfl hg226 hg227 hc228 ?_
                                  refine g_iconst 780 hM rfl rfl ?_
                                  rw [show r = _ from hK]
                                  exact g_ret hM rfl rfl
                              · rw [if_neg hc219] at h
                                by_cases hc229 : t_0_49 (zand (gX k v4) 31) = 781
                                · rw [if_pos hc229] at h
                                  obtain ⟨r231, s232, h230, h⟩ := zb_some h
                                  obtain ⟨x233, hxx233, hzx233⟩ := w_10 (k := k) (d := d - 1) (by omega) hxl h230
                                  obtain ⟨r235, s236, h234, h⟩ := zb_some h
                                  obtain ⟨r238, h237, h⟩ := zo_some h
                                  obtain ⟨hg239, h⟩ := zg_some h
                                  obtain ⟨hg240, h⟩ := zg_some h
                                  by_cases hc241 : r238 = r231
                                  · rw [if_pos hc241] at h
                                    by_cases hc242 : r231 = 0
                                    · rw [if_pos hc242] at h
                                      obtain ⟨hg243, h⟩ := zg_some h
                                      by_cases hc244 : (gJ s236 205 0) = (BitVec.ofInt 64 r235)
                                      · rw [if_pos hc244] at h
                                        cases h
                                        refine ⟨x233, hxx233, fun r hK => ?_⟩
                                        refine g_iload 35 hM rfl rfl rfl ?_
                                        refine g_aload_n 36 hM rfl rfl rfl ?_
                                        refine g_kalenX 37 hM rfl rfl ?_
                                        refine g_iconst 38 hM rfl rfl ?_
                                        refine g_isub 39 hM rfl rfl ?_
                                        refine g_ic_gt_f 42 1032 hM rfl rfl rfl hg1 hg2 hc3 ?_
                                        refine g_aload_n 43 hM rfl rfl rfl ?_
                                        refine g_iload 45 hM rfl rfl rfl ?_
                                        refine g_kiaload 46 hM rfl rfl hL hg4 ?_
                                        refine g_bipush 48 hM rfl rfl rfl ?_
                                        refine g_iand 49 hM rfl rfl ?_
                                        refine g_tsw 781 hM rfl (zR_and _ _) hc229 rfl rfl rfl ?_
                                        refine g_aload_n 782 hM rfl rfl rfl ?_
                                        refine g_aload_n 783 hM rfl rfl rfl ?_
                                        refine g_call 786 _ [.int (Int32.ofInt r231)] hM rfl rfl rfl rfl rfl (xM_10 _) rfl rfl rfl rfl (by omega) hzx233 rfl ?_
                                        refine g_istore 788 hM rfl rfl rfl ?_
                                        refine g_aload_n 789 hM rfl rfl rfl ?_
                                        refine g_call 792 _ [.int (Int32.ofInt r235)] hM rfl rfl rfl rfl rfl (xM_236 _) rfl (z_rcv2 rfl) rfl rfl (by omega) (w_236 (by omega) h234) rfl ?_
                                        refine g_istore 794 hM rfl rfl rfl ?_
                                        refine g_aload_n 795 hM rfl rfl rfl ?_
                                        refine g_call 798 _ [.int (Int32.ofInt r238)] hM rfl rfl rfl rfl rfl (xM_142 _) rfl (z_rcv2 rfl) rfl rfl (by omega) (w_142 (by omega) h237) rfl ?_
                                        refine g_iload 800 hM rfl rfl rfl ?_
                                        refine g_ic_eq_t 805 hM rfl rfl hg239 hg240 hc241 ?_
                                        refine g_iload 807 hM rfl rfl rfl ?_
                                        refine g_if_ne_f 810 822 hM rfl rfl rfl hg240 hc242 ?_
                                        refine g_aload_n 811 hM rfl rfl rfl ?_
                                        refine g_iconst 812 hM rfl rfl ?_
                                        refine g_laload 813 (gJ s236 205 0) hM rfl rfl rfl rfl ⟨by decide, by decide⟩ rfl ?_
                                        refine g_iload 815 hM rfl rfl rfl ?_
                                        refine g_i2l 816 hM rfl rfl hg243 ?_
                                        refine g_lc_eq_t 817 822 hM rfl rfl rfl rfl hc244 ?_
                                        refine g_goto 1026 hM rfl rfl ?_
                                        refine g_iinc 1029 hM rfl rfl rfl rfl ?_
                                        refine g_goto 33 hM rfl rfl ?_
                                        exact g_lv [(0, .ref (am_big + 0)), (1, .ref 0), (2, .ref 177), (3, .ref 205), (4, .int (Int32.ofInt (v4 + 4)))] rfl ⟨rfl, rfl, rfl, rfl, rfl, trivial⟩ hK
                                      · rw [if_neg hc244] at h
                                        cases h
                                        refine ⟨x233, hxx233, fun r hK => ?_⟩
                                        refine g_iload 35 hM rfl rfl rfl ?_
                                        refine g_aload_n 36 hM rfl rfl rfl ?_
                                        refine g_kalenX 37 hM rfl rfl ?_
                                        refine g_iconst 38 hM rfl rfl ?_
                                        refine g_isub 39 hM rfl rfl ?_
                                        refine g_ic_gt_f 42 1032 hM rfl rfl rfl hg1 hg2 hc3 ?_
                                        refine g_aload_n 43 hM rfl rfl rfl ?_
                                        refine g_iload 45 hM rfl rfl rfl ?_
                                        refine g_kiaload 46 hM rfl rfl hL hg4 ?_
                                        refine g_bipush 48 hM rfl rfl rfl ?_
                                        refine g_iand 49 hM rfl rfl ?_
                                        refine g_tsw 781 hM rfl (zR_and _ _) hc229 rfl rfl rfl ?_
                                        refine g_aload_n 782 hM rfl rfl rfl ?_
                                        refine g_aload_n 783 hM rfl rfl rfl ?_
                                        refine g_call 786 _ [.int (Int32.ofInt r231)] hM rfl rfl rfl rfl rfl (xM_10 _) rfl rfl rfl rfl (by omega) hzx233 rfl ?_
                                        refine g_istore 788 hM rfl rfl rfl ?_
                                        refine g_aload_n 789 hM rfl rfl rfl ?_
                                        refine g_call 792 _ [.int (Int32.ofInt r235)] hM rfl rfl rfl rfl rfl (xM_236 _) rfl (z_rcv2 rfl) rfl rfl (by omega) (w_236 (by omega) h234) rfl ?_
                                        refine g_istore 794 hM rfl rfl rfl ?_
                                        refine g_aload_n 795 hM rfl rfl rfl ?_
                                        refine g_call 798 _ [.int (Int32.ofInt r238)] hM rfl rfl rfl rfl rfl (xM_142 _) rfl (z_rcv2 rfl) rfl rfl (by omega) (w_142 (by omega) h237) rfl ?_
                                        refine g_iload 800 hM rfl rfl rfl ?_
                                        refine g_ic_eq_t 805 hM rfl rfl hg239 hg240 hc241 ?_
                                        refine g_iload 807 hM rfl rfl rfl ?_
                                        refine g_if_ne_f 810 822 hM rfl rfl rfl hg240 hc242 ?_
                                        refine g_aload_n 811 hM rfl rfl rfl ?_
                                        refine g_iconst 812 hM rfl rfl ?_
                                        refine g_laload 813 (gJ s236 205 0) hM rfl rfl rfl rfl ⟨by decide, by decide⟩ rfl ?_
                                        refine g_iload 815 hM rfl rfl rfl ?_
                                        refine g_i2l 816 hM rfl rfl hg243 ?_
                                        refine g_lc_eq_f 817 820 822 hM rfl rfl rfl rfl rfl hc244 ?_
                                        refine g_iconst 821 hM rfl rfl ?_
                                        rw [show r = _ from hK]
                                        exact g_ret hM rfl rfl
                                    · rw [if_neg hc242] at h
                                      cases h
                                      refine ⟨x233, hxx233, fun r hK => ?_⟩
                                      refine g_iload 35 hM rfl rfl rfl ?_
                                      refine g_aload_n 36 hM rfl rfl rfl ?_
                                      refine g_kalenX 37 hM rfl rfl ?_
                                      refine g_iconst 38 hM rfl rfl ?_
                                      refine g_isub 39 hM rfl rfl ?_
                                      refine g_ic_gt_f 42 1032 hM rfl rfl rfl hg1 hg2 hc3 ?_
                                      refine g_aload_n 43 hM rfl rfl rfl ?_
                                      refine g_iload 45 hM rfl rfl rfl ?_
                                      refine g_kiaload 46 hM rfl rfl hL hg4 ?_
                                      refine g_bipush 48 hM rfl rfl rfl ?_
                                      refine g_iand 49 hM rfl rfl ?_
                                      refine g_tsw 781 hM rfl (zR_and _ _) hc229 rfl rfl rfl ?_
                                      refine g_aload_n 782 hM rfl rfl rfl ?_
                                      refine g_aload_n 783 hM rfl rfl rfl ?_
                                      refine g_call 786 _ [.int (Int32.ofInt r231)] hM rfl rfl rfl rfl rfl (xM_10 _) rfl rfl rfl rfl (by omega) hzx233 rfl ?_
                                      refine g_istore 788 hM rfl rfl rfl ?_
                                      refine g_aload_n 789 hM rfl rfl rfl ?_
                                      refine g_call 792 _ [.int (Int32.ofInt r235)] hM rfl rfl rfl rfl rfl (xM_236 _) rfl (z_rcv2 rfl) rfl rfl (by omega) (w_236 (by omega) h234) rfl ?_
                                      refine g_istore 794 hM rfl rfl rfl ?_
                                      refine g_aload_n 795 hM rfl rfl rfl ?_
                                      refine g_call 798 _ [.int (Int32.ofInt r238)] hM rfl rfl rfl rfl rfl (xM_142 _) rfl (z_rcv2 rfl) rfl rfl (by omega) (w_142 (by omega) h237) rfl ?_
                                      refine g_iload 800 hM rfl rfl rfl ?_
                                      refine g_ic_eq_t 805 hM rfl rfl hg239 hg240 hc241 ?_
                                      refine g_iload 807 hM rfl rfl rfl ?_
                                      refine g_if_ne_t 822 hM rfl rfl hg240 hc242 ?_
                                      refine g_goto 1026 hM rfl rfl ?_
                                      refine g_iinc 1029 hM rfl rfl rfl rfl ?_
                                      refine g_goto 33 hM rfl rfl ?_
                                      exact g_lv [(0, .ref (am_big + 0)), (1, .ref 0), (2, .ref 177), (3, .ref 205), (4, .int (Int32.ofInt (v4 + 4)))] rfl ⟨rfl, rfl, rfl, rfl, rfl, trivial⟩ hK
                                  · rw [if_neg hc241] at h
                                    cases h
                                    refine ⟨x233, hxx233, fun r hK => ?_⟩
                                    refine g_iload 35 hM rfl rfl rfl ?_
                                    refine g_aload_n 36 hM rfl rfl rfl ?_
                                    refine g_kalenX 37 hM rfl rfl ?_
                                    refine g_iconst 38 hM rfl rfl ?_
                                    refine g_isub 39 hM rfl rfl ?_
                                    refine g_ic_gt_f 42 1032 hM rfl rfl rfl hg1 hg2 hc3 ?_
                                    refine g_aload_n 43 hM rfl rfl rfl ?_
                                    refine g_iload 45 hM rfl rfl rfl ?_
                                    refine g_kiaload 46 hM rfl rfl hL hg4 ?_
                                    refine g_bipush 48 hM rfl rfl rfl ?_
                                    refine g_iand 49 hM rfl rfl ?_
                                    refine g_tsw 781 hM rfl (zR_and _ _) hc229 rfl rfl rfl ?_
                                    refine g_aload_n 782 hM rfl rfl rfl ?_
                                    refine g_aload_n 783 hM rfl rfl rfl ?_
                                    refine g_call 786 _ [.int (Int32.ofInt r231)] hM rfl rfl rfl rfl rfl (xM_10 _) rfl rfl rfl rfl (by omega) hzx233 rfl ?_
                                    refine g_istore 788 hM rfl rfl rfl ?_
                                    refine g_aload_n 789 hM rfl rfl rfl ?_
                                    refine g_call 792 _ [.int (Int32.ofInt r235)] hM rfl rfl rfl rfl rfl (xM_236 _) rfl (z_rcv2 rfl) rfl rfl (by omega) (w_236 (by omega) h234) rfl ?_
                                    refine g_istore 794 hM rfl rfl rfl ?_
                                    refine g_aload_n 795 hM rfl rfl rfl ?_
                                    refine g_call 798 _ [.int (Int32.ofInt r238)] hM rfl rfl rfl rfl rfl (xM_142 _) rfl (z_rcv2 rfl) rfl rfl (by omega) (w_142 (by omega) h237) rfl ?_
                                    refine g_iload 800 hM rfl rfl rfl ?_
                                    refine g_ic_eq_f 803 805 hM rfl rfl rfl hg239 hg240 hc241 ?_
                                    refine g_iconst 804 hM rfl rfl ?_
                                    rw [show r = _ from hK]
                                    exact g_ret hM rfl rfl
                                · rw [if_neg hc229] at h
                                  by_cases hc245 : t_0_49 (zand (gX k v4) 31) = 825
                                  · rw [if_pos hc245] at h
                                    obtain ⟨hg246, h⟩ := zg_some h
                                    obtain ⟨r248, s249, h247, h⟩ := zb_some h
                                    obtain ⟨x250, hxx250, hzx250⟩ := w_11 (k := k) (d := d - 1) (by omega) hxl h247
                                    obtain ⟨r252, s253, h251, h⟩ := zb_some h
                                    obtain ⟨r255, h254, h⟩ := zo_some h
                                    obtain ⟨hg256, h⟩ := zg_some h
                                    obtain ⟨hg257, h⟩ := zg_some h
                                    by_cases hc258 : r255 = r248
                                    · rw [if_pos hc258] at h
                                      by_cases hc259 : r248 = 0
                                      · rw [if_pos hc259] at h
                                        obtain ⟨hg260, h⟩ := zg_some h
                                        by_cases hc261 : r252 = 0
                                        · rw [if_pos hc261] at h
                                          by_cases hc262 : (gJ s253 205 0) = (0#64)
                                          · rw [if_pos hc262] at h
                                            cases h
                                            refine ⟨x250, hxx250, fun r hK => ?_⟩
                                            refine g_iload 35 hM rfl rfl rfl ?_
                                            refine g_aload_n 36 hM rfl rfl rfl ?_
                                            refine g_kalenX 37 hM rfl rfl ?_
                                            refine g_iconst 38 hM rfl rfl ?_
                                            refine g_isub 39 hM rfl rfl ?_
                                            refine g_ic_gt_f 42 1032 hM rfl rfl rfl hg1 hg2 hc3 ?_
                                            refine g_aload_n 43 hM rfl rfl rfl ?_
                                            refine g_iload 45 hM rfl rfl rfl ?_
                                            refine g_kiaload 46 hM rfl rfl hL hg4 ?_
                                            refine g_bipush 48 hM rfl rfl rfl ?_
                                            refine g_iand 49 hM rfl rfl ?_
                                            refine g_tsw 825 hM rfl (zR_and _ _) hc245 rfl rfl rfl ?_
                                            refine g_aload_n 826 hM rfl rfl rfl ?_
                                            refine g_aload_n 827 hM rfl rfl rfl ?_
                                            refine g_iload 829 hM rfl rfl rfl ?_
                                            refine g_iconst 830 hM rfl rfl ?_
                                            refine g_iadd 831 hM rfl rfl ?_
                                            refine g_kiaload 832 hM rfl rfl hL hg246 ?_
                                            refine g_aload_n 833 hM rfl rfl rfl ?_
                                            refine g_call 836 _ [.int (Int32.ofInt r248)] hM rfl rfl rfl rfl rfl (xM_11 _) rfl rfl rfl rfl (by omega) hzx250 rfl ?_
                                            refine g_istore 838 hM rfl rfl rfl ?_
                                            refine g_aload_n 839 hM rfl rfl rfl ?_
                                            refine g_aload_n 840 hM rfl rfl rfl ?_
                                            refine g_iload 842 hM rfl rfl rfl ?_
                                            refine g_iconst 843 hM rfl rfl ?_
                                            refine g_iadd 844 hM rfl rfl ?_
                                            refine g_kiaload 845 hM rfl rfl hL hg246 ?_
                                            refine g_call 848 _ [.int (Int32.ofInt r252)] hM rfl rfl rfl rfl rfl (xM_237 _) rfl (z_rcv2 rfl) rfl rfl (by omega) (w_237 (by omega) h251) rfl ?_
                                            refine g_istore 850 hM rfl rfl rfl ?_
                                            refine g_aload_n 851 hM rfl rfl rfl ?_
                                            refine g_call 854 _ [.int (Int32.ofInt r255)] hM rfl rfl rfl rfl rfl (xM_142 _) rfl (z_rcv2 rfl) rfl rfl (by omega) (w_142 (by omega) h254) rfl ?_
                                            refine g_iload 856 hM rfl rfl rfl ?_
                                            refine g_ic_eq_t 861 hM rfl rfl hg256 hg257 hc258 ?_
                                            refine g_iload 863 hM rfl rfl rfl ?_
                                            refine g_if_ne_f 866 885 hM rfl rfl rfl hg257 hc259 ?_
                                            refine g_aload_n 867 hM rfl rfl rfl ?_
                                            refine g_iconst 868 hM rfl rfl ?_
                                            refine g_laload 869 (gJ s253 205 0) hM rfl rfl rfl rfl ⟨by decide, by decide⟩ rfl ?_
                                            refine g_iload 871 hM rfl rfl rfl ?_
                                            refine g_if_eq_t 878 hM rfl rfl hg260 hc261 ?_
                                            refine g_lconst 879 (0#64) hM rfl rfl rfl ?_
                                            refine g_lc_eq_t 880 885 hM rfl rfl rfl rfl hc262 ?_
                                            refine g_goto 1026 hM rfl rfl ?_
                                            refine g_iinc 1029 hM rfl rfl rfl rfl ?_
                                            refine g_goto 33 hM rfl rfl ?_
                                            exact g_lv [(0, .ref (am_big + 0)), (1, .ref 0), (2, .ref 177), (3, .ref 205), (4, .int (Int32.ofInt (v4 + 4)))] rfl ⟨rfl, rfl, rfl, rfl, rfl, trivial⟩ hK
                                          · rw [if_neg hc262] at h
                                            cases h
                                            refine ⟨x250, hxx250, fun r hK => ?_⟩
                                            refine g_iload 35 hM rfl rfl rfl ?_
                                            refine g_aload_n 36 hM rfl rfl rfl ?_
                                            refine g_kalenX 37 hM rfl rfl ?_
                                            refine g_iconst 38 hM rfl rfl ?_
                                            refine g_isub 39 hM rfl rfl ?_
                                            refine g_ic_gt_f 42 1032 hM rfl rfl rfl hg1 hg2 hc3 ?_
                                            refine g_aload_n 43 hM rfl rfl rfl ?_
                                            refine g_iload 45 hM rfl rfl rfl ?_
                                            refine g_kiaload 46 hM rfl rfl hL hg4 ?_
                                            refine g_bipush 48 hM rfl rfl rfl ?_
                                            refine g_iand 49 hM rfl rfl ?_
                                            refine g_tsw 825 hM rfl (zR_and _ _) hc245 rfl rfl rfl ?_
                                            refine g_aload_n 826 hM rfl rfl rfl ?_
                                            refine g_aload_n 827 hM rfl rfl rfl ?_
                                            refine g_iload 829 hM rfl rfl rfl ?_
                                            refine g_iconst 830 hM rfl rfl ?_
                                            refine g_iadd 831 hM rfl rfl ?_
                                            refine g_kiaload 832 hM rfl rfl hL hg246 ?_
                                            refine g_aload_n 833 hM rfl rfl rfl ?_
                                            refine g_call 836 _ [.int (Int32.ofInt r248)] hM rfl rfl rfl rfl rfl (xM_11 _) rfl rfl rfl rfl (by omega) hzx250 rfl ?_
                                            refine g_istore 838 hM rfl rfl rfl ?_
                                            refine g_aload_n 839 hM rfl rfl rfl ?_
                                            refine g_aload_n 840 hM rfl rfl rfl ?_
                                            refine g_iload 842 hM rfl rfl rfl ?_
                                            refine g_iconst 843 hM rfl rfl ?_
                                            refine g_iadd 844 hM rfl rfl ?_
                                            refine g_kiaload 845 hM rfl rfl hL hg246 ?_
                                            refine g_call 848 _ [.int (Int32.ofInt r252)] hM rfl rfl rfl rfl rfl (xM_237 _) rfl (z_rcv2 rfl) rfl rfl (by omega) (w_237 (by omega) h251) rfl ?_
                                            refine g_istore 850 hM rfl rfl rfl ?_
                                            refine g_aload_n 851 hM rfl rfl rfl ?_
                                            refine g_call 854 _ [.int (Int32.ofInt r255)] hM rfl rfl rfl rfl rfl (xM_142 _) rfl (z_rcv2 rfl) rfl rfl (by omega) (w_142 (by omega) h254) rfl ?_
                                            refine g_iload 856 hM rfl rfl rfl ?_
                                            refine g_ic_eq_t 861 hM rfl rfl hg256 hg257 hc258 ?_
                                            refine g_iload 863 hM rfl rfl rfl ?_
                                            refine g_if_ne_f 866 885 hM rfl rfl rfl hg257 hc259 ?_
                                            refine g_aload_n 867 hM rfl rfl rfl ?_
                                            refine g_iconst 868 hM rfl rfl ?_
                                            refine g_laload 869 (gJ s253 205 0) hM rfl rfl rfl rfl ⟨by decide, by decide⟩ rfl ?_
                                            refine g_iload 871 hM rfl rfl rfl ?_
                                            refine g_if_eq_t 878 hM rfl rfl hg260 hc261 ?_
                                            refine g_lconst 879 (0#64) hM rfl rfl rfl ?_
                                            refine g_lc_eq_f 880 883 885 hM rfl rfl rfl rfl rfl hc262 ?_
                                            refine g_iconst 884 hM rfl rfl ?_
                                            rw [show r = _ from hK]
                                            exact g_ret hM rfl rfl
                                        · rw [if_neg hc261] at h
                                          by_cases hc263 : (gJ s253 205 0) = (1#64)
                                          · rw [if_pos hc263] at h
                                            cases h
                                            refine ⟨x250, hxx250, fun r hK => ?_⟩
                                            refine g_iload 35 hM rfl rfl rfl ?_
                                            refine g_aload_n 36 hM rfl rfl rfl ?_
                                            refine g_kalenX 37 hM rfl rfl ?_
                                            refine g_iconst 38 hM rfl rfl ?_
                                            refine g_isub 39 hM rfl rfl ?_
                                            refine g_ic_gt_f 42 1032 hM rfl rfl rfl hg1 hg2 hc3 ?_
                                            refine g_aload_n 43 hM rfl rfl rfl ?_
                                            refine g_iload 45 hM rfl rfl rfl ?_
                                            refine g_kiaload 46 hM rfl rfl hL hg4 ?_
                                            refine g_bipush 48 hM rfl rfl rfl ?_
                                            refine g_iand 49 hM rfl rfl ?_
                                            refine g_tsw 825 hM rfl (zR_and _ _) hc245 rfl rfl rfl ?_
                                            refine g_aload_n 826 hM rfl rfl rfl ?_
                                            refine g_aload_n 827 hM rfl rfl rfl ?_
                                            refine g_iload 829 hM rfl rfl rfl ?_
                                            refine g_iconst 830 hM rfl rfl ?_
                                            refine g_iadd 831 hM rfl rfl ?_
                                            refine g_kiaload 832 hM rfl rfl hL hg246 ?_
                                            refine g_aload_n 833 hM rfl rfl rfl ?_
                                            refine g_call 836 _ [.int (Int32.ofInt r248)] hM rfl rfl rfl rfl rfl (xM_11 _) rfl rfl rfl rfl (by omega) hzx250 rfl ?_
                                            refine g_istore 838 hM rfl rfl rfl ?_
                                            refine g_aload_n 839 hM rfl rfl rfl ?_
                                            refine g_aload_n 840 hM rfl rfl rfl ?_
                                            refine g_iload 842 hM rfl rfl rfl ?_
                                            refine g_iconst 843 hM rfl rfl ?_
                                            refine g_iadd 844 hM rfl rfl ?_
                                            refine g_kiaload 845 hM rfl rfl hL hg246 ?_
                                            refine g_call 848 _ [.int (Int32.ofInt r252)] hM rfl rfl rfl rfl rfl (xM_237 _) rfl (z_rcv2 rfl) rfl rfl (by omega) (w_237 (by omega) h251) rfl ?_
                                            refine g_istore 850 hM rfl rfl rfl ?_
                                            refine g_aload_n 851 hM rfl rfl rfl ?_
                                            refine g_call 854 _ [.int (Int32.ofInt r255)] hM rfl rfl rfl rfl rfl (xM_142 _) rfl (z_rcv2 rfl) rfl rfl (by omega) (w_142 (by omega) h254) rfl ?_
                                            refine g_iload 856 hM rfl rfl rfl ?_
                                            refine g_ic_eq_t 861 hM rfl rfl hg256 hg257 hc258 ?_
                                            refine g_iload 863 hM rfl rfl rfl ?_
                                            refine g_if_ne_f 866 885 hM rfl rfl rfl hg257 hc259 ?_
                                            refine g_aload_n 867 hM rfl rfl rfl ?_
                                            refine g_iconst 868 hM rfl rfl ?_
                                            refine g_laload 869 (gJ s253 205 0) hM rfl rfl rfl rfl ⟨by decide, by decide⟩ rfl ?_
                                            refine g_iload 871 hM rfl rfl rfl ?_
                                            refine g_if_eq_f 874 878 hM rfl rfl rfl hg260 hc261 ?_
                                            refine g_lconst 875 (1#64) hM rfl rfl rfl ?_
                                            refine g_goto 879 hM rfl rfl ?_
                                            refine g_lc_eq_t 880 885 hM rfl rfl rfl rfl hc263 ?_
                                            refine g_goto 1026 hM rfl rfl ?_
                                            refine g_iinc 1029 hM rfl rfl rfl rfl ?_
                                            refine g_goto 33 hM rfl rfl ?_
                                            exact g_lv [(0, .ref (am_big + 0)), (1, .ref 0), (2, .ref 177), (3, .ref 205), (4, .int (Int32.ofInt (v4 + 4)))] rfl ⟨rfl, rfl, rfl, rfl, rfl, trivial⟩ hK
                                          · rw [if_neg hc263] at h
                                            cases h
                                            refine ⟨x250, hxx250, fun r hK => ?_⟩
                                            refine g_iload 35 hM rfl rfl rfl ?_
                                            refine g_aload_n 36 hM rfl rfl rfl ?_
                                            refine g_kalenX 37 hM rfl rfl ?_
                                            refine g_iconst 38 hM rfl rfl ?_
                                            refine g_isub 39 hM rfl rfl ?_
                                            refine g_ic_gt_f 42 1032 hM rfl rfl rfl hg1 hg2 hc3 ?_
                                            refine g_aload_n 43 hM rfl rfl rfl ?_
                                            refine g_iload 45 hM rfl rfl rfl ?_
                                            refine g_kiaload 46 hM rfl rfl hL hg4 ?_
                                            refine g_bipush 48 hM rfl rfl rfl ?_
                                            refine g_iand 49 hM rfl rfl ?_
                                            refine g_tsw 825 hM rfl (zR_and _ _) hc245 rfl rfl rfl ?_
                                            refine g_aload_n 826 hM rfl rfl rfl ?_
                                            refine g_aload_n 827 hM rfl rfl rfl ?_
                                            refine g_iload 829 hM rfl rfl rfl ?_
                                            refine g_iconst 830 hM rfl rfl ?_
                                            refine g_iadd 831 hM rfl rfl ?_
                                            refine g_kiaload 832 hM rfl rfl hL hg246 ?_
                                            refine g_aload_n 833 hM rfl rfl rfl ?_
                                            refine g_call 836 _ [.int (Int32.ofInt r248)] hM rfl rfl rfl rfl rfl (xM_11 _) rfl rfl rfl rfl (by omega) hzx250 rfl ?_
                                            refine g_istore 838 hM rfl rfl rfl ?_
                                            refine g_aload_n 839 hM rfl rfl rfl ?_
                                            refine g_aload_n 840 hM rfl rfl rfl ?_
                                            refine g_iload 842 hM rfl rfl rfl ?_
                                            refine g_iconst 843 hM rfl rfl ?_
                                            refine g_iadd 844 hM rfl rfl ?_
                                            refine g_kiaload 845 hM rfl rfl hL hg246 ?_
                                            refine g_call 848 _ [.int (Int32.ofInt r252)] hM rfl rfl rfl rfl rfl (xM_237 _) rfl (z_rcv2 rfl) rfl rfl (by omega) (w_237 (by omega) h251) rfl ?_
                                            refine g_istore 850 hM rfl rfl rfl ?_
                                            refine g_aload_n 851 hM rfl rfl rfl ?_
                                            refine g_call 854 _ [.int (Int32.ofInt r255)] hM rfl rfl rfl rfl rfl (xM_142 _) rfl (z_rcv2 rfl) rfl rfl (by omega) (w_142 (by omega) h254) rfl ?_
                                            refine g_iload 856 hM rfl rfl rfl ?_
                                            refine g_ic_eq_t 861 hM rfl rfl hg256 hg257 hc258 ?_
                                            refine g_iload 863 hM rfl rfl rfl ?_
                                            refine g_if_ne_f 866 885 hM rfl rfl rfl hg257 hc259 ?_
                                            refine g_aload_n 867 hM rfl rfl rfl ?_
                                            refine g_iconst 868 hM rfl rfl ?_
                                            refine g_laload 869 (gJ s253 205 0) hM rfl rfl rfl rfl ⟨by decide, by decide⟩ rfl ?_
                                            refine g_iload 871 hM rfl rfl rfl ?_
                                            refine g_if_eq_f 874 878 hM rfl rfl rfl hg260 hc261 ?_
                                            refine g_lconst 875 (1#64) hM rfl rfl rfl ?_
                                            refine g_goto 879 hM rfl rfl ?_
                                            refine g_lc_eq_f 880 883 885 hM rfl rfl rfl rfl rfl hc263 ?_
                                            refine g_iconst 884 hM rfl rfl ?_
                                            rw [show r = _ from hK]
                                            exact g_ret hM rfl rfl
                                      · rw [if_neg hc259] at h
                                        cases h
                                        refine ⟨x250, hxx250, fun r hK => ?_⟩
                                        refine g_iload 35 hM rfl rfl rfl ?_
                                        refine g_aload_n 36 hM rfl rfl rfl ?_
                                        refine g_kalenX 37 hM rfl rfl ?_
                                        refine g_iconst 38 hM rfl rfl ?_
                                        refine g_isub 39 hM rfl rfl ?_
                                        refine g_ic_gt_f 42 1032 hM rfl rfl rfl hg1 hg2 hc3 ?_
                                        refine g_aload_n 43 hM rfl rfl rfl ?_
                                        refine g_iload 45 hM rfl rfl rfl ?_
                                        refine g_kiaload 46 hM rfl rfl hL hg4 ?_
                                        refine g_bipush 48 hM rfl rfl rfl ?_
                                        refine g_iand 49 hM rfl rfl ?_
                                        refine g_tsw 825 hM rfl (zR_and _ _) hc245 rfl rfl rfl ?_
                                        refine g_aload_n 826 hM rfl rfl rfl ?_
                                        refine g_aload_n 827 hM rfl rfl rfl ?_
                                        refine g_iload 829 hM rfl rfl rfl ?_
                                        refine g_iconst 830 hM rfl rfl ?_
                                        refine g_iadd 831 hM rfl rfl ?_
                                        refine g_kiaload 832 hM rfl rfl hL hg246 ?_
                                        refine g_aload_n 833 hM rfl rfl rfl ?_
                                        refine g_call 836 _ [.int (Int32.ofInt r248)] hM rfl rfl rfl rfl rfl (xM_11 _) rfl rfl rfl rfl (by omega) hzx250 rfl ?_
                                        refine g_istore 838 hM rfl rfl rfl ?_
                                        refine g_aload_n 839 hM rfl rfl rfl ?_
                                        refine g_aload_n 840 hM rfl rfl rfl ?_
                                        refine g_iload 842 hM rfl rfl rfl ?_
                                        refine g_iconst 843 hM rfl rfl ?_
                                        refine g_iadd 844 hM rfl rfl ?_
                                        refine g_kiaload 845 hM rfl rfl hL hg246 ?_
                                        refine g_call 848 _ [.int (Int32.ofInt r252)] hM rfl rfl rfl rfl rfl (xM_237 _) rfl (z_rcv2 rfl) rfl rfl (by omega) (w_237 (by omega) h251) rfl ?_
                                        refine g_istore 850 hM rfl rfl rfl ?_
                                        refine g_aload_n 851 hM rfl rfl rfl ?_
                                        refine g_call 854 _ [.int (Int32.ofInt r255)] hM rfl rfl rfl rfl rfl (xM_142 _) rfl (z_rcv2 rfl) rfl rfl (by omega) (w_142 (by omega) h254) rfl ?_
                                        refine g_iload 856 hM rfl rfl rfl ?_
                                        refine g_ic_eq_t 861 hM rfl rfl hg256 hg257 hc258 ?_
                                        refine g_iload 863 hM rfl rfl rfl ?_
                                        refine g_if_ne_t 885 hM rfl rfl hg257 hc259 ?_
                                        refine g_goto 1026 hM rfl rfl ?_
                                        refine g_iinc 1029 hM rfl rfl rfl rfl ?_
                                        refine g_goto 33 hM rfl rfl ?_
                                        exact g_lv [(0, .ref (am_big + 0)), (1, .ref 0), (2, .ref 177), (3, .ref 205), (4, .int (Int32.ofInt (v4 + 4)))] rfl ⟨rfl, rfl, rfl, rfl, rfl, trivial⟩ hK
                                    · rw [if_neg hc258] at h
                                      cases h
                                      refine ⟨x250, hxx250, fun r hK => ?_⟩
                                      refine g_iload 35 hM rfl rfl rfl ?_
                                      refine g_aload_n 36 hM rfl rfl rfl ?_
                                      refine g_kalenX 37 hM rfl rfl ?_
                                      refine g_iconst 38 hM rfl rfl ?_
                                      refine g_isub 39 hM rfl rfl ?_
                                      refine g_ic_gt_f 42 1032 hM rfl rfl rfl hg1 hg2 hc3 ?_
                                      refine g_aload_n 43 hM rfl rfl rfl ?_
                                      refine g_iload 45 hM rfl rfl rfl ?_
                                      refine g_kiaload 46 hM rfl rfl hL hg4 ?_
                                      refine g_bipush 48 hM rfl rfl rfl ?_
                                      refine g_iand 49 hM rfl rfl ?_
                                      refine g_tsw 825 hM rfl (zR_and _ _) hc245 rfl rfl rfl ?_
                                      refine g_aload_n 826 hM rfl rfl rfl ?_
                                      refine g_aload_n 827 hM rfl rfl rfl ?_
                                      refine g_iload 829 hM rfl rfl rfl ?_
                                      refine g_iconst 830 hM rfl rfl ?_
                                      refine g_iadd 831 hM rfl rfl ?_
                                      refine g_kiaload 832 hM rfl rfl hL hg246 ?_
                                      refine g_aload_n 833 hM rfl rfl rfl ?_
                                      refine g_call 836 _ [.int (Int32.ofInt r248)] hM rfl rfl rfl rfl rfl (xM_11 _) rfl rfl rfl rfl (by omega) hzx250 rfl ?_
                                      refine g_istore 838 hM rfl rfl rfl ?_
                                      refine g_aload_n 839 hM rfl rfl rfl ?_
                                      refine g_aload_n 840 hM rfl rfl rfl ?_
                                      refine g_iload 842 hM rfl rfl rfl ?_
                                      refine g_iconst 843 hM rfl rfl ?_
                                      refine g_iadd 844 hM rfl rfl ?_
                                      refine g_kiaload 845 hM rfl rfl hL hg246 ?_
                                      refine g_call 848 _ [.int (Int32.ofInt r252)] hM rfl rfl rfl rfl rfl (xM_237 _) rfl (z_rcv2 rfl) rfl rfl (by omega) (w_237 (by omega) h251) rfl ?_
                                      refine g_istore 850 hM rfl rfl rfl ?_
                                      refine g_aload_n 851 hM rfl rfl rfl ?_
                                      refine g_call 854 _ [.int (Int32.ofInt r255)] hM rfl rfl rfl rfl rfl (xM_142 _) rfl (z_rcv2 rfl) rfl rfl (by omega) (w_142 (by omega) h254) rfl ?_
                                      refine g_iload 856 hM rfl rfl rfl ?_
                                      refine g_ic_eq_f 859 861 hM rfl rfl rfl hg256 hg257 hc258 ?_
                                      refine g_iconst 860 hM rfl rfl ?_
                                      rw [show r = _ from hK]
                                      exact g_ret hM rfl rfl
                                  · rw [if_neg hc245] at h
                                    by_cases hc264 : t_0_49 (zand (gX k v4) 31) = 888
                                    · rw [if_pos hc264] at h
                                      obtain ⟨r266, s267, h265, h⟩ := zb_some h
                                      obtain ⟨x268, hxx268, hzx268⟩ := w_12 (k := k) (d := d - 1) (by omega) hxl h265
                                      obtain ⟨r270, s271, h269, h⟩ := zb_some h
                                      obtain ⟨r273, h272, h⟩ := zo_some h
                                      obtain ⟨hg274, h⟩ := zg_some h
                                      obtain ⟨hg275, h⟩ := zg_some h
                                      by_cases hc276 : r273 = r266
                                      · rw [if_pos hc276] at h
                                        by_cases hc277 : r266 = 0
                                        · rw [if_pos hc277] at h
                                          obtain ⟨hg278, h⟩ := zg_some h
                                          by_cases hc279 : (gJ s271 205 0) = (BitVec.ofInt 64 r270)
                                          · rw [if_pos hc279] at h
                                            cases h
                                            refine ⟨x268, hxx268, fun r hK => ?_⟩
                                            refine g_iload 35 hM rfl rfl rfl ?_
                                            refine g_aload_n 36 hM rfl rfl rfl ?_
                                            refine g_kalenX 37 hM rfl rfl ?_
                                            refine g_iconst 38 hM rfl rfl ?_
                                            refine g_isub 39 hM rfl rfl ?_
                                            refine g_ic_gt_f 42 1032 hM rfl rfl rfl hg1 hg2 hc3 ?_
                                            refine g_aload_n 43 hM rfl rfl rfl ?_
                                            refine g_iload 45 hM rfl rfl rfl ?_
                                            refine g_kiaload 46 hM rfl rfl hL hg4 ?_
                                            refine g_bipush 48 hM rfl rfl rfl ?_
                                            refine g_iand 49 hM rfl rfl ?_
                                            refine g_tsw 888 hM rfl (zR_and _ _) hc264 rfl rfl rfl ?_
                                            refine g_aload_n 889 hM rfl rfl rfl ?_
                                            refine g_aload_n 890 hM rfl rfl rfl ?_
                                            refine g_call 893 _ [.int (Int32.ofInt r266)] hM rfl rfl rfl rfl rfl (xM_12 _) rfl rfl rfl rfl (by omega) hzx268 rfl ?_
                                            refine g_istore 895 hM rfl rfl rfl ?_
                                            refine g_aload_n 896 hM rfl rfl rfl ?_
                                            refine g_call 899 _ [.int (Int32.ofInt r270)] hM rfl rfl rfl rfl rfl (xM_238 _) rfl (z_rcv2 rfl) rfl rfl (by omega) (w_238 (by omega) h269) rfl ?_
                                            refine g_istore 901 hM rfl rfl rfl ?_
                                            refine g_aload_n 902 hM rfl rfl rfl ?_
                                            refine g_call 905 _ [.int (Int32.ofInt r273)] hM rfl rfl rfl rfl rfl (xM_142 _) rfl (z_rcv2 rfl) rfl rfl (by omega) (w_142 (by omega) h272) rfl ?_
                                            refine g_iload 907 hM rfl rfl rfl ?_
                                            refine g_ic_eq_t 912 hM rfl rfl hg274 hg275 hc276 ?_
                                            refine g_iload 914 hM rfl rfl rfl ?_
                                            refine g_if_ne_f 917 929 hM rfl rfl rfl hg275 hc277 ?_
                                            refine g_aload_n 918 hM rfl rfl rfl ?_
                                            refine g_iconst 919 hM rfl rfl ?_
                                            refine g_laload 920 (gJ s271 205 0) hM rfl rfl rfl rfl ⟨by decide, by decide⟩ rfl ?_
                                            refine g_iload 922 hM rfl rfl rfl ?_
                                            refine g_i2l 923 hM rfl rfl hg278 ?_
                                            refine g_lc_eq_t 924 929 hM rfl rfl rfl rfl hc279 ?_
                                            refine g_goto 1026 hM rfl rfl ?_
                                            refine g_iinc 1029 hM rfl rfl rfl rfl ?_
                                            refine g_goto 33 hM rfl rfl ?_
                                            exact g_lv [(0, .ref (am_big + 0)), (1, .ref 0), (2, .ref 177), (3, .ref 205), (4, .int (Int32.ofInt (v4 + 4)))] rfl ⟨rfl, rfl, rfl, rfl, rfl, trivial⟩ hK
                                          · rw [if_neg hc279] at h
                                            cases h
                                            refine ⟨x268, hxx268, fun r hK => ?_⟩
                                            refine g_iload 35 hM rfl rfl rfl ?_
                                            refine g_aload_n 36 hM rfl rfl rfl ?_
                                            refine g_kalenX 37 hM rfl rfl ?_
                                            refine g_iconst 38 hM rfl rfl ?_
                                            refine g_isub 39 hM rfl rfl ?_
                                            refine g_ic_gt_f 42 1032 hM rfl rfl rfl hg1 hg2 hc3 ?_
                                            refine g_aload_n 43 hM rfl rfl rfl ?_
                                            refine g_iload 45 hM rfl rfl rfl ?_
                                            refine g_kiaload 46 hM rfl rfl hL hg4 ?_
                                            refine g_bipush 48 hM rfl rfl rfl ?_
                                            refine g_iand 49 hM rfl rfl ?_
                                            refine g_tsw 888 hM rfl (zR_and _ _) hc264 rfl rfl rfl ?_
                                            refine g_aload_n 889 hM rfl rfl rfl ?_
                                            refine g_aload_n 890 hM rfl rfl rfl ?_
                                            refine g_call 893 _ [.int (Int32.ofInt r266)] hM rfl rfl rfl rfl rfl (xM_12 _) rfl rfl rfl rfl (by omega) hzx268 rfl ?_
                                            refine g_istore 895 hM rfl rfl rfl ?_
                                            refine g_aload_n 896 hM rfl rfl rfl ?_
                                            refine g_call 899 _ [.int (Int32.ofInt r270)] hM rfl rfl rfl rfl rfl (xM_238 _) rfl (z_rcv2 rfl) rfl rfl (by omega) (w_238 (by omega) h269) rfl ?_
                                            refine g_istore 901 hM rfl rfl rfl ?_
                                            refine g_aload_n 902 hM rfl rfl rfl ?_
                                            refine g_call 905 _ [.int (Int32.ofInt r273)] hM rfl rfl rfl rfl rfl (xM_142 _) rfl (z_rcv2 rfl) rfl rfl (by omega) (w_142 (by omega) h272) rfl ?_
                                            refine g_iload 907 hM rfl rfl rfl ?_
                                            refine g_ic_eq_t 912 hM rfl rfl hg274 hg275 hc276 ?_
                                            refine g_iload 914 hM rfl rfl rfl ?_
                                            refine g_if_ne_f 917 929 hM rfl rfl rfl hg275 hc277 ?_
                                            refine g_aload_n 918 hM rfl rfl rfl ?_
                                            refine g_iconst 919 hM rfl rfl ?_
                                            refine g_laload 920 (gJ s271 205 0) hM rfl rfl rfl rfl ⟨by decide, by decide⟩ rfl ?_
                                            refine g_iload 922 hM rfl rfl rfl ?_
                                            refine g_i2l 923 hM rfl rfl hg278 ?_
                                            refine g_lc_eq_f 924 927 929 hM rfl rfl rfl rfl rfl hc279 ?_
                                            refine g_iconst 928 hM rfl rfl ?_
                                            rw [show r = _ from hK]
                                            exact g_ret hM rfl rfl
                                        · rw [if_neg hc277] at h
                                          cases h
                                          refine ⟨x268, hxx268, fun r hK => ?_⟩
                                          refine g_iload 35 hM rfl rfl rfl ?_
                                          refine g_aload_n 36 hM rfl rfl rfl ?_
                                          refine g_kalenX 37 hM rfl rfl ?_
                                          refine g_iconst 38 hM rfl rfl ?_
                                          refine g_isub 39 hM rfl rfl ?_
                                          refine g_ic_gt_f 42 1032 hM rfl rfl rfl hg1 hg2 hc3 ?_
                                          refine g_aload_n 43 hM rfl rfl rfl ?_
                                          refine g_iload 45 hM rfl rfl rfl ?_
                                          refine g_kiaload 46 hM rfl rfl hL hg4 ?_
                                          refine g_bipush 48 hM rfl rfl rfl ?_
                                          refine g_iand 49 hM rfl rfl ?_
                                          refine g_tsw 888 hM rfl (zR_and _ _) hc264 rfl rfl rfl ?_
                                          refine g_aload_n 889 hM rfl rfl rfl ?_
                                          refine g_aload_n 890 hM rfl rfl rfl ?_
                                          refine g_call 893 _ [.int (Int32.ofInt r266)] hM rfl rfl rfl rfl rfl (xM_12 _) rfl rfl rfl rfl (by omega) hzx268 rfl ?_
                                          refine g_istore 895 hM rfl rfl rfl ?_
                                          refine g_aload_n 896 hM rfl rfl rfl ?_
                                          refine g_call 899 _ [.int (Int32.ofInt r270)] hM rfl rfl rfl rfl rfl (xM_238 _) rfl (z_rcv2 rfl) rfl rfl (by omega) (w_238 (by omega) h269) rfl ?_
                                          refine g_istore 901 hM rfl rfl rfl ?_
                                          refine g_aload_n 902 hM rfl rfl rfl ?_
                                          refine g_call 905 _ [.int (Int32.ofInt r273)] hM rfl rfl rfl rfl rfl (xM_142 _) rfl (z_rcv2 rfl) rfl rfl (by omega) (w_142 (by omega) h272) rfl ?_
                                          refine g_iload 907 hM rfl rfl rfl ?_
                                          refine g_ic_eq_t 912 hM rfl rfl hg274 hg275 hc276 ?_
                                          refine g_iload 914 hM rfl rfl rfl ?_
                                          refine g_if_ne_t 929 hM rfl rfl hg275 hc277 ?_
                                          refine g_goto 1026 hM rfl rfl ?_
                                          refine g_iinc 1029 hM rfl rfl rfl rfl ?_
                                          refine g_goto 33 hM rfl rfl ?_
                                          exact g_lv [(0, .ref (am_big + 0)), (1, .ref 0), (2, .ref 177), (3, .ref 205), (4, .int (Int32.ofInt (v4 + 4)))] rfl ⟨rfl, rfl, rfl, rfl, rfl, trivial⟩ hK
                                      · rw [if_neg hc276] at h
                                        cases h
                                        refine ⟨x268, hxx268, fun r hK => ?_⟩
                                        refine g_iload 35 hM rfl rfl rfl ?_
                                        refine g_aload_n 36 hM rfl rfl rfl ?_
                                        refine g_kalenX 37 hM rfl rfl ?_
                                        refine g_iconst 38 hM rfl rfl ?_
                                        refine g_isub 39 hM rfl rfl ?_
                                        refine g_ic_gt_f 42 1032 hM rfl rfl rfl hg1 hg2 hc3 ?_
                                        refine g_aload_n 43 hM rfl rfl rfl ?_
                                        refine g_iload 45 hM rfl rfl rfl ?_
                                        refine g_kiaload 46 hM rfl rfl hL hg4 ?_
                                        refine g_bipush 48 hM rfl rfl rfl ?_
                                        refine g_iand 49 hM rfl rfl ?_
                                        refine g_tsw 888 hM rfl (zR_and _ _) hc264 rfl rfl rfl ?_
                                        refine g_aload_n 889 hM rfl rfl rfl ?_
                                        refine g_aload_n 890 hM rfl rfl rfl ?_
                                        refine g_call 893 _ [.int (Int32.ofInt r266)] hM rfl rfl rfl rfl rfl (xM_12 _) rfl rfl rfl rfl (by omega) hzx268 rfl ?_
                                        refine g_istore 895 hM rfl rfl rfl ?_
                                        refine g_aload_n 896 hM rfl rfl rfl ?_
                                        refine g_call 899 _ [.int (Int32.ofInt r270)] hM rfl rfl rfl rfl rfl (xM_238 _) rfl (z_rcv2 rfl) rfl rfl (by omega) (w_238 (by omega) h269) rfl ?_
                                        refine g_istore 901 hM rfl rfl rfl ?_
                                        refine g_aload_n 902 hM rfl rfl rfl ?_
                                        refine g_call 905 _ [.int (Int32.ofInt r273)] hM rfl rfl rfl rfl rfl (xM_142 _) rfl (z_rcv2 rfl) rfl rfl (by omega) (w_142 (by omega) h272) rfl ?_
                                        refine g_iload 907 hM rfl rfl rfl ?_
                                        refine g_ic_eq_f 910 912 hM rfl rfl rfl hg274 hg275 hc276 ?_
                                        refine g_iconst 911 hM rfl rfl ?_
                                        rw [show r = _ from hK]
                                        exact g_ret hM rfl rfl
                                    · rw [if_neg hc264] at h
                                      by_cases hc280 : t_0_49 (zand (gX k v4) 31) = 932
                                      · rw [if_pos hc280] at h
                                        obtain ⟨hg281, h⟩ := zg_some h
                                        obtain ⟨r283, h282, h⟩ := zo_some h
                                        obtain ⟨r285, s286, h284, h⟩ := zb_some h
                                        obtain ⟨hg287, h⟩ := zg_some h
                                        obtain ⟨hg288, h⟩ := zg_some h
                                        by_cases hc289 : r283 = r285
                                        · rw [if_pos hc289] at h
                                          cases h
                                          refine ⟨x, Or.inl rfl, fun r hK => ?_⟩
                                          refine g_iload 35 hM rfl rfl rfl ?_
                                          refine g_aload_n 36 hM rfl rfl rfl ?_
                                          refine g_kalenX 37 hM rfl rfl ?_
                                          refine g_iconst 38 hM rfl rfl ?_
                                          refine g_isub 39 hM rfl rfl ?_
                                          refine g_ic_gt_f 42 1032 hM rfl rfl rfl hg1 hg2 hc3 ?_
                                          refine g_aload_n 43 hM rfl rfl rfl ?_
                                          refine g_iload 45 hM rfl rfl rfl ?_
                                          refine g_kiaload 46 hM rfl rfl hL hg4 ?_
                                          refine g_bipush 48 hM rfl rfl rfl ?_
                                          refine g_iand 49 hM rfl rfl ?_
                                          refine g_tsw 932 hM rfl (zR_and _ _) hc280 rfl rfl rfl ?_
                                          refine g_aload_n 933 hM rfl rfl rfl ?_
                                          refine g_aload_n 934 hM rfl rfl rfl ?_
                                          refine g_iload 936 hM rfl rfl rfl ?_
                                          refine g_iconst 937 hM rfl rfl ?_
                                          refine g_iadd 938 hM rfl rfl ?_
                                          refine g_kiaload 939 hM rfl rfl hL hg281 ?_
                                          refine g_call 942 _ [.int (Int32.ofInt r283)] hM rfl rfl rfl rfl rfl (xM_30 _) rfl (z_rcv2 rfl) rfl rfl (by omega) (w_30 (by omega) h282) rfl ?_
                                          refine g_aload_n 943 hM rfl rfl rfl ?_
                                          refine g_aload_n 944 hM rfl rfl rfl ?_
                                          refine g_iload 946 hM rfl rfl rfl ?_
                                          refine g_iconst 947 hM rfl rfl ?_
                                          refine g_iadd 948 hM rfl rfl ?_
                                          refine g_kiaload 949 hM rfl rfl hL hg281 ?_
                                          refine g_call 952 _ [.int (Int32.ofInt r285), .int (Int32.ofInt r283)] hM rfl rfl rfl rfl rfl (xM_240 _) rfl (z_rcv2 rfl) rfl rfl (by omega) (w_240 (by omega) h284) rfl ?_
                                          refine g_ic_eq_t 1026 hM rfl rfl hg287 hg288 hc289 ?_
                                          refine g_iinc 1029 hM rfl rfl rfl rfl ?_
                                          refine g_goto 33 hM rfl rfl ?_
                                          exact g_lv [(0, .ref (am_big + 0)), (1, .ref 0), (2, .ref 177), (3, .ref 205), (4, .int (Int32.ofInt (v4 + 4)))] rfl ⟨rfl, rfl, rfl, rfl, rfl, trivial⟩ hK
                                        · rw [if_neg hc289] at h
                                          cases h
                                          refine ⟨x, Or.inl rfl, fun r hK => ?_⟩
                                          refine g_iload 35 hM rfl rfl rfl ?_
                                          refine g_aload_n 36 hM rfl rfl rfl ?_
                                          refine g_kalenX 37 hM rfl rfl ?_
                                          refine g_iconst 38 hM rfl rfl ?_
                                          refine g_isub 39 hM rfl rfl ?_
                                          refine g_ic_gt_f 42 1032 hM rfl rfl rfl hg1 hg2 hc3 ?_
                                          refine g_aload_n 43 hM rfl rfl rfl ?_
                                          refine g_iload 45 hM rfl rfl rfl ?_
                                          refine g_kiaload 46 hM rfl rfl hL hg4 ?_
                                          refine g_bipush 48 hM rfl rfl rfl ?_
                                          refine g_iand 49 hM rfl rfl ?_
                                          refine g_tsw 932 hM rfl (zR_and _ _) hc280 rfl rfl rfl ?_
                                          refine g_aload_n 933 hM rfl rfl rfl ?_
                                          refine g_aload_n 934 hM rfl rfl rfl ?_
                                          refine g_iload 936 hM rfl rfl rfl ?_
                                          refine g_iconst 937 hM rfl rfl ?_
                                          refine g_iadd 938 hM rfl rfl ?_
                                          refine g_kiaload 939 hM rfl rfl hL hg281 ?_
                                          refine g_call 942 _ [.int (Int32.ofInt r283)] hM rfl rfl rfl rfl rfl (xM_30 _) rfl (z_rcv2 rfl) rfl rfl (by omega) (w_30 (by omega) h282) rfl ?_
                                          refine g_aload_n 943 hM rfl rfl rfl ?_
                                          refine g_aload_n 944 hM rfl rfl rfl ?_
                                          refine g_iload 946 hM rfl rfl rfl ?_
                                          refine g_iconst 947 hM rfl rfl ?_
                                          refine g_iadd 948 hM rfl rfl ?_
                                          refine g_kiaload 949 hM rfl rfl hL hg281 ?_
                                          refine g_call 952 _ [.int (Int32.ofInt r285), .int (Int32.ofInt r283)] hM rfl rfl rfl rfl rfl (xM_240 _) rfl (z_rcv2 rfl) rfl rfl (by omega) (w_240 (by omega) h284) rfl ?_
                                          refine g_ic_eq_f 955 1026 hM rfl rfl rfl hg287 hg288 hc289 ?_
                                          refine g_iconst 956 hM rfl rfl ?_
                                          rw [show r = _ from hK]
                                          exact g_ret hM rfl rfl
                                      · rw [if_neg hc280] at h
                                        by_cases hc290 : t_0_49 (zand (gX k v4) 31) = 957
                                        · rw [if_pos hc290] at h
                                          obtain ⟨r292, s293, h291, h⟩ := zb_some h
                                          obtain ⟨x294, hxx294, hzx294⟩ := w_13 (k := k) (d := d - 1) (by omega) hxl h291
                                          obtain ⟨r296, s297, h295, h⟩ := zb_some h
                                          obtain ⟨r299, h298, h⟩ := zo_some h
                                          obtain ⟨hg300, h⟩ := zg_some h
                                          obtain ⟨hg301, h⟩ := zg_some h
                                          by_cases hc302 : r299 = r292
                                          · rw [if_pos hc302] at h
                                            by_cases hc303 : r292 = 0
                                            · rw [if_pos hc303] at h
                                              obtain ⟨hg304, h⟩ := zg_some h
                                              by_cases hc305 : (gJ s297 205 0) = (BitVec.ofInt 64 r296)
                                              · rw [if_pos hc305] at h
                                                cases h
                                                refine ⟨x294, hxx294, fun r hK => ?_⟩
                                                refine g_iload 35 hM rfl rfl rfl ?_
                                                refine g_aload_n 36 hM rfl rfl rfl ?_
                                                refine g_kalenX 37 hM rfl rfl ?_
                                                refine g_iconst 38 hM rfl rfl ?_
                                                refine g_isub 39 hM rfl rfl ?_
                                                refine g_ic_gt_f 42 1032 hM rfl rfl rfl hg1 hg2 hc3 ?_
                                                refine g_aload_n 43 hM rfl rfl rfl ?_
                                                refine g_iload 45 hM rfl rfl rfl ?_
                                                refine g_kiaload 46 hM rfl rfl hL hg4 ?_
                                                refine g_bipush 48 hM rfl rfl rfl ?_
                                                refine g_iand 49 hM rfl rfl ?_
                                                refine g_tsw 957 hM rfl (zR_and _ _) hc290 rfl rfl rfl ?_
                                                refine g_aload_n 958 hM rfl rfl rfl ?_
                                                refine g_aload_n 959 hM rfl rfl rfl ?_
                                                refine g_call 962 _ [.int (Int32.ofInt r292)] hM rfl rfl rfl rfl rfl (xM_13 _) rfl rfl rfl rfl (by omega) hzx294 rfl ?_
                                                refine g_istore 964 hM rfl rfl rfl ?_
                                                refine g_aload_n 965 hM rfl rfl rfl ?_
                                                refine g_call 968 _ [.int (Int32.ofInt r296)] hM rfl rfl rfl rfl rfl (xM_241 _) rfl (z_rcv2 rfl) rfl rfl (by omega) (w_241 (by omega) h295) rfl ?_
                                                refine g_istore 970 hM rfl rfl rfl ?_
                                                refine g_aload_n 971 hM rfl rfl rfl ?_
                                                refine g_call 974 _ [.int (Int32.ofInt r299)] hM rfl rfl rfl rfl rfl (xM_142 _) rfl (z_rcv2 rfl) rfl rfl (by omega) (w_142 (by omega) h298) rfl ?_
                                                refine g_iload 976 hM rfl rfl rfl ?_
                                                refine g_ic_eq_t 981 hM rfl rfl hg300 hg301 hc302 ?_
                                                refine g_iload 983 hM rfl rfl rfl ?_
                                                refine g_if_ne_f 986 998 hM rfl rfl rfl hg301 hc303 ?_
                                                refine g_aload_n 987 hM rfl rfl rfl ?_
                                                refine g_iconst 988 hM rfl rfl ?_
                                                refine g_laload 989 (gJ s297 205 0) hM rfl rfl rfl rfl ⟨by decide, by decide⟩ rfl ?_
                                                refine g_iload 991 hM rfl rfl rfl ?_
                                                refine g_i2l 992 hM rfl rfl hg304 ?_
                                                refine g_lc_eq_t 993 998 hM rfl rfl rfl rfl hc305 ?_
                                                refine g_goto 1026 hM rfl rfl ?_
                                                refine g_iinc 1029 hM rfl rfl rfl rfl ?_
                                                refine g_goto 33 hM rfl rfl ?_
                                                exact g_lv [(0, .ref (am_big + 0)), (1, .ref 0), (2, .ref 177), (3, .ref 205), (4, .int (Int32.ofInt (v4 + 4)))] rfl ⟨rfl, rfl, rfl, rfl, rfl, trivial⟩ hK
                                              · rw [if_neg hc305] at h
                                                cases h
                                                refine ⟨x294, hxx294, fun r hK => ?_⟩
                                                refine g_iload 35 hM rfl rfl rfl ?_
                                                refine g_aload_n 36 hM rfl rfl rfl ?_
                                                refine g_kalenX 37 hM rfl rfl ?_
                                                refine g_iconst 38 hM rfl rfl ?_
                                                refine g_isub 39 hM rfl rfl ?_
                                                refine g_ic_gt_f 42 1032 hM rfl rfl rfl hg1 hg2 hc3 ?_
                                                refine g_aload_n 43 hM rfl rfl rfl ?_
                                                refine g_iload 45 hM rfl rfl rfl ?_
                                                refine g_kiaload 46 hM rfl rfl hL hg4 ?_
                                                refine g_bipush 48 hM rfl rfl rfl ?_
                                                refine g_iand 49 hM rfl rfl ?_
                                                refine g_tsw 957 hM rfl (zR_and _ _) hc290 rfl rfl rfl ?_
                                                refine g_aload_n 958 hM rfl rfl rfl ?_
                                                refine g_aload_n 959 hM rfl rfl rfl ?_
                                                refine g_call 962 _ [.int (Int32.ofInt r292)] hM rfl rfl rfl rfl rfl (xM_13 _) rfl rfl rfl rfl (by omega) hzx294 rfl ?_
                                                refine g_istore 964 hM rfl rfl rfl ?_
                                                refine g_aload_n 965 hM rfl rfl rfl ?_
                                                refine g_call 968 _ [.int (Int32.ofInt r296)] hM rfl rfl rfl rfl rfl (xM_241 _) rfl (z_rcv2 rfl) rfl rfl (by omega) (w_241 (by omega) h295) rfl ?_
                                                refine g_istore 970 hM rfl rfl rfl ?_
                                                refine g_aload_n 971 hM rfl rfl rfl ?_
                                                refine g_call 974 _ [.int (Int32.ofInt r299)] hM rfl rfl rfl rfl rfl (xM_142 _) rfl (z_rcv2 rfl) rfl rfl (by omega) (w_142 (by omega) h298) rfl ?_
                                                refine g_iload 976 hM rfl rfl rfl ?_
                                                refine g_ic_eq_t 981 hM rfl rfl hg300 hg301 hc302 ?_
                                                refine g_iload 983 hM rfl rfl rfl ?_
                                                refine g_if_ne_f 986 998 hM rfl rfl rfl hg301 hc303 ?_
                                                refine g_aload_n 987 hM rfl rfl rfl ?_
                                                refine g_iconst 988 hM rfl rfl ?_
                                                refine g_laload 989 (gJ s297 205 0) hM rfl rfl rfl rfl ⟨by decide, by decide⟩ rfl ?_
                                                refine g_iload 991 hM rfl rfl rfl ?_
                                                refine g_i2l 992 hM rfl rfl hg304 ?_
                                                refine g_lc_eq_f 993 996 998 hM rfl rfl rfl rfl rfl hc305 ?_
                                                refine g_iconst 997 hM rfl rfl ?_
                                                rw [show r = _ from hK]
                                                exact g_ret hM rfl rfl
                                            · rw [if_neg hc303] at h
                                              cases h
                                              refine ⟨x294, hxx294, fun r hK => ?_⟩
                                              refine g_iload 35 hM rfl rfl rfl ?_
                                              refine g_aload_n 36 hM rfl rfl rfl ?_
                                              refine g_kalenX 37 hM rfl rfl ?_
                                              refine g_iconst 38 hM rfl rfl ?_
                                              refine g_isub 39 hM rfl rfl ?_
                                              refine g_ic_gt_f 42 1032 hM rfl rfl rfl hg1 hg2 hc3 ?_
                                              refine g_aload_n 43 hM rfl rfl rfl ?_
                                              refine g_iload 45 hM rfl rfl rfl ?_
                                              refine g_kiaload 46 hM rfl rfl hL hg4 ?_
                                              refine g_bipush 48 hM rfl rfl rfl ?_
                                              refine g_iand 49 hM rfl rfl ?_
                                              refine g_tsw 957 hM rfl (zR_and _ _) hc290 rfl rfl rfl ?_
                                              refine g_aload_n 958 hM rfl rfl rfl ?_
                                              refine g_aload_n 959 hM rfl rfl rfl ?_
                                              refine g_call 962 _ [.int (Int32.ofInt r292)] hM rfl rfl rfl rfl rfl (xM_13 _) rfl rfl rfl rfl (by omega) hzx294 rfl ?_
                                              refine g_istore 964 hM rfl rfl rfl ?_
                                              refine g_aload_n 965 hM rfl rfl rfl ?_
                                              refine g_call 968 _ [.int (Int32.ofInt r296)] hM rfl rfl rfl rfl rfl (xM_241 _) rfl (z_rcv2 rfl) rfl rfl (by omega) (w_241 (by omega) h295) rfl ?_
                                              refine g_istore 970 hM rfl rfl rfl ?_
                                              refine g_aload_n 971 hM rfl rfl rfl ?_
                                              refine g_call 974 _ [.int (Int32.ofInt r299)] hM rfl rfl rfl rfl rfl (xM_142 _) rfl (z_rcv2 rfl) rfl rfl (by omega) (w_142 (by omega) h298) rfl ?_
                                              refine g_iload 976 hM rfl rfl rfl ?_
                                              refine g_ic_eq_t 981 hM rfl rfl hg300 hg301 hc302 ?_
                                              refine g_iload 983 hM rfl rfl rfl ?_
                                              refine g_if_ne_t 998 hM rfl rfl hg301 hc303 ?_
                                              refine g_goto 1026 hM rfl rfl ?_
                                              refine g_iinc 1029 hM rfl rfl rfl rfl ?_
                                              refine g_goto 33 hM rfl rfl ?_
                                              exact g_lv [(0, .ref (am_big + 0)), (1, .ref 0), (2, .ref 177), (3, .ref 205), (4, .int (Int32.ofInt (v4 + 4)))] rfl ⟨rfl, rfl, rfl, rfl, rfl, trivial⟩ hK
                                          · rw [if_neg hc302] at h
                                            cases h
                                            refine ⟨x294, hxx294, fun r hK => ?_⟩
                                            refine g_iload 35 hM rfl rfl rfl ?_
                                            refine g_aload_n 36 hM rfl rfl rfl ?_
                                            refine g_kalenX 37 hM rfl rfl ?_
                                            refine g_iconst 38 hM rfl rfl ?_
                                            refine g_isub 39 hM rfl rfl ?_
                                            refine g_ic_gt_f 42 1032 hM rfl rfl rfl hg1 hg2 hc3 ?_
                                            refine g_aload_n 43 hM rfl rfl rfl ?_
                                            refine g_iload 45 hM rfl rfl rfl ?_
                                            refine g_kiaload 46 hM rfl rfl hL hg4 ?_
                                            refine g_bipush 48 hM rfl rfl rfl ?_
                                            refine g_iand 49 hM rfl rfl ?_
                                            refine g_tsw 957 hM rfl (zR_and _ _) hc290 rfl rfl rfl ?_
                                            refine g_aload_n 958 hM rfl rfl rfl ?_
                                            refine g_aload_n 959 hM rfl rfl rfl ?_
                                            refine g_call 962 _ [.int (Int32.ofInt r292)] hM rfl rfl rfl rfl rfl (xM_13 _) rfl rfl rfl rfl (by omega) hzx294 rfl ?_
                                            refine g_istore 964 hM rfl rfl rfl ?_
                                            refine g_aload_n 965 hM rfl rfl rfl ?_
                                            refine g_call 968 _ [.int (Int32.ofInt r296)] hM rfl rfl rfl rfl rfl (xM_241 _) rfl (z_rcv2 rfl) rfl rfl (by omega) (w_241 (by omega) h295) rfl ?_
                                            refine g_istore 970 hM rfl rfl rfl ?_
                                            refine g_aload_n 971 hM rfl rfl rfl ?_
                                            refine g_call 974 _ [.int (Int32.ofInt r299)] hM rfl rfl rfl rfl rfl (xM_142 _) rfl (z_rcv2 rfl) rfl rfl (by omega) (w_142 (by omega) h298) rfl ?_
                                            refine g_iload 976 hM rfl rfl rfl ?_
                                            refine g_ic_eq_f 979 981 hM rfl rfl rfl hg300 hg301 hc302 ?_
                                            refine g_iconst 980 hM rfl rfl ?_
                                            rw [show r = _ from hK]
                                            exact g_ret hM rfl rfl
                                        · rw [if_neg hc290] at h
                                          by_cases hc306 : t_0_49 (zand (gX k v4) 31) = 1001
                                          · rw [if_pos hc306] at h
                                            obtain ⟨hg307, h⟩ := zg_some h
                                            obtain ⟨r309, h308, h⟩ := zo_some h
                                            obtain ⟨r311, s312, h310, h⟩ := zb_some h
                                            obtain ⟨hg313, h⟩ := zg_some h
                                            obtain ⟨hg314, h⟩ := zg_some h
                                            by_cases hc315 : r309 = r311
                                            · rw [if_pos hc315] at h
                                              cases h
                                              refine ⟨x, Or.inl rfl, fun r hK => ?_⟩
                                              refine g_iload 35 hM rfl rfl rfl ?_
                                              refine g_aload_n 36 hM rfl rfl rfl ?_
                                              refine g_kalenX 37 hM rfl rfl ?_
                                              refine g_iconst 38 hM rfl rfl ?_
                                              refine g_isub 39 hM rfl rfl ?_
                                              refine g_ic_gt_f 42 1032 hM rfl rfl rfl hg1 hg2 hc3 ?_
                                              refine g_aload_n 43 hM rfl rfl rfl ?_
                                              refine g_iload 45 hM rfl rfl rfl ?_
                                              refine g_kiaload 46 hM rfl rfl hL hg4 ?_
                                              refine g_bipush 48 hM rfl rfl rfl ?_
                                              refine g_iand 49 hM rfl rfl ?_
                                              refine g_tsw 1001 hM rfl (zR_and _ _) hc306 rfl rfl rfl ?_
                                              refine g_aload_n 1002 hM rfl rfl rfl ?_
                                              refine g_aload_n 1003 hM rfl rfl rfl ?_
                                              refine g_iload 1005 hM rfl rfl rfl ?_
                                              refine g_iconst 1006 hM rfl rfl ?_
                                              refine g_iadd 1007 hM rfl rfl ?_
                                              refine g_kiaload 1008 hM rfl rfl hL hg307 ?_
                                              refine g_call 1011 _ [.int (Int32.ofInt r309)] hM rfl rfl rfl rfl rfl (xM_31 _) rfl (z_rcv2 rfl) rfl rfl (by omega) (w_31 (by omega) h308) rfl ?_
                                              refine g_aload_n 1012 hM rfl rfl rfl ?_
                                              refine g_aload_n 1013 hM rfl rfl rfl ?_
                                              refine g_iload 1015 hM rfl rfl rfl ?_
                                              refine g_iconst 1016 hM rfl rfl ?_
                                              refine g_iadd 1017 hM rfl rfl ?_
                                              refine g_kiaload 1018 hM rfl rfl hL hg307 ?_
                                              refine g_call 1021 _ [.int (Int32.ofInt r311), .int (Int32.ofInt r309)] hM rfl rfl rfl rfl rfl (xM_242 _) rfl (z_rcv2 rfl) rfl rfl (by omega) (w_242 (by omega) h310) rfl ?_
                                              refine g_ic_eq_t 1026 hM rfl rfl hg313 hg314 hc315 ?_
                                              refine g_iinc 1029 hM rfl rfl rfl rfl ?_
                                              refine g_goto 33 hM rfl rfl ?_
                                              exact g_lv [(0, .ref (am_big + 0)), (1, .ref 0), (2, .ref 177), (3, .ref 205), (4, .int (Int32.ofInt (v4 + 4)))] rfl ⟨rfl, rfl, rfl, rfl, rfl, trivial⟩ hK
                                            · rw [if_neg hc315] at h
                                              cases h
                                              refine ⟨x, Or.inl rfl, fun r hK => ?_⟩
                                              refine g_iload 35 hM rfl rfl rfl ?_
                                              refine g_aload_n 36 hM rfl rfl rfl ?_
                                              refine g_kalenX 37 hM rfl rfl ?_
                                              refine g_iconst 38 hM rfl rfl ?_
                                              refine g_isub 39 hM rfl rfl ?_
                                              refine g_ic_gt_f 42 1032 hM rfl rfl rfl hg1 hg2 hc3 ?_
                                              refine g_aload_n 43 hM rfl rfl rfl ?_
                                              refine g_iload 45 hM rfl rfl rfl ?_
                                              refine g_kiaload 46 hM rfl rfl hL hg4 ?_
                                              refine g_bipush 48 hM rfl rfl rfl ?_
                                              refine g_iand 49 hM rfl rfl ?_
                                              refine g_tsw 1001 hM rfl (zR_and _ _) hc306 rfl rfl rfl ?_
                                              refine g_aload_n 1002 hM rfl rfl rfl ?_
                                              refine g_aload_n 1003 hM rfl rfl rfl ?_
                                              refine g_iload 1005 hM rfl rfl rfl ?_
                                              refine g_iconst 1006 hM rfl rfl ?_
                                              refine g_iadd 1007 hM rfl rfl ?_
                                              refine g_kiaload 1008 hM rfl rfl hL hg307 ?_
                                              refine g_call 1011 _ [.int (Int32.ofInt r309)] hM rfl rfl rfl rfl rfl (xM_31 _) rfl (z_rcv2 rfl) rfl rfl (by omega) (w_31 (by omega) h308) rfl ?_
                                              refine g_aload_n 1012 hM rfl rfl rfl ?_
                                              refine g_aload_n 1013 hM rfl rfl rfl ?_
                                              refine g_iload 1015 hM rfl rfl rfl ?_
                                              refine g_iconst 1016 hM rfl rfl ?_
                                              refine g_iadd 1017 hM rfl rfl ?_
                                              refine g_kiaload 1018 hM rfl rfl hL hg307 ?_
                                              refine g_call 1021 _ [.int (Int32.ofInt r311), .int (Int32.ofInt r309)] hM rfl rfl rfl rfl rfl (xM_242 _) rfl (z_rcv2 rfl) rfl rfl (by omega) (w_242 (by omega) h310) rfl ?_
                                              refine g_ic_eq_f 1024 1026 hM rfl rfl rfl hg313 hg314 hc315 ?_
                                              refine g_iconst 1025 hM rfl rfl ?_
                                              rw [show r = _ from hK]
                                              exact g_ret hM rfl rfl
                                          · rw [if_neg hc306] at h
                                            by_cases hc316 : t_0_49 (zand (gX k v4) 31) = 1026
                                            · rw [if_pos hc316] at h
                                              cases h
                                              refine ⟨x, Or.inl rfl, fun r hK => ?_⟩
                                              refine g_iload 35 hM rfl rfl rfl ?_
                                              refine g_aload_n 36 hM rfl rfl rfl ?_
                                              refine g_kalenX 37 hM rfl rfl ?_
                                              refine g_iconst 38 hM rfl rfl ?_
                                              refine g_isub 39 hM rfl rfl ?_
                                              refine g_ic_gt_f 42 1032 hM rfl rfl rfl hg1 hg2 hc3 ?_
                                              refine g_aload_n 43 hM rfl rfl rfl ?_
                                              refine g_iload 45 hM rfl rfl rfl ?_
                                              refine g_kiaload 46 hM rfl rfl hL hg4 ?_
                                              refine g_bipush 48 hM rfl rfl rfl ?_
                                              refine g_iand 49 hM rfl rfl ?_
                                              refine g_tsw 1026 hM rfl (zR_and _ _) hc316 rfl rfl rfl ?_
                                              refine g_iinc 1029 hM rfl rfl rfl rfl ?_
                                              refine g_goto 33 hM rfl rfl ?_
                                              exact g_lv [(0, .ref (am_big + 0)), (1, .ref 0), (2, .ref 177), (3, .ref 205), (4, .int (Int32.ofInt (v4 + 4)))] rfl ⟨rfl, rfl, rfl, rfl, rfl, trivial⟩ hK
                                            · rw [if_neg hc316] at h
                                              cases h
