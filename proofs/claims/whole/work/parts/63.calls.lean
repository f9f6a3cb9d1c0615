/-! THE PURE LAYER: calls, ends, throws, catches. -/
section ZPF
variable {MT : Nat → Option am_M} {cl : List vw_C} {fty : Nat → Nat → FieldType} {tyl : List FieldType} {kA : am_KA} {kF : am_KF} {ko : Nat → Option String}
set_option maxHeartbeats 4000000 in
theorem zp_fuel : ∀ (n d mi : Nat) (f : am_F) (ah : am_H) (r : am_A × am_H), am_exec MT cl fty tyl kA kF ko n d mi f ah = some r → ∀ (n' d' : Nat), n ≤ n' → d ≤ d' → am_exec MT cl fty tyl kA kF ko n' d' mi f ah = some r := by
  intro n
  induction n with
  | zero => intro d mi f ah r h; cases h
  | succ n ih =>
    intro d mi f ah r h n' d' hn hd
    obtain ⟨n', rfl⟩ : ∃ q, n' = q + 1 := ⟨n' - 1, by omega⟩
    have hn' : n ≤ n' := by omega
    obtain ⟨pc, lv, st⟩ := f
    simp only [am_exec] at h ⊢
    cases hM : MT mi with
    | none => rw [hM] at h; cases h
    | some M =>
      rw [hM] at h
      dsimp only at h ⊢
      cases hI : am_mI M pc with
      | none => rw [hI] at h; cases h
      | some q =>
        obtain ⟨i, len⟩ := q
        rw [hI] at h
        dsimp only at h ⊢
        cases hR : am_ret (am_r M) i st with
        | some v => rw [hR] at h; exact h
        | none =>
          rw [hR] at h
          dsimp only at h ⊢
          cases hX : am_mX M pc with
          | some ci =>
            rw [hX] at h
            dsimp only at h ⊢
            split at h
            · next e => rw [if_pos ⟨e.1, by omega, e.2.2⟩]; exact h
            · cases h
          | none =>
            rw [hX] at h
            dsimp only at h ⊢
            cases hC : am_cal M i with
            | none =>
              rw [hC] at h
              dsimp only at h ⊢
              cases hS : am_step cl fty tyl kA kF M i (pc, lv, st) ah with
              | none => rw [hS] at h; cases h
              | some q =>
                obtain ⟨f1, ah1⟩ := q
                rw [hS] at h
                exact ih d mi f1 ah1 r h n' d' hn' hd
            | some q =>
              obtain ⟨ix, k, mi', na, hh, rc⟩ := q
              rw [hC] at h
              dsimp only at h ⊢
              by_cases hk4 : 4 ≤ k
              · rw [if_pos hk4] at h ⊢
                cases hS : am_prim k (pc, lv, st) ah with
                | none => rw [hS] at h; cases h
                | some q =>
                  obtain ⟨f1, ah1⟩ := q
                  rw [hS] at h
                  dsimp only at h ⊢
                  split at h
                  · cases h
                  · rw [if_neg (by omega)]
                    exact ih d mi f1 ah1 r h n' d' hn' hd
              · rw [if_neg hk4] at h ⊢
                cases d with
                | zero => cases h
                | succ d =>
                  obtain ⟨d', rfl⟩ : ∃ q, d' = q + 1 := ⟨d' - 1, by omega⟩
                  dsimp only at h ⊢
                  cases hM2 : MT mi' with
                  | none => rw [hM2] at h; cases h
                  | some M' =>
                    rw [hM2] at h
                    dsimp only at h ⊢
                    split at h
                    · next hok =>
                      rw [if_pos hok]
                      cases hE : am_exec MT cl fty tyl kA kF ko n d mi' (0, lv_args 0 (st.take na).reverse, []) ah with
                      | none => rw [hE] at h; cases h
                      | some q =>
                        have hE2 := ih d mi' _ ah q hE n' d' hn' (by omega)
                        rw [hE] at h
                        rw [hE2]
                        obtain ⟨a, ah1⟩ := q
                        cases a with
                        | inl v => exact ih (d + 1) mi _ ah1 r h n' (d' + 1) hn' hd
                        | inr x =>
                          dsimp only at h ⊢
                          split at h
                          · split at h
                            · exact ih (d + 1) mi _ ah1 r h n' (d' + 1) hn' hd
                            · cases h
                          · cases h
                    · cases h
end ZPF
def zck (M' : am_M) (na : Nat) (st : List Value) : Bool := Nat.ble na st.length && (Nat.ble (((st.drop na).map fun v => v.category).sum) 8 && Nat.ble ((lg_sl (st.take na).reverse).length) (am_n M'))
theorem z_cok {ko : Nat → Option String} {M' : am_M} {kk na rc : Nat} {st : List Value} {ah : am_H} (h : zck M' na st = true) (hr : am_rcv ko (am_y M').cls kk rc (st.take na).reverse ah = true) : am_cok ko M' kk na rc st ah = true := by
  unfold zck at h
  simp only [Bool.and_eq_true, Nat.ble_eq] at h
  unfold am_cok
  rw [hr, decide_eq_true h.1, decide_eq_true h.2.1, decide_eq_true h.2.2]
  rfl
theorem z_rcv2 {ko : Nat → Option String} {C : String} {rc c : Nat} {fs : List (Nat × Nat)} {As : List Value} {s : zS} {x : am_H} (hl : zlay c = some (.inr (rc, fs))) : am_rcv ko C 2 rc (.ref c :: As) (hp s ++ x) = true := by
  simp only [am_rcv, z_at hl, zmk_obj hl, beq_self_eq_true]
theorem z_rcv3 {ko : Nat → Option String} {C : String} {rc j : Nat} {As : List Value} {ah : am_H} (h : ko j = some C) : am_rcv ko C 3 rc (.ref (am_big + j) :: As) ah = true := by
  simp only [am_rcv, z_bsub, h, beq_self_eq_true, Bool.and_true]
  exact decide_eq_true (z_nob j)
section ZCL
variable {k : zK} {d mi pc : Nat} {M : am_M} {lv : List (Nat × Value)} {st : List Value} {ah ah1 : am_H} {r : am_A × am_H} {s : zS} {x : am_H} {i : Instr} {len : Nat}
theorem g_ret {v : Option Value} (hM : xMT (zvz k.1) mi = some M) (hI : am_mI M pc = some (i, len)) (hr : am_ret (am_r M) i st = some v) : zgo k d mi (pc, lv, st) ah (.inl v, ah) := ⟨1, by simp only [am_exec, hM, hI, hr]⟩
theorem z_retB {v : Int} (h : v = 0 ∨ v = 1) : am_ret (some .boolean) .ireturn [.int (Int32.ofInt v)] = some (some (.int (Int32.ofInt v))) := by
  simp only [am_ret, z_rfitB h, ↓reduceIte]
theorem z_retC {v : Int} (h : 0 ≤ v ∧ v ≤ 65535) : am_ret (some .char) .ireturn [.int (Int32.ofInt v)] = some (some (.int (Int32.ofInt v))) := by
  have hv : zR v := ⟨by omega, by omega⟩
  have hf : am_rfit .char (Int32.ofInt v) = true := by
    show (decide (¬ Int32.ofInt v < 0) && decide (Int32.ofInt v ≤ 65535)) = true
    rw [decide_eq_true (by rw [z_lt0 hv]; omega), decide_eq_true (by rw [show (65535 : Int32) = Int32.ofInt 65535 from rfl, z_le hv (by decide)]; omega)]
    rfl
  simp only [am_ret, hf, ↓reduceIte]
theorem g_call (p : Nat) (lvc : List (Nat × Value)) (st' : List Value) {ix kk mi' na rc : Nat} {hh : Option String} {M' : am_M} {v : Option Value} (hM : xMT (zvz k.1) mi = some M) (hI : am_mI M pc = some (i, len)) (hr : am_ret (am_r M) i st = none) (hX : am_mX M pc = none) (hc : am_cal M i = some (ix, kk, mi', na, hh, rc)) (h4 : Nat.ble 4 kk = false) (hM' : xMT (zvz k.1) mi' = some M') (hck : zck M' na st = true) (hrc : am_rcv xko (am_y M').cls kk rc (st.take na).reverse ah = true) (hlv : lv_args 0 (st.take na).reverse = lvc) (e : pc + 3 = p) (hd : 0 < d) (gc : zgo k (d - 1) mi' (0, lvc, []) ah (.inl v, ah1)) (hst : v.toList ++ st.drop na = st') (g : zgo k d mi (p, lv, st') ah1 r) : zgo k d mi (pc, lv, st) ah r := by
  subst hlv
  subst e
  subst hst
  obtain ⟨n1, h1⟩ := gc
  obtain ⟨n2, h2⟩ := g
  obtain ⟨d, rfl⟩ : ∃ q, d = q + 1 := ⟨d - 1, by omega⟩
  refine ⟨n1 + n2 + 1, ?_⟩
  have h1' := zp_fuel _ _ _ _ _ _ h1 (n1 + n2) d (by omega) (by omega)
  have h2' := zp_fuel _ _ _ _ _ _ h2 (n1 + n2) (d + 1) (by omega) (by omega)
  have h4' : ¬ 4 ≤ kk := by rw [← Nat.ble_eq, h4]; exact Bool.false_ne_true
  simp only [am_exec, hM, hI, hr, hX, hc, if_neg h4', hM', z_cok hck hrc, ↓reduceIte, h1', h2']
/-- a call that throws, caught here -/
theorem g_callx {ix kk mi' na rc ci y h : Nat} {hh : Option String} {M' : am_M} {fs : List Value} (lvc : List (Nat × Value)) (hM : xMT (zvz k.1) mi = some M) (hI : am_mI M pc = some (i, len)) (hr : am_ret (am_r M) i st = none) (hX : am_mX M pc = none) (hc : am_cal M i = some (ix, kk, mi', na, hh, rc)) (h4 : Nat.ble 4 kk = false) (hM' : xMT (zvz k.1) mi' = some M') (hck : zck M' na st = true) (hrc : am_rcv xko (am_y M').cls kk rc (st.take na).reverse ah = true) (hlv : lv_args 0 (st.take na).reverse = lvc) (hd : 0 < d) (gc : zgo k (d - 1) mi' (0, lvc, []) ah (.inr y, ah1)) (hy : am_at ah1 y = some (.inr (ci, fs))) (hh2 : am_hnd (am_mK M) (am_mT M) pc ci = some h) (g : zgo k d mi (h, lv, [.ref y]) ah1 r) : zgo k d mi (pc, lv, st) ah r := by
  subst hlv
  obtain ⟨n1, h1⟩ := gc
  obtain ⟨n2, h2⟩ := g
  obtain ⟨d, rfl⟩ : ∃ q, d = q + 1 := ⟨d - 1, by omega⟩
  refine ⟨n1 + n2 + 1, ?_⟩
  have h1' := zp_fuel _ _ _ _ _ _ h1 (n1 + n2) d (by omega) (by omega)
  have h2' := zp_fuel _ _ _ _ _ _ h2 (n1 + n2) (d + 1) (by omega) (by omega)
  have h4' : ¬ 4 ≤ kk := by rw [← Nat.ble_eq, h4]; exact Bool.false_ne_true
  simp only [am_exec, hM, hI, hr, hX, hc, if_neg h4', hM', z_cok hck hrc, ↓reduceIte, h1', hy, hh2, h2']
theorem g_throw {ci : Nat} (hM : xMT (zvz k.1) mi = some M) (hI : am_mI M pc = some (i, len)) (hr : am_ret (am_r M) i st = none) (hX : am_mX M pc = some ci) (hx : x.length < 100000) (hd : 8 ≤ d) (hst : Nat.ble ((st.map fun v => v.category).sum) 8 = true) : zgo k d mi (pc, lv, st) (hp s ++ x) (.inr (206 + x.length), hp s ++ (x ++ [.inr (ci, am_six)])) := by
  refine ⟨1, ?_⟩
  have hl : (hp s ++ x).length = 206 + x.length := by rw [List.length_append, hp_len]
  have hc : 206 + x.length < am_big ∧ 8 ≤ d ∧ (st.map fun v => v.category).sum ≤ 8 := ⟨by unfold am_big; omega, hd, Nat.le_of_ble_eq_true hst⟩
  simp only [am_exec, hM, hI, hr, hX, hl, if_pos hc, List.append_assoc]
theorem z_atx {ci : Nat} {fs : List Value} (hx : x.length < 100000) : am_at (hp s ++ (x ++ [.inr (ci, fs)])) (206 + x.length) = some (.inr (ci, fs)) := by
  unfold am_at
  rw [if_pos (by unfold am_big; omega), List.getElem?_append_right (by rw [hp_len]; omega), hp_len, List.getElem?_append_right (by omega)]
  have e : 206 + x.length - 206 - x.length = 0 := by omega
  rw [e]
  rfl
theorem g_acopy (p : Nat) {a b na nb ix mi' na' rc : Nat} {hh : Option String} {n dp sp naI nbI : Int} (hM : xMT (zvz k.1) mi = some M) (hI : am_mI M pc = some (i, len)) (hr : ∀ st, am_ret (am_r M) i st = none) (hX : am_mX M pc = none) (hc : am_cal M i = some (ix, 4, mi', na', hh, rc)) (e : pc + 3 = p) (hla : zlay a = some (.inl (.long, na))) (hlb : zlay b = some (.inl (.long, nb))) (hna : (na : Int) = naI) (hnb : (nb : Int) = nbI) (hg : 0 ≤ sp ∧ 0 ≤ dp ∧ 0 ≤ n ∧ sp + n ≤ naI ∧ dp + n ≤ nbI) (hst : Nat.ble ((st.map fun v => v.category).sum) 8 = true) (hd : 0 < d) (g : zgo k d mi (p, lv, st) (hp (zcp s a sp b dp n) ++ x) r) : zgo k d mi (pc, lv, .int (Int32.ofInt n) :: .int (Int32.ofInt dp) :: .ref b :: .int (Int32.ofInt sp) :: .ref a :: st) (hp s ++ x) r := by
  subst e
  obtain ⟨n2, h2⟩ := g
  refine ⟨n2 + 1, ?_⟩
  have h1 := zlay_len hla
  have h3 := zlay_len hlb
  obtain ⟨g1, g2, g3, g4, g5⟩ := hg
  have rs : zR sp := ⟨by omega, by omega⟩
  have rd : zR dp := ⟨by omega, by omega⟩
  have rn : zR n := ⟨by omega, by omega⟩
  have hno : ¬ (Int32.ofInt sp < 0 ∨ Int32.ofInt dp < 0 ∨ Int32.ofInt n < 0 ∨ na < (Int32.ofInt sp).toNatClampNeg + (Int32.ofInt n).toNatClampNeg ∨ nb < (Int32.ofInt dp).toNatClampNeg + (Int32.ofInt n).toNatClampNeg) := by
    rw [z_lt0 rs, z_lt0 rd, z_lt0 rn, z_nat g1 rs, z_nat g2 rd, z_nat g3 rn]
    omega
  have hcp : zmk (zcp s a sp b dp n) b = .inl (.long, nb, .inr (.inl (va_cpy (fun j : Nat => Int64.ofBitVec (s.2.1 a (j : Int))) (fun j : Nat => Int64.ofBitVec (s.2.1 b (j : Int))) sp.toNat dp.toNat n.toNat))) := by
    rw [zmk_arr hlb]
    simp only [zarr]
    congr 5
    funext j
    simp only [zcp, va_cpy, if_pos]
    by_cases hj : dp ≤ (j : Int) ∧ (j : Int) < dp + n
    · rw [if_pos hj, if_pos (by omega)]
      have e : sp + ((j : Int) - dp) = ((sp.toNat + (j - dp.toNat) : Nat) : Int) := by omega
      rw [e]
    · rw [if_neg hj, if_neg (by omega)]
  have hp4 : am_prim 4 (pc, lv, .int (Int32.ofInt n) :: .int (Int32.ofInt dp) :: .ref b :: .int (Int32.ofInt sp) :: .ref a :: st) (hp s ++ x) = some ((pc + 3, lv, st), hp (zcp s a sp b dp n) ++ x) := by
    simp only [am_prim, am_copy, z_at hla, z_at hlb, zmk_arr hla, zmk_arr hlb, zarr]
    rw [if_neg hno, if_pos (Nat.le_of_ble_eq_true hst), z_nat g1 rs, z_nat g2 rd, z_nat g3 rn, ← hcp, z_set hlb (fun c' h => zmk_cp h)]
  have hd0 : ¬ d = 0 := by omega
  simp only [am_exec, hM, hI, hr, hX, hc, hp4, if_neg hd0, h2, Nat.le_refl, ↓reduceIte]
def zmax (a b : Int) : Int := if a < b then b else a
theorem g_max (p : Nat) {ix mi' na' rc : Nat} {hh : Option String} {a b : Int} (hM : xMT (zvz k.1) mi = some M) (hI : am_mI M pc = some (i, len)) (hr : ∀ st, am_ret (am_r M) i st = none) (hX : am_mX M pc = none) (hc : am_cal M i = some (ix, 6, mi', na', hh, rc)) (e : pc + 3 = p) (ha : zR a) (hb : zR b) (hst : Nat.ble ((st.map fun v => v.category).sum) 8 = true) (hd : 0 < d) (g : zgo k d mi (p, lv, .int (Int32.ofInt (zmax a b)) :: st) ah r) : zgo k d mi (pc, lv, .int (Int32.ofInt b) :: .int (Int32.ofInt a) :: st) ah r := by
  subst e
  obtain ⟨n2, h2⟩ := g
  refine ⟨n2 + 1, ?_⟩
  have hp4 : am_prim 6 (pc, lv, .int (Int32.ofInt b) :: .int (Int32.ofInt a) :: st) ah = some ((pc + 3, lv, .int (Int32.ofInt (zmax a b)) :: st), ah) := by
    simp only [am_prim, am_one, am_mm]
    rw [if_pos (Nat.le_of_ble_eq_true hst)]
    have e : (if Int32.ofInt a < Int32.ofInt b then (Int32.ofInt b) else (Int32.ofInt a)) = Int32.ofInt (zmax a b) := by
      unfold zmax
      by_cases hc : a < b
      · rw [if_pos hc, if_pos (by rw [z_lt ha hb]; exact hc)]
      · rw [if_neg hc, if_neg (by rw [z_lt ha hb]; exact hc)]
    simp only [↓reduceIte]
    rw [e]
  have hd0 : ¬ d = 0 := by omega
  have h4 : (4 : Nat) ≤ 6 := by decide
  simp only [am_exec, hM, hI, hr, hX, hc, hp4, if_neg hd0, h2, if_pos h4]
def zmin (a b : Int) : Int := if b < a then b else a
theorem g_min (p : Nat) {ix mi' na' rc : Nat} {hh : Option String} {a b : Int} (hM : xMT (zvz k.1) mi = some M) (hI : am_mI M pc = some (i, len)) (hr : ∀ st, am_ret (am_r M) i st = none) (hX : am_mX M pc = none) (hc : am_cal M i = some (ix, 7, mi', na', hh, rc)) (e : pc + 3 = p) (ha : zR a) (hb : zR b) (hst : Nat.ble ((st.map fun v => v.category).sum) 8 = true) (hd : 0 < d) (g : zgo k d mi (p, lv, .int (Int32.ofInt (zmin a b)) :: st) ah r) : zgo k d mi (pc, lv, .int (Int32.ofInt b) :: .int (Int32.ofInt a) :: st) ah r := by
  subst e
  obtain ⟨n2, h2⟩ := g
  refine ⟨n2 + 1, ?_⟩
  have hp4 : am_prim 7 (pc, lv, .int (Int32.ofInt b) :: .int (Int32.ofInt a) :: st) ah = some ((pc + 3, lv, .int (Int32.ofInt (zmin a b)) :: st), ah) := by
    simp only [am_prim, am_one, am_mm]
    rw [if_pos (Nat.le_of_ble_eq_true hst)]
    have e : (if Int32.ofInt b < Int32.ofInt a then (Int32.ofInt b) else (Int32.ofInt a)) = Int32.ofInt (zmin a b) := by
      unfold zmin
      by_cases hc : b < a
      · rw [if_pos hc, if_pos (by rw [z_lt hb ha]; exact hc)]
      · rw [if_neg hc, if_neg (by rw [z_lt hb ha]; exact hc)]
    simp only [Bool.false_eq_true, ↓reduceIte]
    rw [e]
  have hd0 : ¬ d = 0 := by omega
  have h4 : (4 : Nat) ≤ 7 := by decide
  simp only [am_exec, hM, hI, hr, hX, hc, hp4, if_neg hd0, h2, if_pos h4]
end ZCL
