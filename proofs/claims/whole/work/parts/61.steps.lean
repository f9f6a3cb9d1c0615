/-! THE PURE LAYER: runs to an end; a step at a time, ints as integers, longs as words. -/
abbrev zK : Type := Bool × Nat × (Nat → Int32)
def zvz (b : Bool) : Value := cond b .null (.ref (am_big + 3))
def zgo (k : zK) (d mi : Nat) (f : am_F) (ah : am_H) (r : am_A × am_H) : Prop := ∃ n, am_exec (xMT (zvz k.1)) xcl xfty xtyl (xkA k.2.1 k.2.2) xkF xko n d mi f ah = some r
abbrev zR (a : Int) : Prop := -2147483648 ≤ a ∧ a < 2147483648
def zg {α : Type} (c : Prop) [Decidable c] (o : Option α) : Option α := if c then o else none
theorem zg_some {α : Type} {c : Prop} [Decidable c] {o : Option α} {r : α} (h : zg c o = some r) : c ∧ o = some r := by
  unfold zg at h
  split at h
  · next hc => exact ⟨hc, h⟩
  · cases h
theorem zg_pos {α : Type} {c : Prop} [Decidable c] {o : Option α} (h : c) : zg c o = o := if_pos h
def zb {α σ β : Type} (o : Option (α × σ)) (f : α → σ → Option β) : Option β := match o with
  | some (a, s) => f a s
  | none => none
theorem zb_some {α σ β : Type} {o : Option (α × σ)} {f : α → σ → Option β} {r : β} (h : zb o f = some r) : ∃ a s, o = some (a, s) ∧ f a s = some r := by
  unfold zb at h
  split at h
  · exact ⟨_, _, rfl, h⟩
  · cases h
theorem zb_of {α σ β : Type} {o : Option (α × σ)} {f : α → σ → Option β} {a : α} {s : σ} (h : o = some (a, s)) : zb o f = f a s := by rw [h]; rfl
def zo {α β : Type} (o : Option α) (f : α → Option β) : Option β := match o with
  | some a => f a
  | none => none
theorem zo_some {α β : Type} {o : Option α} {f : α → Option β} {r : β} (h : zo o f = some r) : ∃ a, o = some a ∧ f a = some r := by
  unfold zo at h
  split at h
  · exact ⟨_, rfl, h⟩
  · cases h
theorem zo_of {α β : Type} {o : Option α} {f : α → Option β} {a : α} (h : o = some a) : zo o f = f a := by rw [h]; rfl
/-- a loop: its body goes on with a new state or leaves -/
def zlp {S T : Type} (B : S → Option (S ⊕ T)) : Nat → S → Option T
  | 0, _ => none
  | n + 1, s => (match B s with
    | some (.inl s') => zlp B n s'
    | some (.inr t) => some t
    | none => none)
theorem zlp_go {S T : Type} {B : S → Option (S ⊕ T)} {G : S → Prop} {K : T → Prop} (hl : ∀ s s', B s = some (.inl s') → G s' → G s) (hr : ∀ s t, B s = some (.inr t) → K t → G s) : ∀ n s t, zlp B n s = some t → K t → G s := by
  intro n
  induction n with
  | zero => intro s t h; cases h
  | succ n ih =>
    intro s t h hK
    unfold zlp at h
    split at h
    · next s' e => exact hl s s' e (ih s' t h hK)
    · next t' e => cases h; exact hr s _ e hK
    · cases h
/-- how often any loop may go round -/
def zF : Nat := 1000000000000000000000000000000
/-- an instruction that is no call, no end -/
def zpl (i : Instr) : Bool := match i with
  | .ireturn => false
  | .lreturn => false
  | .areturn => false
  | .return_ => false
  | .athrow => false
  | .invokestatic _ => false
  | .invokespecial _ => false
  | .invokevirtual _ => false
  | _ => true
theorem zpl_ret {i : Instr} (h : zpl i = true) (ty : Option FieldType) (st : List Value) : am_ret ty i st = none := by
  cases i <;> first | rfl | (cases h)
theorem zpl_cal {i : Instr} (h : zpl i = true) (M : am_M) : am_cal M i = none := by
  cases i <;> first | rfl | (cases h)
def zf (M : am_M) (pc : Nat) : Option Instr := match am_mI M pc with
  | some (i, _) => (match am_mX M pc with
    | some _ => none
    | none => cond (zpl i) (some i) none)
  | none => none
theorem zf_spec {M : am_M} {pc : Nat} {i : Instr} (h : zf M pc = some i) : ∃ len, am_mI M pc = some (i, len) ∧ am_mX M pc = none ∧ zpl i = true := by
  unfold zf at h
  split at h
  · next j len e =>
    split at h
    · cases h
    · next e2 =>
      cases hz : zpl j with
      | true => rw [hz] at h; cases h; exact ⟨len, e, e2, hz⟩
      | false => rw [hz] at h; cases h
  · cases h
theorem zR_lit {a : Int} (h : decide (zR a) = true) : zR a := of_decide_eq_true h
theorem z_toInt {a : Int} (h : zR a) : (Int32.ofInt a).toInt = a := Int32.toInt_ofInt_of_le (by have := h.1; omega) (by have := h.2; omega)
theorem z_lt {a b : Int} (ha : zR a) (hb : zR b) : (Int32.ofInt a < Int32.ofInt b) ↔ a < b := by rw [Int32.lt_iff_toInt_lt, z_toInt ha, z_toInt hb]
theorem z_le {a b : Int} (ha : zR a) (hb : zR b) : (Int32.ofInt a ≤ Int32.ofInt b) ↔ a ≤ b := by rw [Int32.le_iff_toInt_le, z_toInt ha, z_toInt hb]
theorem z_eq {a b : Int} (ha : zR a) (hb : zR b) : (Int32.ofInt a = Int32.ofInt b) ↔ a = b := by rw [← Int32.toInt_inj, z_toInt ha, z_toInt hb]
theorem z_z : (0 : Int32) = Int32.ofInt 0 := rfl
theorem z_R0 : zR 0 := by decide
theorem z_lt0 {a : Int} (ha : zR a) : (Int32.ofInt a < 0) ↔ a < 0 := z_lt ha z_R0
theorem z_nat {a : Int} (h0 : 0 ≤ a) (h : zR a) : (Int32.ofInt a).toNatClampNeg = a.toNat := Int32.toNatClampNeg_ofInt_of_le (by omega) (by have := h.2; omega)
/-- words on ints -/
def zand (a b : Int) : Int := (BitVec.ofInt 32 a &&& BitVec.ofInt 32 b).toInt
def zor (a b : Int) : Int := (BitVec.ofInt 32 a ||| BitVec.ofInt 32 b).toInt
def zxor (a b : Int) : Int := (BitVec.ofInt 32 a ^^^ BitVec.ofInt 32 b).toInt
theorem z_of_bv (b : BitVec 32) : Int32.ofInt b.toInt = Int32.ofBitVec b := Int32.ofInt_toInt (Int32.ofBitVec b)
theorem z_and (a b : Int) : Int32.ofInt a &&& Int32.ofInt b = Int32.ofInt (zand a b) := (z_of_bv _).symm
theorem z_or (a b : Int) : Int32.ofInt a ||| Int32.ofInt b = Int32.ofInt (zor a b) := (z_of_bv _).symm
theorem z_xor (a b : Int) : Int32.ofInt a ^^^ Int32.ofInt b = Int32.ofInt (zxor a b) := (z_of_bv _).symm
theorem zR_bv (b : BitVec 32) : zR b.toInt := by
  have h1 := b.le_toInt
  have h2 := b.toInt_lt
  constructor <;> omega
theorem zR_and (a b : Int) : zR (zand a b) := zR_bv _
theorem zR_or (a b : Int) : zR (zor a b) := zR_bv _
theorem zR_xor (a b : Int) : zR (zxor a b) := zR_bv _
theorem zR_toInt (x : Int32) : zR x.toInt := zR_bv x.toBitVec
/-- shifts: how far -/
def zsh (b : Int) : Nat := (b % 32).toNat
def zshl (b : Int) : Nat := (b % 64).toNat
theorem z_and31 (b : Int) : BitVec.ofInt 32 b &&& 31#32 = BitVec.ofNat 32 (zsh b) := by
  apply BitVec.eq_of_toNat_eq
  have h31 : (31#32 : BitVec 32).toNat = 2 ^ 5 - 1 := rfl
  rw [BitVec.toNat_and, h31, Nat.and_two_pow_sub_one_eq_mod, BitVec.toNat_ofInt, BitVec.toNat_ofNat]
  unfold zsh
  omega
theorem z_and63 (b : Int) : BitVec.ofInt 64 b &&& 63#64 = BitVec.ofNat 64 (zshl b) := by
  apply BitVec.eq_of_toNat_eq
  have h63 : (63#64 : BitVec 64).toNat = 2 ^ 6 - 1 := rfl
  rw [BitVec.toNat_and, h63, Nat.and_two_pow_sub_one_eq_mod, BitVec.toNat_ofInt, BitVec.toNat_ofNat]
  unfold zshl
  omega
theorem z_smod32 : ∀ c : Fin 32, (BitVec.ofNat 32 c.val).smod 32 = BitVec.ofNat 32 c.val := by decide +kernel
theorem z_smod64 : ∀ c : Fin 64, (BitVec.ofNat 64 c.val).smod 64 = BitVec.ofNat 64 c.val := by decide +kernel
theorem z_umod32 : ∀ c : Fin 32, (BitVec.ofNat 32 c.val) % 32 = BitVec.ofNat 32 c.val := by decide +kernel
theorem z_umod64 : ∀ c : Fin 64, (BitVec.ofNat 64 c.val) % 64 = BitVec.ofNat 64 c.val := by decide +kernel
theorem zsh_lt (b : Int) : zsh b < 32 := by unfold zsh; omega
theorem zshl_lt (b : Int) : zshl b < 64 := by unfold zshl; omega
theorem z_shl (a b : Int) : Int32.ofInt a <<< (Int32.ofInt b &&& 31) = Int32.ofInt (a * 2 ^ zsh b) := by
  apply Int32.toBitVec.inj
  show (BitVec.ofInt 32 a) <<< ((BitVec.ofInt 32 b &&& 31#32).smod 32) = BitVec.ofInt 32 (a * 2 ^ zsh b)
  rw [z_and31, z_smod32 ⟨zsh b, zsh_lt b⟩]
  have hlt := zsh_lt b
  rw [BitVec.shiftLeft_eq', BitVec.toNat_ofNat, Nat.mod_eq_of_lt (by omega), BitVec.shiftLeft_eq_mul_twoPow, BitVec.ofInt_mul]
  congr 1
  apply BitVec.eq_of_toNat_eq
  rw [BitVec.toNat_twoPow, BitVec.toNat_ofInt]
  have e : ((2 : Int) ^ zsh b) = ((2 ^ zsh b : Nat) : Int) := by norm_cast
  rw [e]
  norm_cast
theorem z_bvnat {a : Int} (h0 : 0 ≤ a) (h : zR a) : (BitVec.ofInt 32 a).toNat = a.toNat := by
  rw [BitVec.toNat_ofInt]
  have := h.2
  omega
theorem z_ushr {a : Int} (h0 : 0 ≤ a) (h : zR a) (b : Int) : ((Int32.ofInt a).toUInt32 >>> ((Int32.ofInt b).toUInt32 &&& Int32.toUInt32 31)).toInt32 = Int32.ofInt (a / 2 ^ zsh b) := by
  apply Int32.toBitVec.inj
  show (BitVec.ofInt 32 a) >>> ((BitVec.ofInt 32 b &&& 31#32) % 32) = BitVec.ofInt 32 (a / 2 ^ zsh b)
  rw [z_and31, z_umod32 ⟨zsh b, zsh_lt b⟩]
  have hlt := zsh_lt b
  apply BitVec.eq_of_toNat_eq
  rw [BitVec.ushiftRight_eq', BitVec.toNat_ofNat, Nat.mod_eq_of_lt (by omega), BitVec.toNat_ushiftRight, z_bvnat h0 h, Nat.shiftRight_eq_div_pow]
  have e : ((2 : Int) ^ zsh b) = ((2 ^ zsh b : Nat) : Int) := by norm_cast
  have ea : a = (a.toNat : Int) := by omega
  have hq : a / 2 ^ zsh b = ((a.toNat / 2 ^ zsh b : Nat) : Int) := by rw [e, ea, ← Int.natCast_ediv, Int.toNat_natCast]
  have hle : a.toNat / 2 ^ zsh b ≤ a.toNat := Nat.div_le_self _ _
  have h2 := h.2
  revert hq hle
  generalize a.toNat / 2 ^ zsh b = q
  intro hq hle
  rw [hq, z_bvnat (by omega) ⟨by omega, by omega⟩, Int.toNat_natCast]
theorem z_shr {a : Int} (h0 : 0 ≤ a) (h : zR a) (b : Int) : Int32.ofInt a >>> (Int32.ofInt b &&& 31) = Int32.ofInt (a / 2 ^ zsh b) := by
  rw [← z_ushr h0 h]
  apply Int32.toBitVec.inj
  show (BitVec.ofInt 32 a).sshiftRight' ((BitVec.ofInt 32 b &&& 31#32).smod 32) = (BitVec.ofInt 32 a) >>> ((BitVec.ofInt 32 b &&& 31#32) % 32)
  rw [z_and31, z_umod32 ⟨zsh b, zsh_lt b⟩, z_smod32 ⟨zsh b, zsh_lt b⟩]
  have hm : (BitVec.ofInt 32 a).msb = false := by
    rw [BitVec.msb_eq_false_iff_two_mul_lt, z_bvnat h0 h]
    have := h.2
    omega
  rw [BitVec.sshiftRight', BitVec.sshiftRight_eq_of_msb_false hm]
  rfl
theorem z_div {a b : Int} (h0 : 0 ≤ a) (h : zR a) (h1 : 0 < b) (hb : zR b) : Int32.ofInt a / Int32.ofInt b = Int32.ofInt (a / b) := by
  rw [← Int32.toInt_inj, Int32.toInt_div, z_toInt h, z_toInt hb]
  have hd : a.tdiv b = a / b := Int.tdiv_eq_ediv_of_nonneg h0
  have h2 : a / b ≤ a := Int.ediv_le_self b h0
  have h3 : 0 ≤ a / b := Int.ediv_nonneg h0 (by omega)
  have hr : zR (a / b) := ⟨by omega, by have := h.2; omega⟩
  rw [hd, z_toInt hr]
  have e := z_toInt hr
  rw [Int32.toInt_ofInt] at e
  exact e
theorem z_rem {a b : Int} (h0 : 0 ≤ a) (h : zR a) (h1 : 0 < b) (hb : zR b) : Int32.ofInt a - Int32.ofInt a / Int32.ofInt b * Int32.ofInt b = Int32.ofInt (a % b) := by
  rw [z_div h0 h h1 hb, ← Int32.ofInt_mul, ← Int32.ofInt_sub]
  congr 1
  have := Int.mul_ediv_add_emod a b
  rw [Int.mul_comm] at this
  omega
theorem z_c16 (a : Int) : ((Int32.ofInt a).toUInt32 % 65536).toInt32 = Int32.ofInt (a % 65536) := by
  apply Int32.toBitVec.inj
  show (BitVec.ofInt 32 a) % 65536#32 = BitVec.ofInt 32 (a % 65536)
  apply BitVec.eq_of_toNat_eq
  rw [BitVec.toNat_umod, BitVec.toNat_ofInt, BitVec.toNat_ofInt]
  show _ % 65536 = _
  omega
theorem z_i8 (a : Int) : (Int32.ofInt a).toInt8.toInt32 = Int32.ofInt (a.bmod 256) := by
  have h : (Int32.ofInt a).toInt8 = Int8.ofInt a := by
    apply Int8.toInt.inj
    rw [Int32.toInt_toInt8, Int32.toInt_ofInt, Int8.toInt_ofInt]
    show (a.bmod 4294967296).bmod 256 = a.bmod 256
    rw [Int.bmod_bmod_of_dvd (by decide)]
  rw [h]
  apply Int32.toInt.inj
  rw [Int8.toInt_toInt32, Int8.toInt_ofInt, Int32.toInt_ofInt]
  show a.bmod 256 = (a.bmod 256).bmod 4294967296
  have h1 : -(128 : Int) ≤ a.bmod 256 := by have := Int.le_bmod (x := a) (m := 256) (by decide); omega
  have h2 : a.bmod 256 < 128 := by have := Int.bmod_lt (x := a) (m := 256) (by decide); omega
  symm
  apply Int.bmod_eq_of_le <;> omega
theorem z_i2l {a : Int} (h : zR a) : (Int32.ofInt a).toInt64 = Int64.ofBitVec (BitVec.ofInt 64 a) := by
  rw [Int32.toInt64_ofInt (by show (-2147483648 : Int) ≤ a; exact h.1) (by show a ≤ (2147483647 : Int); have := h.2; omega)]
  rfl
theorem z_l2i (b : BitVec 64) : (Int64.ofBitVec b).toInt32 = Int32.ofInt (b.toNat : Int) := by
  apply Int32.toBitVec.inj
  show b.signExtend 32 = BitVec.ofInt 32 (b.toNat : Int)
  apply BitVec.eq_of_toNat_eq
  rw [BitVec.signExtend_eq_setWidth_of_le _ (by decide), BitVec.toNat_setWidth, BitVec.toNat_ofInt]
  omega
theorem z_lshl (a : BitVec 64) {b : Int} (h : zR b) : Int64.ofBitVec a <<< ((Int32.ofInt b).toInt64 &&& 63) = Int64.ofBitVec (a <<< zshl b) := by
  rw [z_i2l h]
  apply Int64.toBitVec.inj
  show a <<< ((BitVec.ofInt 64 b &&& 63#64).smod 64) = a <<< zshl b
  rw [z_and63, z_smod64 ⟨zshl b, zshl_lt b⟩]
  have hlt := zshl_lt b
  rw [BitVec.shiftLeft_eq', BitVec.toNat_ofNat, Nat.mod_eq_of_lt (by omega)]
theorem z_lushr (a : BitVec 64) {b : Int} (h : zR b) : ((Int64.ofBitVec a).toUInt64 >>> ((Int32.ofInt b).toInt64.toUInt64 &&& Int64.toUInt64 63)).toInt64 = Int64.ofBitVec (a >>> zshl b) := by
  rw [z_i2l h]
  apply Int64.toBitVec.inj
  show a >>> ((BitVec.ofInt 64 b &&& 63#64) % 64) = a >>> zshl b
  rw [z_and63, z_umod64 ⟨zshl b, zshl_lt b⟩]
  have hlt := zshl_lt b
  rw [BitVec.ushiftRight_eq', BitVec.toNat_ofNat, Nat.mod_eq_of_lt (by omega)]
theorem z_cmp0 (a b : BitVec 64) : (lg_cmp (Int64.ofBitVec a) (Int64.ofBitVec b) = 0) ↔ a = b := by
  have hi : (Int64.ofBitVec a = Int64.ofBitVec b) ↔ a = b := ⟨fun h => by have := congrArg Int64.toBitVec h; exact this, fun h => by rw [h]⟩
  rw [← hi]
  unfold lg_cmp
  constructor
  · intro h
    split at h
    · exact absurd h (by decide)
    · split at h
      · assumption
      · exact absurd h (by decide)
  · intro h
    rw [h]
    simp
