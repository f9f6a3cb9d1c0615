/-! TABLES, by program out of the Statement: classes, constants. -/
def xt_0 : u_T := fun k => match k with
  | 0 => ("RelationFinder", "world", "LRelationFinder$World;", true)
  | 1 => ("RelationFinder", "tape", "LRelationFinder$Tape;", true)
  | 2 => ("RelationFinder", "parser", "LRelationFinder$Parser;", true)
  | 3 => ("RelationFinder", "machine", "LRelationFinder$Machine;", true)
  | 4 => ("RelationFinder", "renamings", "LRelationFinder$Renamings;", true)
  | 5 => ("RelationFinder", "formulas", "[LRelationFinder$Code;", true)
  | 6 => ("RelationFinder", "spare", "LRelationFinder$Code;", false)
  | 7 => ("RelationFinder", "truths", "[J", true)
  | 8 => ("RelationFinder", "known", "[J", true)
  | 9 => ("RelationFinder", "seen", "[J", true)
  | 10 => ("RelationFinder", "facts", "I", false)
  | 11 => ("RelationFinder", "asserted", "Z", false)
  | 12 => ("RelationFinder", "present", "I", false)
  | 13 => ("RelationFinder", "coreFacts", "I", false)
  | 14 => ("RelationFinder", "latestFault", "I", false)
  | 15 => ("RelationFinder", "latestPlace", "I", false)
  | 16 => ("RelationFinder", "worked", "[Z", true)
  | _ => ("RelationFinder", "workedArity", "I", false)
def xy_0 : Nat → FieldType := fun k => match k with
  | 0 => .object "RelationFinder$World"
  | 1 => .object "RelationFinder$Tape"
  | 2 => .object "RelationFinder$Parser"
  | 3 => .object "RelationFinder$Machine"
  | 4 => .object "RelationFinder$Renamings"
  | 5 => .array (.object "RelationFinder$Code")
  | 6 => .object "RelationFinder$Code"
  | 7 => .array .long
  | 8 => .array .long
  | 9 => .array .long
  | 10 => .int
  | 11 => .boolean
  | 12 => .int
  | 13 => .int
  | 14 => .int
  | 15 => .int
  | 16 => .array .boolean
  | _ => .int
def xt_1 : u_T := fun k => match k with
  | 0 => ("RelationFinder$World", "atoms", "I", true)
  | 1 => ("RelationFinder$World", "sizes", "[I", true)
  | 2 => ("RelationFinder$World", "names", "[J", true)
  | 3 => ("RelationFinder$World", "arities", "[I", true)
  | 4 => ("RelationFinder$World", "relations", "I", false)
  | 5 => ("RelationFinder$World", "states", "[I", true)
  | 6 => ("RelationFinder$World", "words", "[J", true)
  | 7 => ("RelationFinder$World", "free", "[I", true)
  | _ => ("RelationFinder$World", "frees", "I", false)
def xy_1 : Nat → FieldType := fun k => match k with
  | 0 => .int
  | 1 => .array .int
  | 2 => .array .long
  | 3 => .array .int
  | 4 => .int
  | 5 => .array .int
  | 6 => .array .long
  | 7 => .array .int
  | _ => .int
def xt_2 : u_T := fun k => match k with
  | 0 => ("RelationFinder$Tape", "bytes", "[I", true)
  | 1 => ("RelationFinder$Tape", "length", "I", false)
  | 2 => ("RelationFinder$Tape", "at", "I", false)
  | 3 => ("RelationFinder$Tape", "tokens", "I", false)
  | 4 => ("RelationFinder$Tape", "kind", "I", false)
  | 5 => ("RelationFinder$Tape", "place", "I", false)
  | 6 => ("RelationFinder$Tape", "name", "J", false)
  | _ => ("RelationFinder$Tape", "number", "I", false)
def xy_2 : Nat → FieldType := fun k => match k with
  | 0 => .array .int
  | 1 => .int
  | 2 => .int
  | 3 => .int
  | 4 => .int
  | 5 => .int
  | 6 => .long
  | _ => .int
def xt_3 : u_T := fun k => match k with
  | 0 => ("RelationFinder$Parser", "tape", "LRelationFinder$Tape;", true)
  | 1 => ("RelationFinder$Parser", "world", "LRelationFinder$World;", true)
  | 2 => ("RelationFinder$Parser", "code", "LRelationFinder$Code;", false)
  | 3 => ("RelationFinder$Parser", "isWholeFormula", "Z", false)
  | 4 => ("RelationFinder$Parser", "awaited", "I", false)
  | 5 => ("RelationFinder$Parser", "isDone", "Z", false)
  | 6 => ("RelationFinder$Parser", "operand", "I", false)
  | 7 => ("RelationFinder$Parser", "numberSign", "I", false)
  | 8 => ("RelationFinder$Parser", "opens", "I", false)
  | 9 => ("RelationFinder$Parser", "openKinds", "[I", true)
  | 10 => ("RelationFinder$Parser", "openParts", "[I", true)
  | 11 => ("RelationFinder$Parser", "openPlaces", "[I", true)
  | 12 => ("RelationFinder$Parser", "openLefts", "[I", true)
  | 13 => ("RelationFinder$Parser", "openStarts", "[I", true)
  | 14 => ("RelationFinder$Parser", "openNames", "[J", true)
  | 15 => ("RelationFinder$Parser", "refusal", "I", false)
  | _ => ("RelationFinder$Parser", "refusalPlace", "I", false)
def xy_3 : Nat → FieldType := fun k => match k with
  | 0 => .object "RelationFinder$Tape"
  | 1 => .object "RelationFinder$World"
  | 2 => .object "RelationFinder$Code"
  | 3 => .boolean
  | 4 => .int
  | 5 => .boolean
  | 6 => .int
  | 7 => .int
  | 8 => .int
  | 9 => .array .int
  | 10 => .array .int
  | 11 => .array .int
  | 12 => .array .int
  | 13 => .array .int
  | 14 => .array .long
  | 15 => .int
  | _ => .int
def xt_4 : u_T := fun k => match k with
  | 0 => ("RelationFinder$Machine", "world", "LRelationFinder$World;", true)
  | 1 => ("RelationFinder$Machine", "cells", "[J", true)
  | 2 => ("RelationFinder$Machine", "arities", "[I", true)
  | 3 => ("RelationFinder$Machine", "height", "I", false)
  | 4 => ("RelationFinder$Machine", "boundAtoms", "[I", true)
  | 5 => ("RelationFinder$Machine", "scratch", "[J", true)
  | 6 => ("RelationFinder$Machine", "planes", "[J", true)
  | 7 => ("RelationFinder$Machine", "memoKnown", "[J", true)
  | _ => ("RelationFinder$Machine", "memoWords", "[J", true)
def xy_4 : Nat → FieldType := fun k => match k with
  | 0 => .object "RelationFinder$World"
  | 1 => .array .long
  | 2 => .array .int
  | 3 => .int
  | 4 => .array .int
  | 5 => .array .long
  | 6 => .array .long
  | 7 => .array .long
  | _ => .array .long
def xt_5 : u_T := fun k => match k with
  | 0 => ("RelationFinder$Renamings", "world", "LRelationFinder$World;", true)
  | 1 => ("RelationFinder$Renamings", "isFound", "Z", false)
  | 2 => ("RelationFinder$Renamings", "found", "I", false)
  | 3 => ("RelationFinder$Renamings", "exchanged", "[I", true)
  | _ => ("RelationFinder$Renamings", "images", "[I", true)
def xy_5 : Nat → FieldType := fun k => match k with
  | 0 => .object "RelationFinder$World"
  | 1 => .boolean
  | 2 => .int
  | 3 => .array .int
  | _ => .array .int
def xt_6 : u_T := fun k => match k with
  | 0 => ("RelationFinder$Code", "length", "I", false)
  | 1 => ("RelationFinder$Code", "ops", "[I", true)
  | 2 => ("RelationFinder$Code", "args", "[I", true)
  | 3 => ("RelationFinder$Code", "signs", "[I", true)
  | 4 => ("RelationFinder$Code", "middles", "[I", true)
  | 5 => ("RelationFinder$Code", "ends", "[I", true)
  | 6 => ("RelationFinder$Code", "uses", "[I", true)
  | 7 => ("RelationFinder$Code", "memos", "[I", true)
  | _ => ("RelationFinder$Code", "memoCount", "I", false)
def xy_6 : Nat → FieldType := fun k => match k with
  | 0 => .int
  | 1 => .array .int
  | 2 => .array .int
  | 3 => .array .int
  | 4 => .array .int
  | 5 => .array .int
  | 6 => .array .int
  | 7 => .array .int
  | _ => .int
def xt_7 : u_T := fun k => match k with
  | 0 => ("RelationFinderModel", "thrown", "I", false)
  | 1 => ("RelationFinderModel", "atoms", "I", true)
  | 2 => ("RelationFinderModel", "tape", "[I", true)
  | 3 => ("RelationFinderModel", "size", "I", false)
  | 4 => ("RelationFinderModel", "fault", "I", false)
  | 5 => ("RelationFinderModel", "faultAt", "I", false)
  | 6 => ("RelationFinderModel", "wasRead", "Z", false)
  | 7 => ("RelationFinderModel", "names", "[J", true)
  | 8 => ("RelationFinderModel", "arities", "[I", true)
  | 9 => ("RelationFinderModel", "hows", "[I", true)
  | 10 => ("RelationFinderModel", "relations", "I", false)
  | 11 => ("RelationFinderModel", "freeRelation", "[I", true)
  | 12 => ("RelationFinderModel", "freeTuple", "[I", true)
  | 13 => ("RelationFinderModel", "frees", "I", false)
  | 14 => ("RelationFinderModel", "does", "[I", true)
  | 15 => ("RelationFinderModel", "with", "[I", true)
  | 16 => ("RelationFinderModel", "also", "[I", true)
  | 17 => ("RelationFinderModel", "lengths", "[I", true)
  | 18 => ("RelationFinderModel", "facts", "I", false)
  | 19 => ("RelationFinderModel", "claimed", "Z", false)
  | 20 => ("RelationFinderModel", "inCore", "[Z", true)
  | 21 => ("RelationFinderModel", "present", "Z", false)
  | 22 => ("RelationFinderModel", "presentOne", "I", false)
  | 23 => ("RelationFinderModel", "valueLow", "J", false)
  | 24 => ("RelationFinderModel", "valueHigh", "J", false)
  | 25 => ("RelationFinderModel", "valueArity", "I", false)
  | 26 => ("RelationFinderModel", "cursor", "I", false)
  | 27 => ("RelationFinderModel", "token", "I", false)
  | 28 => ("RelationFinderModel", "tokenAt", "I", false)
  | 29 => ("RelationFinderModel", "tokenName", "J", false)
  | 30 => ("RelationFinderModel", "tokenNumber", "I", false)
  | 31 => ("RelationFinderModel", "tokens", "I", false)
  | 32 => ("RelationFinderModel", "opens", "[I", true)
  | 33 => ("RelationFinderModel", "openAt", "[I", true)
  | 34 => ("RelationFinderModel", "openArity", "[I", true)
  | 35 => ("RelationFinderModel", "openCode", "[I", true)
  | 36 => ("RelationFinderModel", "openWord", "[I", true)
  | 37 => ("RelationFinderModel", "openName", "[J", true)
  | 38 => ("RelationFinderModel", "open", "I", false)
  | 39 => ("RelationFinderModel", "arity", "[I", true)
  | 40 => ("RelationFinderModel", "operands", "I", false)
  | 41 => ("RelationFinderModel", "length", "I", false)
  | 42 => ("RelationFinderModel", "relLow", "[J", true)
  | 43 => ("RelationFinderModel", "relHigh", "[J", true)
  | 44 => ("RelationFinderModel", "low", "[J", true)
  | 45 => ("RelationFinderModel", "high", "[J", true)
  | 46 => ("RelationFinderModel", "top", "I", false)
  | 47 => ("RelationFinderModel", "outLow", "J", false)
  | 48 => ("RelationFinderModel", "outHigh", "J", false)
  | 49 => ("RelationFinderModel", "loopAt", "[I", true)
  | 50 => ("RelationFinderModel", "loopAtom", "[I", true)
  | 51 => ("RelationFinderModel", "loopSet", "[I", true)
  | 52 => ("RelationFinderModel", "loopGot", "[I", true)
  | 53 => ("RelationFinderModel", "loops", "I", false)
  | _ => ("RelationFinderModel", "turns", "[I", true)
def xy_7 : Nat → FieldType := fun k => match k with
  | 0 => .int
  | 1 => .int
  | 2 => .array .int
  | 3 => .int
  | 4 => .int
  | 5 => .int
  | 6 => .boolean
  | 7 => .array .long
  | 8 => .array .int
  | 9 => .array .int
  | 10 => .int
  | 11 => .array .int
  | 12 => .array .int
  | 13 => .int
  | 14 => .array .int
  | 15 => .array .int
  | 16 => .array .int
  | 17 => .array .int
  | 18 => .int
  | 19 => .boolean
  | 20 => .array .boolean
  | 21 => .boolean
  | 22 => .int
  | 23 => .long
  | 24 => .long
  | 25 => .int
  | 26 => .int
  | 27 => .int
  | 28 => .int
  | 29 => .long
  | 30 => .int
  | 31 => .int
  | 32 => .array .int
  | 33 => .array .int
  | 34 => .array .int
  | 35 => .array .int
  | 36 => .array .int
  | 37 => .array .long
  | 38 => .int
  | 39 => .array .int
  | 40 => .int
  | 41 => .int
  | 42 => .array .long
  | 43 => .array .long
  | 44 => .array .long
  | 45 => .array .long
  | 46 => .int
  | 47 => .long
  | 48 => .long
  | 49 => .array .int
  | 50 => .array .int
  | 51 => .array .int
  | 52 => .array .int
  | 53 => .int
  | _ => .array .int
def xt_e : u_T := fun _ => ("", "", "", false)
abbrev xcl : List vw_C := [("RelationFinder", xt_0, 18), ("RelationFinder$World", xt_1, 9), ("RelationFinder$Tape", xt_2, 8), ("RelationFinder$Parser", xt_3, 17), ("RelationFinder$Machine", xt_4, 9), ("RelationFinder$Renamings", xt_5, 5), ("RelationFinder$Code", xt_6, 9), ("RelationFinderModel", xt_7, 55), ("java/lang/IllegalArgumentException", xt_e, 0), ("java/lang/UnsupportedOperationException", xt_e, 0), ("java/lang/IndexOutOfBoundsException", xt_e, 0), ("java/lang/IllegalStateException", xt_e, 0)]
def xfty : Nat → Nat → FieldType := fun c => match c with
  | 0 => xy_0
  | 1 => xy_1
  | 2 => xy_2
  | 3 => xy_3
  | 4 => xy_4
  | 5 => xy_5
  | 6 => xy_6
  | 7 => xy_7
  | _ => fun _ => .int
def xtyl : List FieldType := [.int, .long, .boolean, .byte, .object "RelationFinder$Code"]
def xTs : List Cond := lw_tbl.filter goodWord
def xTw : List Cond := tables_1.filter am_nk
def xkw : List Int64 := [6384748, 1936682341, 28271, 1819242085, 7302757, 7237492, 6385252, 28530, 29675202177230195, 6907494, 26990, 1852796517, 1970170230, 1768187246, 1953658213, 439721161573]
def xstp : List Int64 := [-6148914691236517206, -3689348814741910324, -1085102592571150096, -71777214294589696, -281470681808896, -4294967296]
def xstr_0 : List Int32 := [45, 62, 43, 43, 60, 58, 58, 62]
def xstr_1 : List Int32 := [43, 45, 38, 46, 126, 94, 42, 35, 61, 60, 62, 40, 41, 91, 93, 123, 125, 58, 124]
/-- constant arrays: 0 the script, 1 KEYWORDS, 2 STRIPES, the bytes of the Strings -/
def xkA (L : Nat) (xs : Nat → Int32) : am_KA := fun j => match j with
  | 0 => some (.int, L, .inl xs)
  | 1 => some (.long, 16, .inr (.inl (fun i => xkw.getD i 0)))
  | 2 => some (.long, 6, .inr (.inl (fun i => xstp.getD i 0)))
  | 5 => some (.byte, 8, .inl (fun i => xstr_0.getD i 0))
  | 7 => some (.byte, 19, .inl (fun i => xstr_1.getD i 0))
  | _ => none
def xfn : Nat → String × String × String := fun k => match k with
  | 0 => ("java/lang/String", "value", "[B")
  | _ => ("java/lang/String", "coder", "B")
def xkF : am_KF := fun j k => match j, k with
  | 4, 0 => some (.ref (am_big + 5))
  | 4, 1 => some (.int 0)
  | 6, 0 => some (.ref (am_big + 7))
  | 6, 1 => some (.int 0)
  | _, _ => none
def xko : Nat → Option String := fun j => match j with
  | 4 => some "java/lang/String"
  | 6 => some "java/lang/String"
  | _ => none
def xkr : List (String × Nat × String × Nat) := [("RelationFinder$Tape", 71, "->++<::>", 4), ("RelationFinder$Tape", 82, "+-&.~^*#=<>()[]{}:|", 6), ("RelationFinder", 90, "1 to 8 bytes", 8), ("RelationFinder", 100, "the tape is full", 9), ("RelationFinder", 121, "no new name, or no arity", 10), ("RelationFinder", 126, "there are 8 relations", 11), ("RelationFinder", 138, "no such tuple", 12), ("RelationFinder", 141, "0, 1 or 2", 13), ("RelationFinder", 150, "12 tuples are free", 14), ("RelationFinder", 172, "there are 16 facts", 15), ("RelationFinder", 183, "there is no fact", 16), ("RelationFinder", 199, "there is no present one", 17), ("RelationFinder", 201, "there is no assertion", 18), ("RelationFinder", 231, "there is an instance", 19), ("RelationFinder", 238, "no such fact", 20)]
/-- statics; vz: what stands in SIOOBE_FORMATTER -/
def xkz (vz : Value) : List (String × String × String × Value) := [("RelationFinder", "KEYWORDS", "[J", .ref (am_big + 1)), ("RelationFinder", "STRIPES", "[J", .ref (am_big + 2)), ("java/lang/String", "COMPACT_STRINGS", "Z", .int 1), ("jdk/internal/util/Preconditions", "SIOOBE_FORMATTER", "Ljava/util/function/BiFunction;", vz)]
def am_lk {α : Type} : List (Nat × α) → Nat → Option α
  | [], _ => none
  | (k, v) :: t, n => cond (Nat.beq k n) (some v) (am_lk t n)
theorem am_lk_mem {α : Type} {v : α} {n : Nat} : ∀ {t : List (Nat × α)}, am_lk t n = some v → (n, v) ∈ t
  | [], h => by cases h
  | (k, u) :: t, h => by
    unfold am_lk at h
    cases hb : Nat.beq k n with
    | true =>
      rw [hb] at h
      cases h
      have := Nat.eq_of_beq_eq_true hb
      subst this
      exact List.mem_cons_self
    | false =>
      rw [hb] at h
      exact List.mem_cons_of_mem _ (am_lk_mem h)
def am_lk2 {α : Type} (t : List (List (Nat × α))) (n : Nat) : Option α := am_lk (t.getD (n / 16) []) n
theorem am_lk2_mem {α : Type} {v : α} {n : Nat} {t : List (List (Nat × α))} (h : am_lk2 t n = some v) : (n, v) ∈ t.flatten := by
  unfold am_lk2 at h
  have h1 := am_lk_mem h
  rw [List.getD_eq_getElem?_getD] at h1
  cases hg : t[n / 16]? with
  | none => rw [hg] at h1; exact absurd h1 List.not_mem_nil
  | some x => rw [hg] at h1; exact List.mem_flatten.mpr ⟨x, List.mem_of_getElem? hg, h1⟩
