/-! RENAMINGS by their codes, in the order of the class; the whole invariant. By program (py/gen98zv.py). -/
def dgI (n c a : Int) : Int := c / n ^ a.toNat % n
def cps_1 : List Int := [0]
def cis_1 : List Int := [0]
def cps_2 : List Int := [2, 1]
def cis_2 : List Int := [2, 1]
def cps_3 : List Int := [21, 15, 19, 7, 11, 5]
def cis_3 : List Int := [21, 15, 19, 11, 7, 5]
def cps_4 : List Int := [228, 180, 216, 120, 156, 108, 225, 177, 201, 57, 141, 45, 210, 114, 198, 54, 78, 30, 147, 99, 135, 39, 75, 27]
def cis_4 : List Int := [228, 180, 216, 156, 120, 108, 225, 177, 210, 147, 114, 99, 201, 141, 198, 135, 78, 75, 57, 45, 54, 39, 30, 27]
def cps_5 : List Int := [2930, 2430, 2830, 1830, 2230, 1730, 2910, 2410, 2710, 1210, 2110, 1110, 2790, 1790, 2690, 1190, 1490, 990, 2170, 1670, 2070, 1070, 1470, 970, 2926, 2426, 2826, 1826, 2226, 1726, 2886, 2386, 2586, 586, 1986, 486, 2766, 1766, 2566, 566, 1366, 366, 2146, 1646, 1946, 446, 1346, 346, 2902, 2402, 2702, 1202, 2102, 1102, 2882, 2382, 2582, 582, 1982, 482, 2642, 1142, 2542, 542, 742, 242, 2022, 1022, 1922, 422, 722, 222, 2778, 1778, 2678, 1178, 1478, 978, 2758, 1758, 2558, 558, 1358, 358, 2638, 1138, 2538, 538, 738, 238, 1398, 898, 1298, 298, 698, 198, 2154, 1654, 2054, 1054, 1454, 954, 2134, 1634, 1934, 434, 1334, 334, 2014, 1014, 1914, 414, 714, 214, 1394, 894, 1294, 294, 694, 194]
def cis_5 : List Int := [2930, 2430, 2830, 2230, 1830, 1730, 2910, 2410, 2790, 2170, 1790, 1670, 2710, 2110, 2690, 2070, 1490, 1470, 1210, 1110, 1190, 1070, 990, 970, 2926, 2426, 2826, 2226, 1826, 1726, 2902, 2402, 2778, 2154, 1778, 1654, 2702, 2102, 2678, 2054, 1478, 1454, 1202, 1102, 1178, 1054, 978, 954, 2886, 2386, 2766, 2146, 1766, 1646, 2882, 2382, 2758, 2134, 1758, 1634, 2642, 2022, 2638, 2014, 1398, 1394, 1142, 1022, 1138, 1014, 898, 894, 2586, 1986, 2566, 1946, 1366, 1346, 2582, 1982, 2558, 1934, 1358, 1334, 2542, 1922, 2538, 1914, 1298, 1294, 742, 722, 738, 714, 698, 694, 586, 486, 566, 446, 366, 346, 582, 482, 558, 434, 358, 334, 542, 422, 538, 414, 298, 294, 242, 222, 238, 214, 198, 194]
def cps (n : Int) : List Int := if n = 1 then cps_1 else if n = 2 then cps_2 else if n = 3 then cps_3 else if n = 4 then cps_4 else cps_5
/-- what becomes of a key -/
def kim (s : zS) (c k : Int) : Int := 125 * (k / 125) + pt (gI s 1 0) (dgI (gI s 1 0) c) (gI s 4 (k / 125)).toNat (k % 125)
def fairb (s : zS) (c : Int) : Bool := (List.range 1000).all (fun k : Nat => decide (gI s 5 k = 0) || decide (gI s 5 (kim s c k) = gI s 5 k))
def fps (s : zS) : List Int := (cps (gI s 1 0)).filter (fairb s)
/-- what the class knows of fair renamings -/
def IRn (s : zS) : Prop := gI s 25 1 = 0 ∨ (gI s 25 2 = (fps s).length ∧ ∀ (r : Nat) (c : Int), (fps s)[r]? = some c → ∀ i, 0 ≤ i → i < gI s 1 8 → 0 ≤ gI s 27 (r * 12 + i) ∧ gI s 27 (r * 12 + i) < gI s 1 8 ∧ gI s 7 (gI s 27 (r * 12 + i)) = kim s c (gI s 7 i))
theorem kim_of {s s2 : zS} (hW : IW s) (h0 : gI s2 1 0 = gI s 1 0) (h4 : ∀ q, 0 ≤ q → q < gI s 1 4 → gI s2 4 q = gI s 4 q) (c : Int) {k : Int} (k0 : 0 ≤ k) (k1 : k < 1000) (hk : gI s 5 k ≠ 0) : kim s2 c k = kim s c k := by
  have := (hW.2.2.2.2.1 k k0 k1).2.2.2 hk
  unfold kim
  rw [h0, h4 _ (by omega) this.1]
theorem fps_of {s s2 : zS} (hW : IW s) (h0 : gI s2 1 0 = gI s 1 0) (h4 : ∀ q, 0 ≤ q → q < gI s 1 4 → gI s2 4 q = gI s 4 q) (h5 : ∀ k, gI s2 5 k = gI s 5 k) : fairb s2 = fairb s ∧ fps s2 = fps s := by
  have hf : fairb s2 = fairb s := by
    funext c
    have hx : ∀ x : Nat, x < 1000 → (decide (gI s2 5 x = 0) || decide (gI s2 5 (kim s2 c x) = gI s2 5 x)) = (decide (gI s 5 x = 0) || decide (gI s 5 (kim s c x) = gI s 5 x)) := by
      intro x hx
      rw [h5 x, h5 (kim s2 c x)]
      by_cases e : gI s 5 x = 0
      · rw [decide_eq_true e, Bool.true_or, Bool.true_or]
      · rw [kim_of hW h0 h4 c (by omega) (by omega) e]
    unfold fairb
    rw [Bool.eq_iff_iff, List.all_eq_true, List.all_eq_true]
    constructor
    · intro h x hm
      rw [← hx x (List.mem_range.mp hm)]
      exact h x hm
    · intro h x hm
      rw [hx x (List.mem_range.mp hm)]
      exact h x hm
  refine ⟨hf, ?_⟩
  unfold fps
  rw [h0, hf]
theorem IRn.of {s s2 : zS} (h : IRn s) (hW : IW s) (h0 : gI s2 1 0 = gI s 1 0) (h4 : ∀ q, 0 ≤ q → q < gI s 1 4 → gI s2 4 q = gI s 4 q) (hz : zeq 14775752323647930251417321233306836270030459005829883838772967749895254770754105581768599645425824171180779886346400 s s2) : IRn s2 := by
  have h5 := hz.ia (c := 5) rfl rfl
  have h7 := hz.ia (c := 7) rfl rfl
  have h27 := hz.ia (c := 27) rfl rfl
  have h8 : gI s2 1 8 = gI s 1 8 := hz.i rfl
  have hp := (fps_of hW h0 h4 h5).2
  rcases h with h | ⟨h1, h2⟩
  · exact Or.inl (by rw [hz.i (c := 25) (i := 1) rfl]; exact h)
  · refine Or.inr ⟨by rw [hz.i (c := 25) (i := 2) rfl, hp]; exact h1, fun r c hr i i0 i1 => ?_⟩
    rw [hp] at hr
    rw [h8] at i1
    obtain ⟨g1, g2, g3⟩ := h2 r c hr i i0 i1
    have hfr := hW.2.2.2.2.2.2.1 i i0 i1
    simp only [h8, h27, h7]
    refine ⟨g1, g2, ?_⟩
    rw [kim_of hW h0 h4 c hfr.1 hfr.2.1 (by omega)]
    exact g3
/-- which codes there are -/
def IRf (s : zS) : Prop := zC (gP s 0 6) = true ∧ (∀ i, 0 ≤ i → i < 17 → zC (gP s 28 i) = true ∧ gP s 28 i ≠ gP s 0 6) ∧ ∀ i j, 0 ≤ i → i < j → j < 17 → gP s 28 i ≠ gP s 28 j
def Inv (s : zS) : Prop := (IW s ∧ IT s ∧ IWd s) ∧ (IS s ∧ IC s ∧ IL s ∧ IV s) ∧ (IRf s ∧ NNp s ∧ NNm s ∧ IRn s) ∧ ∃ D, IFm s D
theorem IRf.cong {s s2 : zS} (h : zeq 130370302485407109521180524058200202307293977194619920040712988758680403184853549196005867520 s s2) (hI : IRf s) : IRf s2 := by
  have e1 : gP s2 0 6 = gP s 0 6 := h.p rfl
  have e2 := h.pa (c := 28) rfl rfl
  unfold IRf at hI ⊢
  simp only [e1, e2]
  exact hI
theorem NNm.cong {s s2 : zS} (h : zeq 5678427533559428832416592249125035424637823130369672345949142181098744438392198377721254264465113645366664866465056870550203109736448 s s2) (hI : NNm s) : NNm s2 := by
  have e1 : gI s2 177 41 = gI s 177 41 := h.i rfl
  have e2 := h.ia (c := 192) rfl rfl
  unfold NNm at hI ⊢
  simp only [e1, e2]
  exact hI
theorem IFm.cong {s s2 : zS} {D : Int → Dn} (h : zeq 583130718580927752035097942449442520896249452561091841417089345985911262470118973612104966494748848 s s2) (hI : IFm s D) : IFm s2 D := by
  intro i hi
  have hi' := (act_cong (h.sub rfl)).mp hi
  rw [h.pa (c := 28) rfl rfl]
  exact ⟨(hI i hi').1.eq (h.sub rfl), (hI i hi').2.eq (h.sub rfl)⟩
/-- all but the tape stays -/
theorem Inv.cong {s s2 : zS} (hI : Inv s) (h : zeq 5678597443747351553311293871678502902524909019398341624704923089613201988865884088439171053073825776415697563922393250751347861496060 s s2) (hT : IT s2) : Inv s2 := by
  obtain ⟨⟨a1, a2, a3⟩, ⟨a4, a5, a6, a7⟩, ⟨a8, a9, a10, a11⟩, D, a12⟩ := hI
  refine ⟨⟨IW.cong (h.sub rfl) a1, hT, IWd.cong (h.sub rfl) a3⟩, ⟨IS.cong (h.sub rfl) a4, IC.cong (h.sub rfl) a5, IL.cong (h.sub rfl) a6, IV.cong (h.sub rfl) a7⟩, ⟨IRf.cong (h.sub rfl) a8, ⟨fun i => ?_, ?_, ?_, hT.2.1⟩, NNm.cong (h.sub rfl) a10, IRn.of a11 a1 (h.i rfl) (fun q _ _ => h.ia (c := 4) rfl rfl q) (h.sub rfl)⟩, D, IFm.cong (h.sub rfl) a12⟩
  · rw [h.ia (c := 13) rfl rfl]; exact a9.1 i
  · rw [h.i (c := 8) (i := 5) rfl]; exact a9.2.1
  · rw [h.i (c := 10) (i := 16) rfl]; exact a9.2.2.1
/-- what calls may use anew -/
theorem Inv.mk {s s2 : zS} (hI : Inv s) (h : zeq MK s s2) : Inv s2 := hI.cong (h.sub rfl) (IT.cong (h.sub rfl) hI.1.2.1)
