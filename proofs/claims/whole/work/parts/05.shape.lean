/-! ===== the two shapes: which cells there are ===== -/
def shXl : List Dsc := [.inl (8, [3, 6, 21, 35, 42, 49, 25, 0, 26, 29, 32]), .inl (7, [4, 5, 0, 0, 0]), .inr (0, 200, 0), .inr (0, 6, 0), .inl (4, [7, 8, 9, 10, 0, 0, 0, 0]), .inr (4, 6, 9), .inr (5, 4, 15), .inr (0, 36, 0), .inr (0, 36, 0), .inl (2, [0, 0, 0, 0, 0, 0]), .inl (2, [0, 0, 0, 0, 0, 0]), .inl (2, [0, 0, 0, 0, 0, 0]), .inl (2, [0, 0, 0, 0, 0, 0]), .inl (2, [0, 0, 0, 0, 0, 0]), .inl (2, [0, 0, 0, 0, 0, 0]), .inl (6, [0, 0, 0, 0, 0, 0]), .inl (6, [0, 0, 0, 0, 0, 0]), .inl (6, [0, 0, 0, 0, 0, 0]), .inl (6, [0, 0, 0, 0, 0, 0]), .inl (0, [22, 23, 24]), .inr (0, 24, 0), .inr (0, 288, 0), .inr (0, 288, 0), .inr (3, 2, 3), .inl (5, [0, 0, 0, 27, 28]), .inr (0, 24, 0), .inr (0, 7, 0), .inl (5, [0, 0, 0, 30, 31]), .inr (0, 24, 0), .inr (0, 7, 0), .inl (3, [33, 34]), .inr (1, 100, 0), .inr (1, 100, 0), .inl (1, [0, 0, 0, 0, 0, 36, 37, 38, 39, 40, 41]), .inr (0, 6, 0), .inr (0, 6, 0), .inr (0, 6, 0), .inr (0, 6, 0), .inr (0, 4, 0), .inr (0, 288, 0), .inl (1, [0, 0, 0, 0, 0, 43, 44, 45, 46, 47, 48]), .inr (0, 6, 0), .inr (0, 6, 0), .inr (0, 6, 0), .inr (0, 6, 0), .inr (0, 4, 0), .inr (0, 288, 0), .inl (1, [0, 0, 0, 0, 0, 50, 51, 52, 53, 54, 55]), .inr (0, 6, 0), .inr (0, 6, 0), .inr (0, 6, 0), .inr (0, 6, 0), .inr (0, 4, 0), .inr (0, 288, 0), .inl (1, [0, 0, 0, 0, 0, 57, 58, 59, 60, 61, 62]), .inr (0, 6, 0), .inr (0, 6, 0), .inr (0, 6, 0), .inr (0, 6, 0), .inr (0, 4, 0), .inr (0, 288, 0), .inl (1, [0, 0, 0, 0, 0, 64, 65, 66, 67, 68, 69]), .inr (0, 6, 0), .inr (0, 6, 0), .inr (0, 6, 0), .inr (0, 6, 0), .inr (0, 4, 0), .inr (0, 288, 0)]
def shX (c : Nat) : Dsc := shXl.getD c (.inr (0, 0, 0))
def shMl : List Dsc := [.inl (9, [3, 0, 4, 0, 5, 0, 0, 0, 0, 0, 6, 0, 0, 1, 0, 0, 0, 0, 7, 8, 9, 10, 11, 0]), .inr (0, 96, 0), .inr (0, 30, 0), .inr (0, 20, 0), .inr (0, 200, 0), .inr (0, 70, 0), .inr (0, 1197, 0), .inr (0, 1197, 0), .inr (0, 2394, 0), .inr (2, 2, 0)]
def shM (c : Nat) : Dsc := shMl.getD c (.inr (0, 0, 0))
theorem cfX0 : ClsF 0 RX0 TX0 3 tyX0 := ⟨rfl, inBX0, tyX0_ok, nmX0⟩
theorem cfX1 : ClsF 1 RX1 TX1 11 tyX1 := ⟨rfl, inBX1, tyX1_ok, nmX1⟩
theorem cfX2 : ClsF 2 RX2 TX2 6 tyX2 := ⟨rfl, inBX2, tyX2_ok, nmX2⟩
theorem cfX3 : ClsF 3 RX3 TX3 2 tyX3 := ⟨rfl, inBX3, tyX3_ok, nmX3⟩
theorem cfX4 : ClsF 4 RX4 TX4 8 tyX4 := ⟨rfl, inBX4, tyX4_ok, nmX4⟩
theorem cfX5 : ClsF 5 RX5 TX5 5 tyX5 := ⟨rfl, inBX5, tyX5_ok, nmX5⟩
theorem cfX6 : ClsF 6 RX6 TX6 6 tyX6 := ⟨rfl, inBX6, tyX6_ok, nmX6⟩
theorem cfX7 : ClsF 7 RX7 TX7 5 tyX7 := ⟨rfl, inBX7, tyX7_ok, nmX7⟩
theorem cfX8 : ClsF 8 RX8 TX8 11 tyX8 := ⟨rfl, inBX8, tyX8_ok, nmX8⟩
theorem cfX9 : ClsF 9 RX9 TX9 24 tyX9 := ⟨rfl, inBX9, tyX9_ok, nmX9⟩
theorem shX_day {d : Nat} (h : d < 5) : shX (33 + 7 * d) = .inl (1, [0, 0, 0, 0, 0, 33 + 7 * d + 1 + 2, 33 + 7 * d + 2 + 2, 33 + 7 * d + 3 + 2, 33 + 7 * d + 4 + 2, 33 + 7 * d + 5 + 2, 33 + 7 * d + 6 + 2]) := by
  match d, h with
  | 0, _ => rfl
  | 1, _ => rfl
  | 2, _ => rfl
  | 3, _ => rfl
  | 4, _ => rfl
  | d + 5, h => exact absurd h (by omega)
theorem shX_day1 {d : Nat} (h : d < 5) : shX (33 + 7 * d + 1) = .inr (0, 6, 0) := by
  match d, h with
  | 0, _ => rfl
  | 1, _ => rfl
  | 2, _ => rfl
  | 3, _ => rfl
  | 4, _ => rfl
  | d + 5, h => exact absurd h (by omega)
theorem shX_day2 {d : Nat} (h : d < 5) : shX (33 + 7 * d + 2) = .inr (0, 6, 0) := by
  match d, h with
  | 0, _ => rfl
  | 1, _ => rfl
  | 2, _ => rfl
  | 3, _ => rfl
  | 4, _ => rfl
  | d + 5, h => exact absurd h (by omega)
theorem shX_day3 {d : Nat} (h : d < 5) : shX (33 + 7 * d + 3) = .inr (0, 6, 0) := by
  match d, h with
  | 0, _ => rfl
  | 1, _ => rfl
  | 2, _ => rfl
  | 3, _ => rfl
  | 4, _ => rfl
  | d + 5, h => exact absurd h (by omega)
theorem shX_day4 {d : Nat} (h : d < 5) : shX (33 + 7 * d + 4) = .inr (0, 6, 0) := by
  match d, h with
  | 0, _ => rfl
  | 1, _ => rfl
  | 2, _ => rfl
  | 3, _ => rfl
  | 4, _ => rfl
  | d + 5, h => exact absurd h (by omega)
theorem shX_day5 {d : Nat} (h : d < 5) : shX (33 + 7 * d + 5) = .inr (0, 4, 0) := by
  match d, h with
  | 0, _ => rfl
  | 1, _ => rfl
  | 2, _ => rfl
  | 3, _ => rfl
  | 4, _ => rfl
  | d + 5, h => exact absurd h (by omega)
theorem shX_day6 {d : Nat} (h : d < 5) : shX (33 + 7 * d + 6) = .inr (0, 288, 0) := by
  match d, h with
  | 0, _ => rfl
  | 1, _ => rfl
  | 2, _ => rfl
  | 3, _ => rfl
  | 4, _ => rfl
  | d + 5, h => exact absurd h (by omega)
theorem ltX_day0 {d : Nat} (h : d < 5) : 33 + 7 * d + 0 < 68 := by omega
theorem ltX_day1 {d : Nat} (h : d < 5) : 33 + 7 * d + 1 < 68 := by omega
theorem ltX_day2 {d : Nat} (h : d < 5) : 33 + 7 * d + 2 < 68 := by omega
theorem ltX_day3 {d : Nat} (h : d < 5) : 33 + 7 * d + 3 < 68 := by omega
theorem ltX_day4 {d : Nat} (h : d < 5) : 33 + 7 * d + 4 < 68 := by omega
theorem ltX_day5 {d : Nat} (h : d < 5) : 33 + 7 * d + 5 < 68 := by omega
theorem ltX_day6 {d : Nat} (h : d < 5) : 33 + 7 * d + 6 < 68 := by omega
theorem ltX_day {d : Nat} (h : d < 5) : 33 + 7 * d < 68 := by omega
theorem shX_kite {k : Nat} (h : k < 6) : shX (9 + k) = .inl (2, [0, 0, 0, 0, 0, 0]) := by
  match k, h with
  | 0, _ => rfl
  | 1, _ => rfl
  | 2, _ => rfl
  | 3, _ => rfl
  | 4, _ => rfl
  | 5, _ => rfl
  | k + 6, h => exact absurd h (by omega)
theorem shX_shoal {k : Nat} (h : k < 4) : shX (15 + k) = .inl (6, [0, 0, 0, 0, 0, 0]) := by
  match k, h with
  | 0, _ => rfl
  | 1, _ => rfl
  | 2, _ => rfl
  | 3, _ => rfl
  | k + 4, h => exact absurd h (by omega)
theorem ltX_kite {k : Nat} (h : k < 6) : 9 + k < 68 := by omega
theorem ltX_shoal {k : Nat} (h : k < 4) : 15 + k < 68 := by omega
theorem vin_lt {i : Int32} {n : Nat} (h : vp_in i n) : i.toNatClampNeg < n := Nat.not_le.mp fun q => h (Or.inr q)
theorem shX_se {q : Nat} (h : q < 2) : shX (24 + 3 * q) = .inl (5, [0, 0, 0, 24 + 3 * q + 1 + 2, 24 + 3 * q + 2 + 2]) := by
  match q, h with
  | 0, _ => rfl
  | 1, _ => rfl
  | q + 2, h => exact absurd h (by omega)
theorem shX_se1 {q : Nat} (h : q < 2) : shX (24 + 3 * q + 1) = .inr (0, 24, 0) := by
  match q, h with
  | 0, _ => rfl
  | 1, _ => rfl
  | q + 2, h => exact absurd h (by omega)
theorem ltX_se1 {q : Nat} (h : q < 2) : 24 + 3 * q + 1 < 68 := by omega
theorem shX_se2 {q : Nat} (h : q < 2) : shX (24 + 3 * q + 2) = .inr (0, 7, 0) := by
  match q, h with
  | 0, _ => rfl
  | 1, _ => rfl
  | q + 2, h => exact absurd h (by omega)
theorem ltX_se2 {q : Nat} (h : q < 2) : 24 + 3 * q + 2 < 68 := by omega
theorem ltX_se {q : Nat} (h : q < 2) : 24 + 3 * q < 68 := by omega
/-! ===== what holds of the rest of the machine ===== -/
def nestX : List Cond := [Cond.methodLinkNest RX8 11 yX7_init "FishingKites", Cond.methodLinkNest RX4 34 yX2_init "FishingKites", Cond.methodLinkNest RX4 35 yX6_init "FishingKites", Cond.methodLinkNest RX8 25 yX0_init "FishingKites", Cond.methodLinkNest RX8 32 yX1_init "FishingKites", Cond.methodLinkNest RX8 49 yX5_init "FishingKites", Cond.methodLinkNest RX8 59 yX3_init "FishingKites", Cond.fieldLinkNest RX7 70 "FishingKites" "NUMBERS_FROM" "[I" "FishingKites", Cond.fieldLinkNest RX7 77 "FishingKites" "LEAST" "[I" "FishingKites", Cond.fieldLinkNest RX7 80 "FishingKites" "MOST" "[I" "FishingKites", Cond.methodLinkNest RX4 63 yX8_isHeight "FishingKites", Cond.methodLinkNest RX4 111 yX8_isIn "FishingKites", Cond.methodLinkNest RX0 63 yX8_isIn "FishingKites", Cond.methodLinkNest RX1 79 yX8_isIn "FishingKites", Cond.methodLinkNest RX5 81 yX8_isIn "FishingKites"]
def txL : List Nat := [4, 4, 5, 3, 5, 3, 5, 4, 4]
def txB : List (List Int32) := [[119, 105, 110, 100], [107, 105, 116, 101], [115, 104, 111, 97, 108], [108, 97, 119], [115, 116, 111, 99, 107], [102, 111, 103], [103, 117, 108, 108, 115], [99, 97, 108, 109], [108, 111, 115, 116]]
def txN : List String := ["wind", "kite", "shoal", "law", "stock", "fog", "gulls", "calm", "lost"]
def txI : List Nat := [90, 92, 94, 96, 98, 100, 102, 104, 106]
def tbN : List Int32 := [0, 5, 11, 17, 18, 19, 21, 22, 22, 23]
def tbL : List Int32 := [1, 0, 0, 0, 0, 0, 0, 1, 1, 0, 0, 0, 0, 1, 0, 0, 0, 0, 0, 0, 0, 0, 0]
def tbM : List Int32 := [3, 11, 11, 9, 6, 5, 9, 5, 9, 9, 2, 3, 9, 6, 2, 2, 99, 2, 99, 11, 11, 9, 5]
def tabXa (A : Nat → Prop) (Z : ZT) (U : State) (f : String) (i n : Nat) (tb : List Int32) : Prop := va_Z RX8 f "[I" (.ref (Z.2.2.2 i)) A U U.heap ∧ va_T .int (Z.2.2.2 i) n (fun j => .int (tb.getD j 0)) A U U.heap
abbrev tabX (Z : ZT) (U : State) (f : String) (i n : Nat) (tb : List Int32) : Prop := tabXa (aa 68 Z) Z U f i n tb
def gXa (A : Nat → Prop) (Z : ZT) (U : State) : Prop :=
  va_K Z.1 vwCl (tysG Z.2.1) U ∧ (∀ w ∈ nestX, va_Nw w U) ∧ tabXa A Z U "NUMBERS_FROM" 0 10 tbN ∧ tabXa A Z U "LEAST" 1 23 tbL ∧ tabXa A Z U "MOST" 2 23 tbM ∧
  va_Z RJ0 "COMPACT_STRINGS" "Z" (.int 1) A U U.heap ∧ vk_S 9 txL txB (fun i => Z.2.2.2 (10 + i)) (fun i => Z.2.2.2 (20 + i)) A U U.heap ∧ (∀ i, i < 9 → vk_R RX7 (txI.getD i 0) (txN.getD i "") (Z.2.2.2 (10 + i)) U) ∧ va_Zq RJ3 "SIOOBE_FORMATTER" "Ljava/util/function/BiFunction;" A U U.heap
abbrev gX (Z : ZT) (U : State) : Prop := gXa (aa 68 Z) Z U
def gM (Z : ZT) (U : State) : Prop := va_K Z.1 vwCl (tysG Z.2.1) U
def injZ (N : Nat) (Z : ZT) : Prop := ∀ i j, i < N → j < N → Z.2.2.1 i = Z.2.2.1 j → i = j
theorem tabXa.to {A B : Nat → Prop} {Z : ZT} {s U : State} {f : String} {i n : Nat} {tb : List Int32} {H : Heap} {locs : List Loc} (h : tabXa A Z s f i n tb) (hB : ∀ q, B q → A q) (hS : va_S A s.heap H locs) (hU : U.heap = H) (hW : s.vm.Alike U.vm) : tabXa B Z U f i n tb := by
  subst hU
  exact ⟨((h.1.kept hS.2.1).moved hW).narrow hB, ((h.2.kept hS.2.1).moved hW).narrow hB⟩
theorem nest_warm {s U : State} (hW : s.WarmedH U.vm) (h : ∀ w ∈ nestX, va_Nw w s) : ∀ w ∈ nestX, va_Nw w U := by
  intro w hw
  have h1 := h w hw
  simp only [nestX, List.mem_cons, List.not_mem_nil, or_false] at hw
  rcases hw with rfl | rfl | rfl | rfl | rfl | rfl | rfl | rfl | rfl | rfl | rfl | rfl | rfl | rfl | rfl <;> first | exact va_Nw.warmM hW h1 | exact va_Nw.warmF hW h1
theorem nest_same {s U : State} (hW : s.vm = U.vm) (h : ∀ w ∈ nestX, va_Nw w s) : ∀ w ∈ nestX, va_Nw w U := by
  intro w hw
  have h1 := h w hw
  simp only [nestX, List.mem_cons, List.not_mem_nil, or_false] at hw
  rcases hw with rfl | rfl | rfl | rfl | rfl | rfl | rfl | rfl | rfl | rfl | rfl | rfl | rfl | rfl | rfl <;> exact va_Nw.same rfl hW h1
theorem gXa.to {A B : Nat → Prop} {Z : ZT} {s U : State} {H : Heap} {locs : List Loc} (h : gXa A Z s) (hB : ∀ q, B q → A q) (hS : va_S A s.heap H locs) (hU : U.heap = H) (hW : s.WarmedH U.vm) : gXa B Z U := by
  obtain ⟨h1, h2, h3, h4, h5, h6, h7, h8, h9⟩ := h
  refine ⟨va_K.moved hW.alike h1, nest_warm hW h2, h3.to hB hS hU hW.alike, h4.to hB hS hU hW.alike, h5.to hB hS hU hW.alike, ?_, ?_, fun i hi => (h8 i hi).warm hW, ?_⟩
  · subst hU
    exact ((h6.kept hS.2.1).moved hW.alike).narrow hB
  · subst hU
    exact ((h7.kept hS.2.1).moved hW.alike).narrow hB
  · subst hU
    exact ((h9.kept hS.2.1).moved hW.alike).narrow hB
theorem gokX {Z : ZT} (hi : injZ 68 Z) : GOK 68 Z (gX Z) := by
  refine ⟨fun U h => h.1, hi, ?_, ?_⟩
  · intro s U H locs h hS hU hW
    exact h.to (fun _ h => h) hS hU hW
  · intro U g mk a h
    obtain ⟨h1, h2, h3, h4, h5, h6, h7, h8, h9⟩ := h
    have e : U.vm.Alike (State.calling U g mk a).vm := Vm.Alike.refl U.vm
    exact ⟨va_K.moved e h1, nest_same (s := U) rfl h2, ⟨va_Z.moved e h3.1, va_T.moved e h3.2⟩, ⟨va_Z.moved e h4.1, va_T.moved e h4.2⟩, ⟨va_Z.moved e h5.1, va_T.moved e h5.2⟩, va_Z.moved e h6, vk_S.moved e h7, fun i hi => vk_R.same rfl (h8 i hi), va_Zq.moved e h9⟩
theorem gokM {Z : ZT} (hi : injZ 10 Z) : GOK 10 Z (gM Z) :=
  ⟨fun U h => h, hi, fun s U H locs h hS hU hW => va_K.moved (U := U) hW.alike h, fun U g mk a h => va_K.moved (U := State.calling U g mk a) (Vm.Alike.refl U.vm) h⟩
theorem nstX {Z : ZT} {s : State} (h : gX Z s) (i : Nat) {w : Cond} (hw : nestX[i]? = some w) : va_Nw w s := h.2.1 w (List.mem_of_getElem? hw)
theorem vinL {i : Int32} {n : Nat} (h : (decide (i < 0) || Nat.ble n i.toNatClampNeg) = false) : vp_in i n := by
  simp only [Bool.or_eq_false_iff, decide_eq_false_iff_not] at h
  intro q
  rcases q with q | q
  · exact h.1 q
  · have h2 := Nat.ble_eq_true_of_le q
    rw [h.2] at h2
    cases h2
theorem nar_b {r : Int32} (h : r = 0 ∨ r = 1) : narrow .boolean (.int r) = .int r := by
  rcases h with rfl | rfl <;> rfl
theorem tIne {x v : Int32} {z : Int} (h : ¬ x = v) (e : v.toInt = z) : x.toInt ≠ z := fun h2 => h (Int32.toInt_inj.mp (h2.trans e.symm))
theorem cal_X0_draw : CalV yX0_draw cX0_draw 4 none 1 := ⟨kCD_X0_draw, kIM_X0_draw, kSE_X0_draw, kIN_X0, by decide +kernel⟩
theorem cal_X0_drawKite : CalV yX0_drawKite cX0_drawKite 8 none 3 := ⟨kCD_X0_drawKite, kIM_X0_drawKite, kSE_X0_drawKite, kIN_X0, by decide +kernel⟩
theorem cal_X0_shoalsAt : CalS yX0_shoalsAt cX0_shoalsAt 9 (Option.some .int) 4 := ⟨kCD_X0_shoalsAt, kST_X0_shoalsAt, kIN_X0, by decide +kernel⟩
theorem cal_X0_kitesAcross : CalS yX0_kitesAcross cX0_kitesAcross 6 (Option.some .int) 4 := ⟨kCD_X0_kitesAcross, kST_X0_kitesAcross, kIN_X0, by decide +kernel⟩
theorem cal_X0_isFree : CalV yX0_isFree cX0_isFree 5 (Option.some .boolean) 3 := ⟨kCD_X0_isFree, kIM_X0_isFree, kSE_X0_isFree, kIN_X0, by decide +kernel⟩
theorem cal_X0_met : CalV yX0_met cX0_met 5 (Option.some .int) 3 := ⟨kCD_X0_met, kIM_X0_met, kSE_X0_met, kIN_X0, by decide +kernel⟩
theorem cal_X0_crossed : CalV yX0_crossed cX0_crossed 5 (Option.some .int) 3 := ⟨kCD_X0_crossed, kIM_X0_crossed, kSE_X0_crossed, kIN_X0, by decide +kernel⟩
theorem cal_X1_stockShoals : CalV yX1_stockShoals cX1_stockShoals 3 none 1 := ⟨kCD_X1_stockShoals, kIM_X1_stockShoals, kSE_X1_stockShoals, kIN_X1, by decide +kernel⟩
theorem cal_X1_become : CalV yX1_become cX1_become 2 none 1 := ⟨kCD_X1_become, kIM_X1_become, kSE_X1_become, kIN_X1, by decide +kernel⟩
theorem cal_X1_resume : CalV yX1_resume cX1_resume 2 none 1 := ⟨kCD_X1_resume, kIM_X1_resume, kSE_X1_resume, kIN_X1, by decide +kernel⟩
theorem cal_X1_pass : CalV yX1_pass cX1_pass 7 none 4 := ⟨kCD_X1_pass, kIM_X1_pass, kSE_X1_pass, kIN_X1, by decide +kernel⟩
theorem cal_X1_risen : CalV yX1_risen cX1_risen 8 (Option.some .int) 2 := ⟨kCD_X1_risen, kIM_X1_risen, kSE_X1_risen, kIN_X1, by decide +kernel⟩
theorem cal_X1_untangled : CalV yX1_untangled cX1_untangled 11 (Option.some .int) 4 := ⟨kCD_X1_untangled, kIM_X1_untangled, kSE_X1_untangled, kIN_X1, by decide +kernel⟩
theorem cal_X1_fish : CalV yX1_fish cX1_fish 9 none 3 := ⟨kCD_X1_fish, kIM_X1_fish, kSE_X1_fish, kIN_X1, by decide +kernel⟩
theorem cal_X1_fishIn : CalV yX1_fishIn cX1_fishIn 4 (Option.some .int) 1 := ⟨kCD_X1_fishIn, kIM_X1_fishIn, kSE_X1_fishIn, kIN_X1, by decide +kernel⟩
theorem cal_X1_note : CalV yX1_note cX1_note 4 none 3 := ⟨kCD_X1_note, kIM_X1_note, kSE_X1_note, kIN_X1, by decide +kernel⟩
theorem cal_X3_begin : CalV yX3_begin cX3_begin 2 none 1 := ⟨kCD_X3_begin, kIM_X3_begin, kSE_X3_begin, kIN_X3, by decide +kernel⟩
theorem cal_X3_enough : CalV yX3_enough cX3_enough 10 (Option.some .long) 5 := ⟨kCD_X3_enough, kIM_X3_enough, kSE_X3_enough, kIN_X3, by decide +kernel⟩
theorem cal_X3_drift : CalV yX3_drift cX3_drift 7 none 2 := ⟨kCD_X3_drift, kIM_X3_drift, kSE_X3_drift, kIN_X3, by decide +kernel⟩
theorem cal_X3_sumFrom : CalV yX3_sumFrom cX3_sumFrom 5 (Option.some .long) 1 := ⟨kCD_X3_sumFrom, kIM_X3_sumFrom, kSE_X3_sumFrom, kIN_X3, by decide +kernel⟩
theorem cal_X4_tell : CalV yX4_tell cX4_tell 3 none 2 := ⟨kCD_X4_tell, kIM_X4_tell, kSE_X4_tell, kIN_X4, by decide +kernel⟩
theorem cal_X4_tellWind : CalV yX4_tellWind cX4_tellWind 4 none 1 := ⟨kCD_X4_tellWind, kIM_X4_tellWind, kSE_X4_tellWind, kIN_X4, by decide +kernel⟩
theorem cal_X4_tellKite : CalV yX4_tellKite cX4_tellKite 3 none 1 := ⟨kCD_X4_tellKite, kIM_X4_tellKite, kSE_X4_tellKite, kIN_X4, by decide +kernel⟩
theorem cal_X4_tellShoal : CalV yX4_tellShoal cX4_tellShoal 3 none 1 := ⟨kCD_X4_tellShoal, kIM_X4_tellShoal, kSE_X4_tellShoal, kIN_X4, by decide +kernel⟩
theorem cal_X4_tellFog : CalV yX4_tellFog cX4_tellFog 4 none 2 := ⟨kCD_X4_tellFog, kIM_X4_tellFog, kSE_X4_tellFog, kIN_X4, by decide +kernel⟩
theorem cal_X4_tellCalm : CalV yX4_tellCalm cX4_tellCalm 1 none 0 := ⟨kCD_X4_tellCalm, kIM_X4_tellCalm, kSE_X4_tellCalm, kIN_X4, by decide +kernel⟩
theorem cal_X4_tellLost : CalV yX4_tellLost cX4_tellLost 2 none 1 := ⟨kCD_X4_tellLost, kIM_X4_tellLost, kSE_X4_tellLost, kIN_X4, by decide +kernel⟩
theorem cal_X4_windAt : CalS yX4_windAt cX4_windAt 4 (Option.some .int) 3 := ⟨kCD_X4_windAt, kST_X4_windAt, kIN_X4, by decide +kernel⟩
theorem cal_X4_isToldKite : CalV yX4_isToldKite cX4_isToldKite 2 (Option.some .boolean) 1 := ⟨kCD_X4_isToldKite, kIM_X4_isToldKite, kSE_X4_isToldKite, kIN_X4, by decide +kernel⟩
theorem cal_X4_isToldShoal : CalV yX4_isToldShoal cX4_isToldShoal 2 (Option.some .boolean) 1 := ⟨kCD_X4_isToldShoal, kIM_X4_isToldShoal, kSE_X4_isToldShoal, kIN_X4, by decide +kernel⟩
theorem cal_X4_isFoggy : CalV yX4_isFoggy cX4_isFoggy 2 (Option.some .boolean) 1 := ⟨kCD_X4_isFoggy, kIM_X4_isFoggy, kSE_X4_isFoggy, kIN_X4, by decide +kernel⟩
theorem cal_X4_kiteBits : CalV yX4_kiteBits cX4_kiteBits 3 (Option.some .int) 0 := ⟨kCD_X4_kiteBits, kIM_X4_kiteBits, kSE_X4_kiteBits, kIN_X4, by decide +kernel⟩
theorem cal_X4_shoalBits : CalV yX4_shoalBits cX4_shoalBits 3 (Option.some .int) 0 := ⟨kCD_X4_shoalBits, kIM_X4_shoalBits, kSE_X4_shoalBits, kIN_X4, by decide +kernel⟩
theorem cal_X4_shoalX : CalV yX4_shoalX cX4_shoalX 3 (Option.some .int) 2 := ⟨kCD_X4_shoalX, kIM_X4_shoalX, kSE_X4_shoalX, kIN_X4, by decide +kernel⟩
theorem cal_X4_shoalY : CalV yX4_shoalY cX4_shoalY 3 (Option.some .int) 2 := ⟨kCD_X4_shoalY, kIM_X4_shoalY, kSE_X4_shoalY, kIN_X4, by decide +kernel⟩
theorem cal_X4_kiteX : CalV yX4_kiteX cX4_kiteX 4 (Option.some .int) 3 := ⟨kCD_X4_kiteX, kIM_X4_kiteX, kSE_X4_kiteX, kIN_X4, by decide +kernel⟩
theorem cal_X4_kiteY : CalV yX4_kiteY cX4_kiteY 3 (Option.some .int) 2 := ⟨kCD_X4_kiteY, kIM_X4_kiteY, kSE_X4_kiteY, kIN_X4, by decide +kernel⟩
theorem cal_X4_isInSea : CalV yX4_isInSea cX4_isInSea 6 (Option.some .boolean) 3 := ⟨kCD_X4_isInSea, kIM_X4_isInSea, kSE_X4_isInSea, kIN_X4, by decide +kernel⟩
theorem cal_X4_hasLift : CalV yX4_hasLift cX4_hasLift 4 (Option.some .boolean) 3 := ⟨kCD_X4_hasLift, kIM_X4_hasLift, kSE_X4_hasLift, kIN_X4, by decide +kernel⟩
theorem cal_X4_wouldCross : CalV yX4_wouldCross cX4_wouldCross 7 (Option.some .boolean) 4 := ⟨kCD_X4_wouldCross, kIM_X4_wouldCross, kSE_X4_wouldCross, kIN_X4, by decide +kernel⟩
theorem cal_X4_givingWay : CalV yX4_givingWay cX4_givingWay 7 (Option.some .int) 3 := ⟨kCD_X4_givingWay, kIM_X4_givingWay, kSE_X4_givingWay, kIN_X4, by decide +kernel⟩
theorem cal_X4_afterGulls : CalV yX4_afterGulls cX4_afterGulls 2 (Option.some .int) 1 := ⟨kCD_X4_afterGulls, kIM_X4_afterGulls, kSE_X4_afterGulls, kIN_X4, by decide +kernel⟩
theorem cal_X4_shareOf : CalV yX4_shareOf cX4_shareOf 9 (Option.some .int) 2 := ⟨kCD_X4_shareOf, kIM_X4_shareOf, kSE_X4_shareOf, kIN_X4, by decide +kernel⟩
theorem cal_X5_forget : CalV yX5_forget cX5_forget 1 none 0 := ⟨kCD_X5_forget, kIM_X5_forget, kSE_X5_forget, kIN_X5, by decide +kernel⟩
theorem cal_X5_heightOf : CalV yX5_heightOf cX5_heightOf 2 (Option.some .int) 1 := ⟨kCD_X5_heightOf, kIM_X5_heightOf, kSE_X5_heightOf, kIN_X5, by decide +kernel⟩
theorem cal_X5_heightIn : CalS yX5_heightIn cX5_heightIn 2 (Option.some .int) 2 := ⟨kCD_X5_heightIn, kST_X5_heightIn, kIN_X5, by decide +kernel⟩
theorem cal_X5_shiftOf : CalS yX5_shiftOf cX5_shiftOf 1 (Option.some .int) 1 := ⟨kCD_X5_shiftOf, kST_X5_shiftOf, kIN_X5, by decide +kernel⟩
theorem cal_X5_find : CalV yX5_find cX5_find 9 none 5 := ⟨kCD_X5_find, kIM_X5_find, kSE_X5_find, kIN_X5, by decide +kernel⟩
theorem cal_X5_tryPlan : CalV yX5_tryPlan cX5_tryPlan 8 none 6 := ⟨kCD_X5_tryPlan, kIM_X5_tryPlan, kSE_X5_tryPlan, kIN_X5, by decide +kernel⟩
theorem cal_X5_firstHopeless : CalV yX5_firstHopeless cX5_firstHopeless 5 (Option.some .int) 1 := ⟨kCD_X5_firstHopeless, kIM_X5_firstHopeless, kSE_X5_firstHopeless, kIN_X5, by decide +kernel⟩
theorem cal_X5_setBounds : CalV yX5_setBounds cX5_setBounds 9 none 4 := ⟨kCD_X5_setBounds, kIM_X5_setBounds, kSE_X5_setBounds, kIN_X5, by decide +kernel⟩
theorem cal_X5_boundOf : CalS yX5_boundOf cX5_boundOf 14 (Option.some .int) 6 := ⟨kCD_X5_boundOf, kST_X5_boundOf, kIN_X5, by decide +kernel⟩
theorem cal_X7_hasRoom : CalV yX7_hasRoom cX7_hasRoom 2 (Option.some .boolean) 1 := ⟨kCD_X7_hasRoom, kIM_X7_hasRoom, kSE_X7_hasRoom, kIN_X7, by decide +kernel⟩
theorem cal_X7_append : CalV yX7_append cX7_append 5 none 2 := ⟨kCD_X7_append, kIM_X7_append, kSE_X7_append, kIN_X7, by decide +kernel⟩
theorem cal_X7_readInto : CalV yX7_readInto cX7_readInto 4 (Option.some .int) 1 := ⟨kCD_X7_readInto, kIM_X7_readInto, kSE_X7_readInto, kIN_X7, by decide +kernel⟩
theorem cal_X7_peek : CalV yX7_peek cX7_peek 2 (Option.some .int) 1 := ⟨kCD_X7_peek, kIM_X7_peek, kSE_X7_peek, kIN_X7, by decide +kernel⟩
theorem cal_X7_skipBlanks : CalV yX7_skipBlanks cX7_skipBlanks 2 none 0 := ⟨kCD_X7_skipBlanks, kIM_X7_skipBlanks, kSE_X7_skipBlanks, kIN_X7, by decide +kernel⟩
theorem cal_X7_readWord : CalV yX7_readWord cX7_readWord 3 (Option.some .int) 0 := ⟨kCD_X7_readWord, kIM_X7_readWord, kSE_X7_readWord, kIN_X7, by decide +kernel⟩
theorem cal_X7_isSpelled : CalV yX7_isSpelled cX7_isSpelled 4 (Option.some .boolean) 2 := ⟨kCD_X7_isSpelled, kIM_X7_isSpelled, kSE_X7_isSpelled, kIN_X7, by decide +kernel⟩
theorem cal_X7_readNumbers : CalV yX7_readNumbers cX7_readNumbers 7 (Option.some .boolean) 1 := ⟨kCD_X7_readNumbers, kIM_X7_readNumbers, kSE_X7_readNumbers, kIN_X7, by decide +kernel⟩
theorem cal_X7_readNumber : CalV yX7_readNumber cX7_readNumber 6 (Option.some .int) 2 := ⟨kCD_X7_readNumber, kIM_X7_readNumber, kSE_X7_readNumber, kIN_X7, by decide +kernel⟩
theorem cal_X7_isEndOfHours : CalS yX7_isEndOfHours cX7_isEndOfHours 2 (Option.some .boolean) 2 := ⟨kCD_X7_isEndOfHours, kST_X7_isEndOfHours, kIN_X7, by decide +kernel⟩
theorem cal_X7_isLetter : CalS yX7_isLetter cX7_isLetter 1 (Option.some .boolean) 1 := ⟨kCD_X7_isLetter, kST_X7_isLetter, kIN_X7, by decide +kernel⟩
theorem cal_X7_isDigit : CalS yX7_isDigit cX7_isDigit 1 (Option.some .boolean) 1 := ⟨kCD_X7_isDigit, kST_X7_isDigit, kIN_X7, by decide +kernel⟩
theorem cal_X7_nameOf : CalS yX7_nameOf cX7_nameOf 1 (Option.some (.object "java/lang/String")) 1 := ⟨kCD_X7_nameOf, kST_X7_nameOf, kIN_X7, by decide +kernel⟩
theorem cal_X8_write : CalV yX8_write cX8_write 4 (Option.some .int) 2 := ⟨kCD_X8_write, kIM_X8_write, kSE_X8_write, kIN_X8, by decide +kernel⟩
theorem cal_X8_erase : CalV yX8_erase cX8_erase 2 (Option.some .int) 0 := ⟨kCD_X8_erase, kIM_X8_erase, kSE_X8_erase, kIN_X8, by decide +kernel⟩
theorem cal_X8_fault : CalV yX8_fault cX8_fault 1 (Option.some .int) 0 := ⟨kCD_X8_fault, kIM_X8_fault, kSE_X8_fault, kIN_X8, by decide +kernel⟩
theorem cal_X8_cliff : CalV yX8_cliff cX8_cliff 1 (Option.some .int) 0 := ⟨kCD_X8_cliff, kIM_X8_cliff, kSE_X8_cliff, kIN_X8, by decide +kernel⟩
theorem cal_X8_wind : CalV yX8_wind cX8_wind 4 (Option.some .int) 3 := ⟨kCD_X8_wind, kIM_X8_wind, kSE_X8_wind, kIN_X8, by decide +kernel⟩
theorem cal_X8_shoal : CalV yX8_shoal cX8_shoal 3 (Option.some .int) 2 := ⟨kCD_X8_shoal, kIM_X8_shoal, kSE_X8_shoal, kIN_X8, by decide +kernel⟩
theorem cal_X8_ask : CalV yX8_ask cX8_ask 4 (Option.some .int) 2 := ⟨kCD_X8_ask, kIM_X8_ask, kSE_X8_ask, kIN_X8, by decide +kernel⟩
theorem cal_X8_go : CalV yX8_go cX8_go 2 (Option.some .int) 1 := ⟨kCD_X8_go, kIM_X8_go, kSE_X8_go, kIN_X8, by decide +kernel⟩
theorem cal_X8_kite : CalV yX8_kite cX8_kite 3 (Option.some .int) 2 := ⟨kCD_X8_kite, kIM_X8_kite, kSE_X8_kite, kIN_X8, by decide +kernel⟩
theorem cal_X8_where : CalV yX8_where cX8_where 4 (Option.some .int) 3 := ⟨kCD_X8_where, kIM_X8_where, kSE_X8_where, kIN_X8, by decide +kernel⟩
theorem cal_X8_hinders : CalV yX8_hinders cX8_hinders 4 (Option.some .int) 3 := ⟨kCD_X8_hinders, kIM_X8_hinders, kSE_X8_hinders, kIN_X8, by decide +kernel⟩
theorem cal_X8_tangle : CalV yX8_tangle cX8_tangle 5 (Option.some .int) 4 := ⟨kCD_X8_tangle, kIM_X8_tangle, kSE_X8_tangle, kIN_X8, by decide +kernel⟩
theorem cal_X8_taking : CalV yX8_taking cX8_taking 4 (Option.some .int) 2 := ⟨kCD_X8_taking, kIM_X8_taking, kSE_X8_taking, kIN_X8, by decide +kernel⟩
theorem cal_X8_keep : CalV yX8_keep cX8_keep 2 (Option.some .int) 1 := ⟨kCD_X8_keep, kIM_X8_keep, kSE_X8_keep, kIN_X8, by decide +kernel⟩
theorem cal_X8_back : CalV yX8_back cX8_back 2 (Option.some .int) 1 := ⟨kCD_X8_back, kIM_X8_back, kSE_X8_back, kIN_X8, by decide +kernel⟩
theorem cal_X8_best : CalV yX8_best cX8_best 2 (Option.some .int) 1 := ⟨kCD_X8_best, kIM_X8_best, kSE_X8_best, kIN_X8, by decide +kernel⟩
theorem cal_X8_allDay : CalV yX8_allDay cX8_allDay 2 (Option.some .int) 1 := ⟨kCD_X8_allDay, kIM_X8_allDay, kSE_X8_allDay, kIN_X8, by decide +kernel⟩
theorem cal_X8_laws : CalV yX8_laws cX8_laws 6 (Option.some .int) 1 := ⟨kCD_X8_laws, kIM_X8_laws, kSE_X8_laws, kIN_X8, by decide +kernel⟩
theorem cal_X8_food : CalV yX8_food cX8_food 7 (Option.some .long) 6 := ⟨kCD_X8_food, kIM_X8_food, kSE_X8_food, kIN_X8, by decide +kernel⟩
theorem cal_X8_cut : CalV yX8_cut cX8_cut 9 (Option.some .long) 5 := ⟨kCD_X8_cut, kIM_X8_cut, kSE_X8_cut, kIN_X8, by decide +kernel⟩
theorem cal_X8_share : CalV yX8_share cX8_share 3 (Option.some .int) 2 := ⟨kCD_X8_share, kIM_X8_share, kSE_X8_share, kIN_X8, by decide +kernel⟩
theorem cal_X8_count : CalV yX8_count cX8_count 2 (Option.some .int) 1 := ⟨kCD_X8_count, kIM_X8_count, kSE_X8_count, kIN_X8, by decide +kernel⟩
theorem cal_X8_caughtAllDayBy : CalV yX8_caughtAllDayBy cX8_caughtAllDayBy 3 (Option.some .int) 1 := ⟨kCD_X8_caughtAllDayBy, kIM_X8_caughtAllDayBy, kSE_X8_caughtAllDayBy, kIN_X8, by decide +kernel⟩
theorem cal_X8_isPlace : CalV yX8_isPlace cX8_isPlace 4 (Option.some .boolean) 3 := ⟨kCD_X8_isPlace, kIM_X8_isPlace, kSE_X8_isPlace, kIN_X8, by decide +kernel⟩
theorem cal_X8_isHeight : CalS yX8_isHeight cX8_isHeight 1 (Option.some .boolean) 1 := ⟨kCD_X8_isHeight, kST_X8_isHeight, kIN_X8, by decide +kernel⟩
theorem cal_X8_isHour : CalS yX8_isHour cX8_isHour 1 (Option.some .boolean) 1 := ⟨kCD_X8_isHour, kST_X8_isHour, kIN_X8, by decide +kernel⟩
theorem cal_X8_isIn : CalS yX8_isIn cX8_isIn 2 (Option.some .boolean) 2 := ⟨kCD_X8_isIn, kST_X8_isIn, kIN_X8, by decide +kernel⟩
theorem cal_X8_tenToThe : CalS yX8_tenToThe cX8_tenToThe 4 (Option.some .long) 1 := ⟨kCD_X8_tenToThe, kST_X8_tenToThe, kIN_X8, by decide +kernel⟩
theorem cal_X8_lowestTerm : CalS yX8_lowestTerm cX8_lowestTerm 12 (Option.some .long) 3 := ⟨kCD_X8_lowestTerm, kST_X8_lowestTerm, kIN_X8, by decide +kernel⟩
theorem cal_X9_in : CalS yX9_in cX9_in 3 (Option.some .boolean) 3 := ⟨kCD_X9_in, kST_X9_in, kIN_X9, by decide +kernel⟩
theorem cal_X9_has : CalS yX9_has cX9_has 2 (Option.some .boolean) 2 := ⟨kCD_X9_has, kST_X9_has, kIN_X9, by decide +kernel⟩
theorem cal_X9_isKite : CalV yX9_isKite cX9_isKite 2 (Option.some .boolean) 1 := ⟨kCD_X9_isKite, kIM_X9_isKite, kSE_X9_isKite, kIN_X9, by decide +kernel⟩
theorem cal_X9_isHeight : CalS yX9_isHeight cX9_isHeight 1 (Option.some .boolean) 1 := ⟨kCD_X9_isHeight, kST_X9_isHeight, kIN_X9, by decide +kernel⟩
theorem cal_X9_isHour : CalS yX9_isHour cX9_isHour 1 (Option.some .boolean) 1 := ⟨kCD_X9_isHour, kST_X9_isHour, kIN_X9, by decide +kernel⟩
theorem cal_X9_write : CalV yX9_write cX9_write 5 (Option.some .int) 2 := ⟨kCD_X9_write, kIM_X9_write, kSE_X9_write, kIN_X9, by decide +kernel⟩
theorem cal_X9_erase : CalV yX9_erase cX9_erase 2 (Option.some .int) 0 := ⟨kCD_X9_erase, kIM_X9_erase, kSE_X9_erase, kIN_X9, by decide +kernel⟩
theorem cal_X9_nextToken : CalV yX9_nextToken cX9_nextToken 1 none 0 := ⟨kCD_X9_nextToken, kIM_X9_nextToken, kSE_X9_nextToken, kIN_X9, by decide +kernel⟩
theorem cal_X9_fails : CalV yX9_fails cX9_fails 1 (Option.some .boolean) 0 := ⟨kCD_X9_fails, kIM_X9_fails, kSE_X9_fails, kIN_X9, by decide +kernel⟩
theorem cal_X9_isNumber : CalV yX9_isNumber cX9_isNumber 4 (Option.some .boolean) 3 := ⟨kCD_X9_isNumber, kIM_X9_isNumber, kSE_X9_isNumber, kIN_X9, by decide +kernel⟩
theorem cal_X9_areHours : CalV yX9_areHours cX9_areHours 2 (Option.some .boolean) 1 := ⟨kCD_X9_areHours, kIM_X9_areHours, kSE_X9_areHours, kIN_X9, by decide +kernel⟩
theorem cal_X9_isKiteLine : CalV yX9_isKiteLine cX9_isKiteLine 2 (Option.some .boolean) 1 := ⟨kCD_X9_isKiteLine, kIM_X9_isKiteLine, kSE_X9_isKiteLine, kIN_X9, by decide +kernel⟩
theorem cal_X9_isShoalLine : CalV yX9_isShoalLine cX9_isShoalLine 2 (Option.some .boolean) 1 := ⟨kCD_X9_isShoalLine, kIM_X9_isShoalLine, kSE_X9_isShoalLine, kIN_X9, by decide +kernel⟩
theorem cal_X9_isLine : CalV yX9_isLine cX9_isLine 4 (Option.some .boolean) 1 := ⟨kCD_X9_isLine, kIM_X9_isLine, kSE_X9_isLine, kIN_X9, by decide +kernel⟩
theorem cal_X9_isRead : CalV yX9_isRead cX9_isRead 2 (Option.some .boolean) 0 := ⟨kCD_X9_isRead, kIM_X9_isRead, kSE_X9_isRead, kIN_X9, by decide +kernel⟩
theorem cal_X9_fault : CalV yX9_fault cX9_fault 1 (Option.some .int) 0 := ⟨kCD_X9_fault, kIM_X9_fault, kSE_X9_fault, kIN_X9, by decide +kernel⟩
theorem cal_X9_putWind : CalV yX9_putWind cX9_putWind 7 none 5 := ⟨kCD_X9_putWind, kIM_X9_putWind, kSE_X9_putWind, kIN_X9, by decide +kernel⟩
theorem cal_X9_calm : CalV yX9_calm cX9_calm 2 none 0 := ⟨kCD_X9_calm, kIM_X9_calm, kSE_X9_calm, kIN_X9, by decide +kernel⟩
theorem cal_X9_doLine : CalV yX9_doLine cX9_doLine 4 none 1 := ⟨kCD_X9_doLine, kIM_X9_doLine, kSE_X9_doLine, kIN_X9, by decide +kernel⟩
theorem cal_X9_anew : CalV yX9_anew cX9_anew 2 none 0 := ⟨kCD_X9_anew, kIM_X9_anew, kSE_X9_anew, kIN_X9, by decide +kernel⟩
theorem cal_X9_begin : CalV yX9_begin cX9_begin 2 none 0 := ⟨kCD_X9_begin, kIM_X9_begin, kSE_X9_begin, kIN_X9, by decide +kernel⟩
theorem cal_X9_cliff : CalV yX9_cliff cX9_cliff 2 (Option.some .int) 0 := ⟨kCD_X9_cliff, kIM_X9_cliff, kSE_X9_cliff, kIN_X9, by decide +kernel⟩
theorem cal_X9_wind : CalV yX9_wind cX9_wind 4 (Option.some .int) 3 := ⟨kCD_X9_wind, kIM_X9_wind, kSE_X9_wind, kIN_X9, by decide +kernel⟩
theorem cal_X9_shoal : CalV yX9_shoal cX9_shoal 3 (Option.some .int) 2 := ⟨kCD_X9_shoal, kIM_X9_shoal, kSE_X9_shoal, kIN_X9, by decide +kernel⟩
theorem cal_X9_ask : CalV yX9_ask cX9_ask 4 (Option.some .int) 2 := ⟨kCD_X9_ask, kIM_X9_ask, kSE_X9_ask, kIN_X9, by decide +kernel⟩
theorem cal_X9_xOf : CalV yX9_xOf cX9_xOf 4 (Option.some .int) 3 := ⟨kCD_X9_xOf, kIM_X9_xOf, kSE_X9_xOf, kIN_X9, by decide +kernel⟩
theorem cal_X9_yOf : CalV yX9_yOf cX9_yOf 3 (Option.some .int) 2 := ⟨kCD_X9_yOf, kIM_X9_yOf, kSE_X9_yOf, kIN_X9, by decide +kernel⟩
theorem cal_X9_isInSea : CalV yX9_isInSea cX9_isInSea 4 (Option.some .boolean) 3 := ⟨kCD_X9_isInSea, kIM_X9_isInSea, kSE_X9_isInSea, kIN_X9, by decide +kernel⟩
theorem cal_X9_hasLift : CalV yX9_hasLift cX9_hasLift 4 (Option.some .boolean) 3 := ⟨kCD_X9_hasLift, kIM_X9_hasLift, kSE_X9_hasLift, kIN_X9, by decide +kernel⟩
theorem cal_X9_doTangle : CalV yX9_doTangle cX9_doTangle 7 (Option.some .boolean) 4 := ⟨kCD_X9_doTangle, kIM_X9_doTangle, kSE_X9_doTangle, kIN_X9, by decide +kernel⟩
theorem cal_X9_givesWay : CalV yX9_givesWay cX9_givesWay 4 (Option.some .int) 2 := ⟨kCD_X9_givesWay, kIM_X9_givesWay, kSE_X9_givesWay, kIN_X9, by decide +kernel⟩
theorem cal_X9_findUp : CalV yX9_findUp cX9_findUp 7 none 1 := ⟨kCD_X9_findUp, kIM_X9_findUp, kSE_X9_findUp, kIN_X9, by decide +kernel⟩
theorem cal_X9_take : CalV yX9_take cX9_take 9 none 2 := ⟨kCD_X9_take, kIM_X9_take, kSE_X9_take, kIN_X9, by decide +kernel⟩
theorem cal_X9_goHour : CalV yX9_goHour cX9_goHour 3 none 0 := ⟨kCD_X9_goHour, kIM_X9_goHour, kSE_X9_goHour, kIN_X9, by decide +kernel⟩
theorem cal_X9_go : CalV yX9_go cX9_go 3 (Option.some .int) 1 := ⟨kCD_X9_go, kIM_X9_go, kSE_X9_go, kIN_X9, by decide +kernel⟩
theorem cal_X9_kite : CalV yX9_kite cX9_kite 3 (Option.some .int) 2 := ⟨kCD_X9_kite, kIM_X9_kite, kSE_X9_kite, kIN_X9, by decide +kernel⟩
theorem cal_X9_where : CalV yX9_where cX9_where 4 (Option.some .int) 3 := ⟨kCD_X9_where, kIM_X9_where, kSE_X9_where, kIN_X9, by decide +kernel⟩
theorem cal_X9_hinders : CalV yX9_hinders cX9_hinders 4 (Option.some .int) 3 := ⟨kCD_X9_hinders, kIM_X9_hinders, kSE_X9_hinders, kIN_X9, by decide +kernel⟩
theorem cal_X9_tangle : CalV yX9_tangle cX9_tangle 5 (Option.some .int) 4 := ⟨kCD_X9_tangle, kIM_X9_tangle, kSE_X9_tangle, kIN_X9, by decide +kernel⟩
theorem cal_X9_taking : CalV yX9_taking cX9_taking 3 (Option.some .int) 2 := ⟨kCD_X9_taking, kIM_X9_taking, kSE_X9_taking, kIN_X9, by decide +kernel⟩
theorem cal_X9_copy : CalS yX9_copy cX9_copy 5 none 4 := ⟨kCD_X9_copy, kST_X9_copy, kIN_X9, by decide +kernel⟩
theorem cal_X9_keep : CalV yX9_keep cX9_keep 2 (Option.some .int) 1 := ⟨kCD_X9_keep, kIM_X9_keep, kSE_X9_keep, kIN_X9, by decide +kernel⟩
theorem cal_X9_back : CalV yX9_back cX9_back 2 (Option.some .int) 1 := ⟨kCD_X9_back, kIM_X9_back, kSE_X9_back, kIN_X9, by decide +kernel⟩
theorem cal_X9_caught : CalV yX9_caught cX9_caught 3 (Option.some .int) 0 := ⟨kCD_X9_caught, kIM_X9_caught, kSE_X9_caught, kIN_X9, by decide +kernel⟩
theorem cal_X9_toldMany : CalV yX9_toldMany cX9_toldMany 3 (Option.some .int) 0 := ⟨kCD_X9_toldMany, kIM_X9_toldMany, kSE_X9_toldMany, kIN_X9, by decide +kernel⟩
theorem cal_X9_askAll : CalV yX9_askAll cX9_askAll 4 none 1 := ⟨kCD_X9_askAll, kIM_X9_askAll, kSE_X9_askAll, kIN_X9, by decide +kernel⟩
theorem cal_X9_bestOf : CalV yX9_bestOf cX9_bestOf 7 (Option.some .int) 1 := ⟨kCD_X9_bestOf, kIM_X9_bestOf, kSE_X9_bestOf, kIN_X9, by decide +kernel⟩
theorem cal_X9_copyState : CalV yX9_copyState cX9_copyState 2 none 0 := ⟨kCD_X9_copyState, kIM_X9_copyState, kSE_X9_copyState, kIN_X9, by decide +kernel⟩
theorem cal_X9_heightIn : CalV yX9_heightIn cX9_heightIn 5 (Option.some .int) 2 := ⟨kCD_X9_heightIn, kIM_X9_heightIn, kSE_X9_heightIn, kIN_X9, by decide +kernel⟩
theorem cal_X9_best : CalV yX9_best cX9_best 3 (Option.some .int) 1 := ⟨kCD_X9_best, kIM_X9_best, kSE_X9_best, kIN_X9, by decide +kernel⟩
theorem cal_X9_allDay : CalV yX9_allDay cX9_allDay 3 (Option.some .int) 1 := ⟨kCD_X9_allDay, kIM_X9_allDay, kSE_X9_allDay, kIN_X9, by decide +kernel⟩
theorem cal_X9_laws : CalV yX9_laws cX9_laws 6 (Option.some .int) 1 := ⟨kCD_X9_laws, kIM_X9_laws, kSE_X9_laws, kIN_X9, by decide +kernel⟩
theorem cal_X9_part : CalS yX9_part cX9_part 11 (Option.some .long) 3 := ⟨kCD_X9_part, kST_X9_part, kIN_X9, by decide +kernel⟩
theorem cal_X9_food : CalV yX9_food cX9_food 17 (Option.some .long) 6 := ⟨kCD_X9_food, kIM_X9_food, kSE_X9_food, kIN_X9, by decide +kernel⟩
theorem cal_X9_cut : CalV yX9_cut cX9_cut 17 (Option.some .long) 5 := ⟨kCD_X9_cut, kIM_X9_cut, kSE_X9_cut, kIN_X9, by decide +kernel⟩
theorem cal_X9_share : CalV yX9_share cX9_share 10 (Option.some .int) 2 := ⟨kCD_X9_share, kIM_X9_share, kSE_X9_share, kIN_X9, by decide +kernel⟩
theorem cal_X9_count : CalV yX9_count cX9_count 2 (Option.some .int) 1 := ⟨kCD_X9_count, kIM_X9_count, kSE_X9_count, kIN_X9, by decide +kernel⟩
theorem cal_J9_max_7cf53 : CalS yJ9_max_7cf53 cJ9_max_7cf53 2 (Option.some .int) 2 := ⟨kCD_J9_max_7cf53, kST_J9_max_7cf53, kIN_J9, by decide +kernel⟩
theorem cal_J9_min_7cf53 : CalS yJ9_min_7cf53 cJ9_min_7cf53 2 (Option.some .int) 2 := ⟨kCD_J9_min_7cf53, kST_J9_min_7cf53, kIN_J9, by decide +kernel⟩
theorem cal_J0_length_8abf5 : CalV yJ0_length_8abf5 cJ0_length_8abf5 1 (Option.some .int) 0 := ⟨kCD_J0_length_8abf5, kIM_J0_length_8abf5, kSE_J0_length_8abf5, kIN_J0, by decide +kernel⟩
theorem cal_J0_charAt_5068e : CalV yJ0_charAt_5068e cJ0_charAt_5068e 2 (Option.some .char) 1 := ⟨kCD_J0_charAt_5068e, kIM_J0_charAt_5068e, kSE_J0_charAt_5068e, kIN_J0, by decide +kernel⟩
theorem cal_J0_coder_7d493 : CalV yJ0_coder_7d493 cJ0_coder_7d493 1 (Option.some .byte) 0 := ⟨kCD_J0_coder_7d493, kIM_J0_coder_7d493, kSE_J0_coder_7d493, kIN_J0, by decide +kernel⟩
theorem cal_J0_isLatin1_aae02 : CalV yJ0_isLatin1_aae02 cJ0_isLatin1_aae02 1 (Option.some .boolean) 0 := ⟨kCD_J0_isLatin1_aae02, kIM_J0_isLatin1_aae02, kSE_J0_isLatin1_aae02, kIN_J0, by decide +kernel⟩
theorem cal_J0_checkIndex_df160 : CalS yJ0_checkIndex_df160 cJ0_checkIndex_df160 2 none 2 := ⟨kCD_J0_checkIndex_df160, kST_J0_checkIndex_df160, kIN_J0, by decide +kernel⟩
theorem cal_J1_charAt_3b067 : CalS yJ1_charAt_3b067 cJ1_charAt_3b067 2 (Option.some .char) 2 := ⟨kCD_J1_charAt_3b067, kST_J1_charAt_3b067, kIN_J1, by decide +kernel⟩
theorem cal_J2_getChar_3b067 : CalS yJ2_getChar_3b067 cJ2_getChar_3b067 2 (Option.some .char) 2 := ⟨kCD_J2_getChar_3b067, kST_J2_getChar_3b067, kIN_J2, by decide +kernel⟩
theorem cal_J2_length_9d52b : CalS yJ2_length_9d52b cJ2_length_9d52b 1 (Option.some .int) 1 := ⟨kCD_J2_length_9d52b, kST_J2_length_9d52b, kIN_J2, by decide +kernel⟩
theorem cal_J2_charAt_3b067 : CalS yJ2_charAt_3b067 cJ2_charAt_3b067 2 (Option.some .char) 2 := ⟨kCD_J2_charAt_3b067, kST_J2_charAt_3b067, kIN_J2, by decide +kernel⟩
theorem cal_J2_checkIndex_2214a : CalS yJ2_checkIndex_2214a cJ2_checkIndex_2214a 2 none 2 := ⟨kCD_J2_checkIndex_2214a, kST_J2_checkIndex_2214a, kIN_J2, by decide +kernel⟩
theorem cal_J7_fill_d0a16 : CalS yJ7_fill_d0a16 cJ7_fill_d0a16 5 none 2 := ⟨kCD_J7_fill_d0a16, kST_J7_fill_d0a16, kIN_J7, by decide +kernel⟩
theorem cal_J7_fill_53178 : CalS yJ7_fill_53178 cJ7_fill_53178 4 none 2 := ⟨kCD_J7_fill_53178, kST_J7_fill_53178, kIN_J7, by decide +kernel⟩
theorem cal_J3_checkIndex_8e157 : CalS yJ3_checkIndex_8e157 cJ3_checkIndex_8e157 3 (Option.some .int) 3 := ⟨kCD_J3_checkIndex_8e157, kST_J3_checkIndex_8e157, kIN_J3, by decide +kernel⟩
