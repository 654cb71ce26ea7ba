/-! ===== sums over sets; greatest common parts ===== -/
def sN (g : Nat → Nat) : Nat → Nat
  | 0 => 0
  | n + 1 => sN g n + g n
theorem sN_c {g h : Nat → Nat} : ∀ n, (∀ i, i < n → g i = h i) → sN g n = sN h n := by
  intro n
  induction n with
  | zero => intro _; rfl
  | succ n ih =>
    intro e
    show sN g n + g n = sN h n + h n
    rw [ih (fun i hi => e i (by omega)), e n (by omega)]
theorem sN_le {g h : Nat → Nat} : ∀ n, (∀ i, i < n → g i ≤ h i) → sN g n ≤ sN h n := by
  intro n
  induction n with
  | zero => intro _; exact Nat.le_refl _
  | succ n ih =>
    intro e
    have h1 := ih (fun i hi => e i (by omega))
    have h2 := e n (by omega)
    show sN g n + g n ≤ sN h n + h n
    omega
theorem sN_z {g : Nat → Nat} : ∀ n, (∀ i, i < n → g i = 0) → sN g n = 0 := by
  intro n
  induction n with
  | zero => intro _; rfl
  | succ n ih =>
    intro e
    show sN g n + g n = 0
    rw [ih (fun i hi => e i (by omega)), e n (by omega)]
theorem sN_split {g : Nat → Nat} (a : Nat) : ∀ b, sN g (a + b) = sN g a + sN (fun i => g (a + i)) b := by
  intro b
  induction b with
  | zero => rfl
  | succ b ih =>
    show sN g (a + b) + g (a + b) = sN g a + (sN (fun i => g (a + i)) b + g (a + b))
    rw [ih]; omega
theorem sN_mul {g : Nat → Nat} (a : Nat) : ∀ n, sN (fun i => g i * a) n = sN g n * a := by
  intro n
  induction n with
  | zero => show 0 = 0 * a; omega
  | succ n ih =>
    show sN (fun i => g i * a) n + g n * a = (sN g n + g n) * a
    rw [ih, Nat.add_mul]
theorem sN_add {g h : Nat → Nat} : ∀ n, sN (fun i => g i + h i) n = sN g n + sN h n := by
  intro n
  induction n with
  | zero => rfl
  | succ n ih =>
    show sN (fun i => g i + h i) n + (g n + h n) = sN g n + g n + (sN h n + h n)
    rw [ih]; omega
theorem sN_swap {g : Nat → Nat → Nat} (m : Nat) : ∀ n, sN (fun i => sN (fun j => g i j) m) n = sN (fun j => sN (fun i => g i j) n) m := by
  intro n
  induction n with
  | zero => exact (sN_z m (fun i _ => rfl)).symm
  | succ n ih =>
    show sN (fun i => sN (fun j => g i j) m) n + sN (fun j => g n j) m = sN (fun j => sN (fun i => g i j) n + g n j) m
    rw [ih, sN_add]
theorem sN_one {g : Nat → Nat} {k : Nat} : ∀ n, k < n → (∀ i, i < n → i ≠ k → g i = 0) → sN g n = g k := by
  intro n
  induction n with
  | zero => intro h; omega
  | succ n ih =>
    intro hk e
    show sN g n + g n = g k
    by_cases c : k = n
    · rw [sN_z n (fun i hi => e i (by omega) (by omega)), c]; omega
    · rw [ih (by omega) (fun i hi hn => e i (by omega) hn), e n (by omega) (by omega)]; omega
/-! a walk by the bits of a set -/
def stS (F : Nat → Bool → Int → Int) (s0 : Int) (set : Nat) : Nat → Int
  | 0 => s0
  | d + 1 => F d (set.testBit d) (stS F s0 set d)
def rvS (p q : Nat) (set : Nat) : Nat → Nat
  | 0 => 1
  | d + 1 => rvS p q set d * (if set.testBit d = true then p else q)
def AA (F : Nat → Bool → Int → Int) (s0 : Int) (p q d : Nat) (x : Int) : Nat := sN (fun set => if stS F s0 set d = x then rvS p q set d else 0) (2 ^ d)
section WK
variable {F : Nat → Bool → Int → Int} {s0 : Int} {p q : Nat}
theorem stS_hi {d set : Nat} : ∀ j, j ≤ d → stS F s0 (2 ^ d + set) j = stS F s0 set j := by
  intro j
  induction j with
  | zero => intro _; rfl
  | succ j ih =>
    intro hj
    show F j ((2 ^ d + set).testBit j) (stS F s0 (2 ^ d + set) j) = F j (set.testBit j) (stS F s0 set j)
    rw [ih (by omega), Nat.testBit_two_pow_add_gt (by omega)]
theorem rvS_hi {d set : Nat} : ∀ j, j ≤ d → rvS p q (2 ^ d + set) j = rvS p q set j := by
  intro j
  induction j with
  | zero => intro _; rfl
  | succ j ih =>
    intro hj
    show rvS p q (2 ^ d + set) j * (if (2 ^ d + set).testBit j = true then p else q) = rvS p q set j * (if set.testBit j = true then p else q)
    rw [ih (by omega), Nat.testBit_two_pow_add_gt (by omega)]
theorem bit_lo {d set : Nat} (h : set < 2 ^ d) : set.testBit d = false := Nat.testBit_lt_two_pow h
theorem bit_hi {d set : Nat} (h : set < 2 ^ d) : (2 ^ d + set).testBit d = true := by rw [Nat.testBit_two_pow_add_eq, bit_lo h]; rfl
theorem two_s (d : Nat) : 2 ^ (d + 1) = 2 ^ d + 2 ^ d := by rw [Nat.pow_succ]; omega
theorem AA_s (d : Nat) (x : Int) : AA F s0 p q (d + 1) x = sN (fun set => if F d false (stS F s0 set d) = x then rvS p q set d * q else 0) (2 ^ d) + sN (fun set => if F d true (stS F s0 set d) = x then rvS p q set d * p else 0) (2 ^ d) := by
  unfold AA
  rw [two_s, sN_split]
  congr 1
  · refine sN_c _ (fun set hs => ?_)
    show (if F d (set.testBit d) (stS F s0 set d) = x then rvS p q set d * (if set.testBit d = true then p else q) else 0) = _
    rw [bit_lo hs, if_neg (show ¬ (false = true) by decide)]
  · refine sN_c _ (fun set hs => ?_)
    show (if F d ((2 ^ d + set).testBit d) (stS F s0 (2 ^ d + set) d) = x then rvS p q (2 ^ d + set) d * (if (2 ^ d + set).testBit d = true then p else q) else 0) = _
    rw [bit_hi hs, if_pos rfl, stS_hi d (Nat.le_refl _), rvS_hi d (Nat.le_refl _)]
theorem rv_all (d : Nat) : sN (fun set => rvS p q set d) (2 ^ d) = (p + q) ^ d := by
  induction d with
  | zero => rfl
  | succ d ih =>
    rw [two_s, sN_split, Nat.pow_succ, ← ih]
    have e1 : sN (fun set => rvS p q set (d + 1)) (2 ^ d) = sN (fun set => rvS p q set d) (2 ^ d) * q := by
      rw [← sN_mul]
      refine sN_c _ (fun set hs => ?_)
      show rvS p q set d * (if set.testBit d = true then p else q) = _
      rw [bit_lo hs, if_neg (show ¬ (false = true) by decide)]
    have e2 : sN (fun i => rvS p q (2 ^ d + i) (d + 1)) (2 ^ d) = sN (fun set => rvS p q set d) (2 ^ d) * p := by
      rw [← sN_mul]
      refine sN_c _ (fun set hs => ?_)
      show rvS p q (2 ^ d + set) d * (if (2 ^ d + set).testBit d = true then p else q) = _
      rw [bit_hi hs, if_pos rfl, rvS_hi d (Nat.le_refl _)]
    rw [e1, e2, Nat.mul_add]
    omega
/-- what is summed over sets is summed over where the walks end -/
theorem tot {φ : Int → Prop} [DecidablePred φ] {d m : Nat} {b : Int} (h : ∀ set, set < 2 ^ d → φ (stS F s0 set d) → b ≤ stS F s0 set d ∧ stS F s0 set d < b + m) :
    sN (fun set => if φ (stS F s0 set d) then rvS p q set d else 0) (2 ^ d) = sN (fun j => if φ (b + j) then AA F s0 p q d (b + j) else 0) m := by
  have e1 : sN (fun set => if φ (stS F s0 set d) then rvS p q set d else 0) (2 ^ d) = sN (fun set => sN (fun j => if φ (b + j) then (if stS F s0 set d = b + j then rvS p q set d else 0) else 0) m) (2 ^ d) := by
    refine sN_c _ (fun set hs => ?_)
    show (if φ (stS F s0 set d) then rvS p q set d else 0) = sN (fun j => if φ (b + j) then (if stS F s0 set d = b + j then rvS p q set d else 0) else 0) m
    by_cases c : φ (stS F s0 set d)
    · obtain ⟨h1, h2⟩ := h set hs c
      have ek : b + ((stS F s0 set d - b).toNat : Int) = stS F s0 set d := by omega
      rw [if_pos c, sN_one (k := (stS F s0 set d - b).toNat) m (by omega) (fun i hi hn => ?_)]
      · rw [ek, if_pos c, if_pos rfl]
      · by_cases c2 : φ (b + i)
        · rw [if_pos c2, if_neg (by omega)]
        · rw [if_neg c2]
    · rw [if_neg c, sN_z m (fun i hi => ?_)]
      by_cases c2 : φ (b + i)
      · rw [if_pos c2, if_neg (fun e => by rw [e] at c; exact c c2)]
      · rw [if_neg c2]
  rw [e1, sN_swap]
  refine sN_c _ (fun j hj => ?_)
  show sN (fun set => if φ (b + j) then (if stS F s0 set d = b + j then rvS p q set d else 0) else 0) (2 ^ d) = _
  by_cases c : φ (b + j)
  · rw [if_pos c]
    unfold AA
    refine sN_c _ (fun set hs => ?_)
    show (if φ (b + j) then (if stS F s0 set d = b + j then rvS p q set d else 0) else 0) = _
    rw [if_pos c]
  · rw [if_neg c]
    refine sN_z _ (fun set hs => ?_)
    show (if φ (b + j) then (if stS F s0 set d = b + j then rvS p q set d else 0) else 0) = 0
    rw [if_neg c]
theorem tot_le {φ : Int → Prop} [DecidablePred φ] {d : Nat} : sN (fun set => if φ (stS F s0 set d) then rvS p q set d else 0) (2 ^ d) ≤ (p + q) ^ d := by
  rw [← rv_all]
  refine sN_le _ (fun set _ => ?_)
  show (if φ (stS F s0 set d) then rvS p q set d else 0) ≤ rvS p q set d
  by_cases c : φ (stS F s0 set d)
  · rw [if_pos c]; exact Nat.le_refl _
  · rw [if_neg c]; exact Nat.zero_le _
end WK
/-! longs -/
theorem lT {n : Nat} (h : n < 2 ^ 63) : (lN n).toInt = (n : Int) := lg_ofNat_toInt h
theorem l_eq {a b : Int64} : a = b ↔ a.toInt = b.toInt := Int64.toInt_inj.symm
theorem l_div {a b : Nat} (ha : a < 2 ^ 63) (h0 : 0 < b) (hb : b < 2 ^ 63) : lN a / lN b = lN (a / b) := by
  have hd := Nat.div_le_self a b
  rw [l_eq, lg_ldiv_nonneg (by rw [lT ha]; omega) (by rw [lT hb]; omega), lT ha, lT hb, lT (by omega)]
  rfl
theorem l_rem {a b : Nat} (ha : a < 2 ^ 63) (h0 : 0 < b) (hb : b < 2 ^ 63) : lN a - lN a / lN b * lN b = lN (a % b) := by
  have hd := Nat.div_add_mod a b
  have hc := Nat.mul_comm b (a / b)
  rw [l_div ha h0 hb, lN_mul, lN_sub (by omega)]
  congr 1
  omega
theorem l_0 {a : Nat} (ha : a < 2 ^ 63) : lN a = lN 0 ↔ a = 0 := by
  rw [l_eq, lT ha, lT (by omega)]; omega
theorem l_cmp0 {a : Nat} (ha : a < 2 ^ 63) : lg_cmp (lN a) (lN 0) = nI 0 ↔ a = 0 := by
  have h := lg_cmp_eq (lN a) (lN 0)
  rw [l_0 ha] at h
  exact h
theorem l_cmple {a : Nat} (ha : a < 2 ^ 63) : lg_cmp (lN a) (lN 0) ≤ nI 0 ↔ a = 0 := by
  have h := lg_cmp_le (lN a) (lN 0)
  rw [Int64.le_iff_toInt_le, lT ha, lT (by omega)] at h
  have h2 : lg_cmp (lN a) (lN 0) ≤ nI 0 ↔ ((a : Nat) : Int) ≤ ((0 : Nat) : Int) := h
  rw [h2]
  omega
theorem mod_half {x y j : Nat} (hy0 : 0 < y) (hy : y < 2 ^ (j + 1)) (hr : 0 < x % y) : y % (x % y) < 2 ^ j := by
  have h1 := Nat.mod_lt x hy0
  have h2 := Nat.mod_lt y hr
  have h3 := Nat.mod_add_div y (x % y)
  have h4 : x % y * 1 ≤ x % y * (y / (x % y)) := Nat.mul_le_mul_left _ (Nat.div_pos (by omega) hr)
  rw [Nat.pow_succ] at hy
  omega
def gTm (a3 : Int32) (u d g : Nat) : Int64 := if a3 = nI 0 then lN (u / g) else lN (d / g)
section GC
variable {S : St} {a3 : Int32} {u d : Nat} {K : Int64 → Prop}
theorem X_45 {g : Nat} (hu : u < 2 ^ 62) (hd : d < 2 ^ 62) (hg : 0 < g) (hg2 : g < 2 ^ 62) (hK : K (gTm a3 u d g)) : q_X8_lowestTerm_45 (lN u) (lN d) a3 S K (lN g) := by
  unfold q_X8_lowestTerm_45 q_X8_lowestTerm_55
  unfold gTm at hK
  rw [l_cmple (by omega)]
  refine ⟨fun c => ?_, fun c => ?_⟩
  · rw [and_nif (by omega), l_div (by omega) hg (by omega)]
    rw [if_pos c] at hK
    exact ⟨fun e => by rw [l_0 (by omega)] at e; omega, hK⟩
  · rw [and_nif (by omega), l_div (by omega) hg (by omega)]
    rw [if_neg c] at hK
    exact ⟨fun e => by rw [l_0 (by omega)] at e; omega, hK⟩
theorem X_low9 (hu : u < 2 ^ 62) (hd : d < 2 ^ 62) : ∀ (j x y i n : Nat), y < 2 ^ j → 0 < x → x < 2 ^ 62 → y < 2 ^ 62 → i + 2 * j < 1000 → 2 * j ≤ n → K (gTm a3 u d (Nat.gcd y x)) → q_X8_lowestTerm_9 (lN u) (lN d) a3 S K (n + 1) (lN x) (lN y) (nI i) := by
  have z : ∀ (x y i n : Nat), y = 0 → 0 < x → x < 2 ^ 62 → i < 1000 → K (gTm a3 u d (Nat.gcd y x)) → q_X8_lowestTerm_9 (lN u) (lN d) a3 S K (n + 1) (lN x) (lN y) (nI i) := fun x y i n hy hx hx2 hi hK => by
    rw [hy, Nat.gcd_zero_left] at hK
    rw [q_X8_lowestTerm_9_s, nle _ _ (by omega) (by omega), and_nif (by omega), l_cmp0 (by omega), and_if hy]
    exact X_45 hu hd hx hx2 hK
  have st : ∀ (x y i n : Nat), y ≠ 0 → x < 2 ^ 62 → y < 2 ^ 62 → i < 1000 → q_X8_lowestTerm_9 (lN u) (lN d) a3 S K n (lN y) (lN (x % y)) (nI (i + 1)) → q_X8_lowestTerm_9 (lN u) (lN d) a3 S K (n + 1) (lN x) (lN y) (nI i) := fun x y i n hy hx2 hy2 hi h => by
    rw [q_X8_lowestTerm_9_s, nle _ _ (by omega) (by omega), and_nif (by omega), l_cmp0 (by omega), and_nif hy, all_eq, all_eq, l_rem (by omega) (by omega) (by omega), nI_add]
    exact ⟨fun e => by rw [l_0 (by omega)] at e; omega, h⟩
  intro j
  induction j with
  | zero =>
    intro x y i n hy hx hx2 hy2 hi hn hK
    rw [Nat.pow_zero] at hy
    exact z x y i n (by omega) hx hx2 (by omega) hK
  | succ j ih =>
    intro x y i n hy hx hx2 hy2 hi hn hK
    by_cases c : y = 0
    · exact z x y i n c hx hx2 (by omega) hK
    · obtain ⟨n', rfl⟩ : ∃ n', n = n' + 1 + 1 := ⟨n - 2, by omega⟩
      rw [Nat.gcd_rec] at hK
      have hm := Nat.mod_lt x (show 0 < y by omega)
      refine st x y i _ c hx2 hy2 (by omega) ?_
      by_cases c2 : x % y = 0
      · exact z y (x % y) (i + 1) _ c2 (by omega) hy2 (by omega) hK
      · refine st y (x % y) (i + 1) _ c2 hy2 (by omega) (by omega) ?_
        rw [Nat.gcd_rec] at hK
        have hm2 := Nat.mod_lt y (show 0 < x % y by omega)
        exact ih (x % y) (y % (x % y)) (i + 2) n' (mod_half (by omega) hy (by omega)) (by omega) (by omega) (by omega) (by omega) (by omega) hK
theorem X_low (hu : u < 2 ^ 62) (hd0 : 0 < d) (hd : d < 2 ^ 62) (hK : K (gTm a3 u d (Nat.gcd u d))) : q_X8_lowestTerm S (lN u) (lN d) a3 K :=
  ⟨125, X_low9 hu hd 62 d u 0 124 hu hd0 hd hu (by omega) (by omega) hK⟩
theorem M_part6 (hu : u < 2 ^ 62) (hd : d < 2 ^ 62) : ∀ (j x y n : Nat), y < 2 ^ j → (0 < x ∨ 0 < y) → x < 2 ^ 62 → y < 2 ^ 62 → 2 * j ≤ n → K (gTm a3 u d (Nat.gcd y x)) → q_X9_part_6 (lN u) (lN d) a3 S K (n + 1) (lN x) (lN y) := by
  have z : ∀ (x y n : Nat), y = 0 → 0 < x → x < 2 ^ 62 → K (gTm a3 u d (Nat.gcd y x)) → q_X9_part_6 (lN u) (lN d) a3 S K (n + 1) (lN x) (lN y) := fun x y n hy hx hx2 hK => by
    rw [hy, Nat.gcd_zero_left] at hK
    unfold gTm at hK
    rw [q_X9_part_6_s, l_cmp0 (by omega), and_if hy, l_div (by omega) hx (by omega), l_div (by omega) hx (by omega)]
    refine ⟨fun c => ⟨fun e => by rw [l_0 (by omega)] at e; omega, ?_⟩, fun c => ⟨fun e => by rw [l_0 (by omega)] at e; omega, ?_⟩⟩
    · rw [if_pos c] at hK; exact hK
    · rw [if_neg c] at hK; exact hK
  have st : ∀ (x y n : Nat), y ≠ 0 → x < 2 ^ 62 → y < 2 ^ 62 → q_X9_part_6 (lN u) (lN d) a3 S K n (lN y) (lN (x % y)) → q_X9_part_6 (lN u) (lN d) a3 S K (n + 1) (lN x) (lN y) := fun x y n hy hx2 hy2 h => by
    rw [q_X9_part_6_s, l_cmp0 (by omega), and_nif hy, all_eq, l_rem (by omega) (by omega) (by omega)]
    exact ⟨fun e => by rw [l_0 (by omega)] at e; omega, h⟩
  intro j
  induction j with
  | zero =>
    intro x y n hy hx hx2 hy2 hn hK
    rw [Nat.pow_zero] at hy
    exact z x y n (by omega) (by omega) hx2 hK
  | succ j ih =>
    intro x y n hy hx hx2 hy2 hn hK
    by_cases c : y = 0
    · exact z x y n c (by omega) hx2 hK
    · obtain ⟨n', rfl⟩ : ∃ n', n = n' + 1 + 1 := ⟨n - 2, by omega⟩
      rw [Nat.gcd_rec] at hK
      have hm := Nat.mod_lt x (show 0 < y by omega)
      refine st x y _ c hx2 hy2 ?_
      by_cases c2 : x % y = 0
      · exact z y (x % y) _ c2 (by omega) hy2 hK
      · refine st y (x % y) _ c2 hy2 (by omega) ?_
        rw [Nat.gcd_rec] at hK
        have hm2 := Nat.mod_lt y (show 0 < x % y by omega)
        exact ih (x % y) (y % (x % y)) n' (mod_half (by omega) hy (by omega)) (by omega) (by omega) (by omega) (by omega) hK
theorem M_part (hu : u < 2 ^ 62) (hd0 : 0 < d) (hd : d < 2 ^ 62) (hK : K (gTm a3 u d (Nat.gcd u d))) : q_X9_part S (lN u) (lN d) a3 K :=
  ⟨125, M_part6 hu hd 62 u d 124 hd (Or.inr hd0) hu hd (by omega) (by rw [Nat.gcd_comm]; exact hK)⟩
end GC
theorem X_ten {S : St} {n : Nat} {K : Int64 → Prop} (hn : n ≤ 12) (hK : K (lN (10 ^ n))) : q_X8_tenToThe S (nI n) K := by
  have h : ∀ m i, i + m = n → q_X8_tenToThe_4 (nI n) S K (m + 1) (lN (10 ^ i)) (nI i) := by
    intro m
    induction m with
    | zero =>
      intro i hi
      rw [q_X8_tenToThe_4_s, nle _ _ (by omega) (by omega), and_if (by omega), show i = n by omega]
      exact hK
    | succ m ih =>
      intro i hi
      rw [q_X8_tenToThe_4_s, nle _ _ (by omega) (by omega), and_nif (by omega), all_eq, all_eq, lN_mul, nI_add, ← Nat.pow_succ]
      exact ih (i + 1) (by omega)
  exact ⟨n + 1, h n 0 (by omega)⟩
