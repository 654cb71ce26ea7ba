/-! ===== pure part: numbers ===== -/
noncomputable def bI (p : Prop) : Int32 := @ite Int32 p (Classical.propDecidable p) (nI 1) (nI 0)
theorem bI_t {p : Prop} (h : p) : bI p = nI 1 := by unfold bI; rw [if_pos h]
theorem bI_f {p : Prop} (h : ¬ p) : bI p = nI 0 := by unfold bI; rw [if_neg h]
theorem n10 : ¬ nI 1 = nI 0 := by decide
theorem n01 : ¬ nI 0 = nI 1 := by decide
theorem bI_0 {p : Prop} : bI p = nI 0 ↔ ¬ p := by
  by_cases h : p
  · rw [bI_t h]; simp [h, n10]
  · rw [bI_f h]; simp [h]
theorem bI_1 {p : Prop} : bI p = nI 1 ↔ p := by
  by_cases h : p
  · rw [bI_t h]; simp [h]
  · rw [bI_f h]; simp [h, n01]
theorem bI_c {p q : Prop} (h : p ↔ q) : bI p = bI q := by rw [propext h]
/-- a branch of which both roads are known -/
theorem q_if {c A B : Prop} {P : Int32 → Prop} {x y : Int32} (h1 : A ↔ P x) (h2 : B ↔ P y) : ((c → A) ∧ (¬ c → B)) ↔ P (@ite Int32 c (Classical.propDecidable c) x y) := by
  by_cases h : c
  · rw [if_pos h, ← h1]; simp [h]
  · rw [if_neg h, ← h2]; simp [h]
theorem and_if {c A B : Prop} (h : c) : ((c → A) ∧ (¬ c → B)) ↔ A := by simp [h]
theorem and_nif {c A B : Prop} (h : ¬ c) : ((c → A) ∧ (¬ c → B)) ↔ B := by simp [h]
theorem and_t {c A : Prop} (h : c) : (c ∧ A) ↔ A := by simp [h]
theorem all_eq {α : Sort _} {e : α} {P : α → Prop} : (∀ x, x = e → P x) ↔ P e := ⟨fun h => h e rfl, fun h x hx => hx ▸ h⟩
theorem nI_nlt0 (n : Nat) (h : n < 2 ^ 31) : ¬ nI n < nI 0 := nI_pos h
theorem tI_lt (a b : Int32) : a < b ↔ a.toInt < b.toInt := Int32.lt_iff_toInt_lt
theorem tI_le (a b : Int32) : a ≤ b ↔ a.toInt ≤ b.toInt := Int32.le_iff_toInt_le
theorem tI_eq (a b : Int32) : a = b ↔ a.toInt = b.toInt := Int32.toInt_inj.symm
theorem tI_add {a b : Int32} (h1 : -2147483648 ≤ a.toInt + b.toInt) (h2 : a.toInt + b.toInt < 2147483648) : (a + b).toInt = a.toInt + b.toInt := by
  rw [Int32.toInt_add]
  exact Int.bmod_eq_of_le (by omega) (by omega)
theorem tI_sub {a b : Int32} (h1 : -2147483648 ≤ a.toInt - b.toInt) (h2 : a.toInt - b.toInt < 2147483648) : (a - b).toInt = a.toInt - b.toInt := by
  rw [Int32.toInt_sub]
  exact Int.bmod_eq_of_le (by omega) (by omega)
theorem tI_mul {a b : Int32} (h1 : -2147483648 ≤ a.toInt * b.toInt) (h2 : a.toInt * b.toInt < 2147483648) : (a * b).toInt = a.toInt * b.toInt := by
  rw [Int32.toInt_mul]
  exact Int.bmod_eq_of_le (by omega) (by omega)
theorem tI_rng (a : Int32) : -2147483648 ≤ a.toInt ∧ a.toInt < 2147483648 := by
  have h1 := Int32.le_toInt a
  have h2 := Int32.toInt_lt a
  omega
/-- an Int32 between 0 and n is some nI -/
theorem nI_ex {x : Int32} {n : Nat} (h0 : 0 ≤ x.toInt) (h1 : x.toInt < n) (hn : n < 2 ^ 31) : ∃ j, j < n ∧ x = nI j :=
  ⟨x.toInt.toNat, by omega, by rw [tI_eq, nI_toInt (by omega)]; omega⟩
/-! bits -/
theorem bt_sm : ∀ n, n < 32 → ((nI n &&& 31).toBitVec.smod 32).toNat = n := by decide +kernel
abbrev hasB (x : Int32) (k : Nat) : Prop := ((x >>> (nI k &&& 31)) &&& nI 1) = nI 1
theorem hasB_nI {n k : Nat} (hn : n < 2 ^ 31) (hk : k < 32) : hasB (nI n) k ↔ n.testBit k = true := by
  show ((nI n >>> (nI k &&& 31)) &&& nI 1) = nI 1 ↔ _
  rw [pk_shrN hn _ k (bt_sm k hk), pk_andN (Nat.lt_of_le_of_lt (Nat.div_le_self _ _) (by omega)) 1 rfl]
  rw [nI_eq (by omega) (by omega), Nat.testBit_eq_decide_div_mod_eq, decide_eq_true_eq, Nat.pow_one]
theorem shl1 : ∀ k, k < 31 → nI 1 <<< (nI k &&& 31) = nI (2 ^ k) := by decide +kernel
theorem nI_or (a b : Nat) : nI a ||| nI b = nI (a ||| b) := by
  apply Int32.toBitVec_inj.mp
  show (BitVec.ofNat 32 a ||| BitVec.ofNat 32 b) = BitVec.ofNat 32 (a ||| b)
  rw [BitVec.ofNat_or]
theorem nI_and (a b : Nat) : nI a &&& nI b = nI (a &&& b) := by
  apply Int32.toBitVec_inj.mp
  show (BitVec.ofNat 32 a &&& BitVec.ofNat 32 b) = BitVec.ofNat 32 (a &&& b)
  rw [BitVec.ofNat_and]
/-! reading what is written -/
theorem sI_1 (S : St) (c k : Nat) (v : Int32) (a b : Nat) : (sI S c k v).1 a b = if a = c then (if b = k then v else S.1 c b) else S.1 a b := by
  unfold sI sF va_up upd
  by_cases h : a = c
  · simp [h]
  · simp [h]
theorem sI_2 (S : St) (c k : Nat) (v : Int32) : (sI S c k v).2 = S.2 := rfl
theorem sF_r (S : St) (c : Nat) (f : Nat → Int32) (a b : Nat) : (sF S c f).1 a b = if a = c then f b else S.1 a b := by
  unfold sF va_up
  by_cases h : a = c
  · simp [h]
  · simp [h]
theorem sI_ne (S : St) (c k : Nat) (v : Int32) {a : Nat} (h : a ≠ c) : (sI S c k v).1 a = S.1 a := sF_1 a h
theorem sF_ne (S : St) (c : Nat) (f : Nat → Int32) {a : Nat} (h : a ≠ c) : (sF S c f).1 a = S.1 a := sF_1 a h
/-! numbers as simp takes them -/
theorem vin (n N : Nat) (hn : n < 2 ^ 31) : vp_in (nI n) N ↔ n < N := by
  rw [vp_in_iff, nI_toInt hn]; omega
theorem ncl (n : Nat) (hn : n < 2 ^ 31) : (nI n).toNatClampNeg = n := nI_clamp hn
theorem nle (a b : Nat) (ha : a < 2 ^ 31) (hb : b < 2 ^ 31) : nI a ≤ nI b ↔ a ≤ b := nI_leI ha hb
theorem nlt (a b : Nat) (ha : a < 2 ^ 31) (hb : b < 2 ^ 31) : nI a < nI b ↔ a < b := nI_ltI ha hb
theorem neq (a b : Nat) (ha : a < 2 ^ 31) (hb : b < 2 ^ 31) : nI a = nI b ↔ a = b := nI_eq ha hb
theorem sF_self (S : St) (c : Nat) (f : Nat → Int32) : (sF S c f).1 c = f := va_up_self _ _ _
theorem sF_sF (S : St) (c : Nat) (f g : Nat → Int32) : sF (sF S c f) c g = sF S c g := by
  unfold sF; congr 1; funext j; unfold va_up; by_cases h : j = c <;> simp [h]
theorem sI_sF (S : St) (c k : Nat) (f : Nat → Int32) (v : Int32) : sI (sF S c f) c k v = sF S c (upd f k v) := by
  unfold sI; rw [sF_self, sF_sF]
theorem sF_id (S : St) (c : Nat) : sF S c (S.1 c) = S := by
  unfold sF; refine Prod.ext ?_ rfl; funext j; unfold va_up; by_cases h : j = c <;> simp [h]
theorem all_eqS {e : St} {P : St → Prop} : (∀ x, x = e → P x) ↔ P e := all_eq
theorem nI_p {n : Nat} (h : n < 2 ^ 31) : ¬ nI n < nI 0 := nI_pos h
theorem ixN (x : Int32) {n : Nat} (hn : n < 2 ^ 31) : x < nI 0 ∨ nI n ≤ x ∨ ∃ j : Nat, j < n ∧ x = nI j := pk_ix x hn
