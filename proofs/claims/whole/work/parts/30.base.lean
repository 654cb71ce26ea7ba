/-! ===== pure part: numbers ===== -/
noncomputable def bI (p : Prop) : Int32 := @ite Int32 p (Classical.propDecidable p) 1 0
theorem bI_t {p : Prop} (h : p) : bI p = 1 := by unfold bI; rw [if_pos h]
theorem bI_f {p : Prop} (h : ¬ p) : bI p = 0 := by unfold bI; rw [if_neg h]
theorem bI_0 {p : Prop} : bI p = 0 ↔ ¬ p := by
  by_cases h : p
  · rw [bI_t h]; simp [h]
  · rw [bI_f h]; simp [h]
theorem bI_1 {p : Prop} : bI p = 1 ↔ p := by
  by_cases h : p
  · rw [bI_t h]; simp [h]
  · rw [bI_f h]; simp [h]
theorem bI_c {p q : Prop} (h : p ↔ q) : bI p = bI q := by rw [propext h]
/-- a branch of which both roads are known -/
theorem q_if {c A B : Prop} {P : Int32 → Prop} {x y : Int32} (h1 : A ↔ P x) (h2 : B ↔ P y) : ((c → A) ∧ (¬ c → B)) ↔ P (@ite Int32 c (Classical.propDecidable c) x y) := by
  by_cases h : c
  · rw [if_pos h, ← h1]; simp [h]
  · rw [if_neg h, ← h2]; simp [h]
theorem and_if {c A B : Prop} (h : c) : ((c → A) ∧ (¬ c → B)) ↔ A := by simp [h]
theorem and_nif {c A B : Prop} (h : ¬ c) : ((c → A) ∧ (¬ c → B)) ↔ B := by simp [h]
theorem and_t {c A : Prop} (h : c) : (c ∧ A) ↔ A := by simp [h]
theorem all_eq {α : Sort _} {e : α} {P : α → Prop} : (∀ x, x = e → P x) ↔ P e := ⟨fun h => h e rfl, fun h x hx => hx ▸ h⟩
theorem nI_nlt0 (n : Nat) (h : n < 2 ^ 31) : ¬ nI n < 0 := nI_pos h
theorem tI_lt (a b : Int32) : a < b ↔ a.toInt < b.toInt := Int32.lt_iff_toInt_lt
theorem tI_le (a b : Int32) : a ≤ b ↔ a.toInt ≤ b.toInt := Int32.le_iff_toInt_le
theorem tI_eq (a b : Int32) : a = b ↔ a.toInt = b.toInt := Int32.toInt_inj.symm
theorem tI_add {a b : Int32} (h1 : -2147483648 ≤ a.toInt + b.toInt) (h2 : a.toInt + b.toInt < 2147483648) : (a + b).toInt = a.toInt + b.toInt := by
  rw [Int32.toInt_add]
  exact Int.bmod_eq_of_le (by omega) (by omega)
theorem tI_sub {a b : Int32} (h1 : -2147483648 ≤ a.toInt - b.toInt) (h2 : a.toInt - b.toInt < 2147483648) : (a - b).toInt = a.toInt - b.toInt := by
  rw [Int32.toInt_sub]
  exact Int.bmod_eq_of_le (by omega) (by omega)
theorem tI_mul {a b : Int32} (h1 : -2147483648 ≤ a.toInt * b.toInt) (h2 : a.toInt * b.toInt < 2147483648) : (a * b).toInt = a.toInt * b.toInt := by
  rw [Int32.toInt_mul]
  exact Int.bmod_eq_of_le (by omega) (by omega)
theorem tI_rng (a : Int32) : -2147483648 ≤ a.toInt ∧ a.toInt < 2147483648 := by
  have h1 := Int32.le_toInt a
  have h2 := Int32.toInt_lt a
  omega
/-- an Int32 between 0 and n is some nI -/
theorem nI_ex {x : Int32} {n : Nat} (h0 : 0 ≤ x.toInt) (h1 : x.toInt < n) (hn : n < 2 ^ 31) : ∃ j, j < n ∧ x = nI j :=
  ⟨x.toInt.toNat, by omega, by rw [tI_eq, nI_toInt (by omega)]; omega⟩
/-! bits -/
theorem bt_sm : ∀ n, n < 32 → ((nI n &&& 31).toBitVec.smod 32).toNat = n := by decide +kernel
abbrev hasB (x : Int32) (k : Nat) : Prop := ((x >>> (nI k &&& 31)) &&& (1 : Int32)) = (1 : Int32)
theorem hasB_nI {n k : Nat} (hn : n < 2 ^ 31) (hk : k < 32) : hasB (nI n) k ↔ n.testBit k = true := by
  show ((nI n >>> (nI k &&& 31)) &&& (1 : Int32)) = (1 : Int32) ↔ _
  rw [pk_shrN hn _ k (bt_sm k hk), pk_andN (Nat.lt_of_le_of_lt (Nat.div_le_self _ _) (by omega)) 1 rfl]
  rw [show (1 : Int32) = nI 1 from rfl, nI_eq (by omega) (by omega), Nat.testBit_eq_decide_div_mod_eq, decide_eq_true_eq, Nat.pow_one]
theorem shl1 : ∀ k, k < 31 → (1 : Int32) <<< (nI k &&& 31) = nI (2 ^ k) := by decide +kernel
theorem nI_or (a b : Nat) : nI a ||| nI b = nI (a ||| b) := by
  apply Int32.toBitVec_inj.mp
  show (BitVec.ofNat 32 a ||| BitVec.ofNat 32 b) = BitVec.ofNat 32 (a ||| b)
  rw [BitVec.ofNat_or]
theorem nI_and (a b : Nat) : nI a &&& nI b = nI (a &&& b) := by
  apply Int32.toBitVec_inj.mp
  show (BitVec.ofNat 32 a &&& BitVec.ofNat 32 b) = BitVec.ofNat 32 (a &&& b)
  rw [BitVec.ofNat_and]
/-! reading what is written -/
theorem sI_1 (S : St) (c k : Nat) (v : Int32) (a b : Nat) : (sI S c k v).1 a b = if a = c then (if b = k then v else S.1 c b) else S.1 a b := by
  unfold sI sF va_up upd
  by_cases h : a = c
  · simp [h]
  · simp [h]
theorem sI_2 (S : St) (c k : Nat) (v : Int32) : (sI S c k v).2 = S.2 := rfl
theorem sF_r (S : St) (c : Nat) (f : Nat → Int32) (a b : Nat) : (sF S c f).1 a b = if a = c then f b else S.1 a b := by
  unfold sF va_up
  by_cases h : a = c
  · simp [h]
  · simp [h]
theorem sI_ne (S : St) (c k : Nat) (v : Int32) {a : Nat} (h : a ≠ c) : (sI S c k v).1 a = S.1 a := sF_1 a h
theorem sF_ne (S : St) (c : Nat) (f : Nat → Int32) {a : Nat} (h : a ≠ c) : (sF S c f).1 a = S.1 a := sF_1 a h
theorem n1 {j : Nat} (h : j < 1) : ¬ (1 : Int32) ≤ nI j := nI_ge (b := 1) h (by omega)
theorem n2 {j : Nat} (h : j < 2) : ¬ (2 : Int32) ≤ nI j := nI_ge (b := 2) h (by omega)
theorem n3 {j : Nat} (h : j < 3) : ¬ (3 : Int32) ≤ nI j := nI_ge (b := 3) h (by omega)
theorem n4 {j : Nat} (h : j < 4) : ¬ (4 : Int32) ≤ nI j := nI_ge (b := 4) h (by omega)
theorem n5 {j : Nat} (h : j < 5) : ¬ (5 : Int32) ≤ nI j := nI_ge (b := 5) h (by omega)
theorem n6 {j : Nat} (h : j < 6) : ¬ (6 : Int32) ≤ nI j := nI_ge (b := 6) h (by omega)
theorem n7 {j : Nat} (h : j < 7) : ¬ (7 : Int32) ≤ nI j := nI_ge (b := 7) h (by omega)
theorem n10 {j : Nat} (h : j < 10) : ¬ (10 : Int32) ≤ nI j := nI_ge (b := 10) h (by omega)
theorem n12 {j : Nat} (h : j < 12) : ¬ (12 : Int32) ≤ nI j := nI_ge (b := 12) h (by omega)
theorem n24 {j : Nat} (h : j < 24) : ¬ (24 : Int32) ≤ nI j := nI_ge (b := 24) h (by omega)
theorem n36 {j : Nat} (h : j < 36) : ¬ (36 : Int32) ≤ nI j := nI_ge (b := 36) h (by omega)
theorem n100 {j : Nat} (h : j < 100) : ¬ (100 : Int32) ≤ nI j := nI_ge (b := 100) h (by omega)
theorem n200 {j : Nat} (h : j < 200) : ¬ (200 : Int32) ≤ nI j := nI_ge (b := 200) h (by omega)
theorem n288 {j : Nat} (h : j < 288) : ¬ (288 : Int32) ≤ nI j := nI_ge (b := 288) h (by omega)
theorem n1000 {j : Nat} (h : j < 1000) : ¬ (1000 : Int32) ≤ nI j := nI_ge (b := 1000) h (by omega)
theorem n1197 {j : Nat} (h : j < 1197) : ¬ (1197 : Int32) ≤ nI j := nI_ge (b := 1197) h (by omega)
theorem n4096 {j : Nat} (h : j < 4096) : ¬ (4096 : Int32) ≤ nI j := nI_ge (b := 4096) h (by omega)
theorem y1 {j : Nat} (h : 1 ≤ j) (h2 : j < 2 ^ 31) : (1 : Int32) ≤ nI j := nI_le (a := 1) h h2
theorem y2 {j : Nat} (h : 2 ≤ j) (h2 : j < 2 ^ 31) : (2 : Int32) ≤ nI j := nI_le (a := 2) h h2
theorem y3 {j : Nat} (h : 3 ≤ j) (h2 : j < 2 ^ 31) : (3 : Int32) ≤ nI j := nI_le (a := 3) h h2
theorem y4 {j : Nat} (h : 4 ≤ j) (h2 : j < 2 ^ 31) : (4 : Int32) ≤ nI j := nI_le (a := 4) h h2
theorem y5 {j : Nat} (h : 5 ≤ j) (h2 : j < 2 ^ 31) : (5 : Int32) ≤ nI j := nI_le (a := 5) h h2
theorem y6 {j : Nat} (h : 6 ≤ j) (h2 : j < 2 ^ 31) : (6 : Int32) ≤ nI j := nI_le (a := 6) h h2
theorem y7 {j : Nat} (h : 7 ≤ j) (h2 : j < 2 ^ 31) : (7 : Int32) ≤ nI j := nI_le (a := 7) h h2
theorem y10 {j : Nat} (h : 10 ≤ j) (h2 : j < 2 ^ 31) : (10 : Int32) ≤ nI j := nI_le (a := 10) h h2
theorem y12 {j : Nat} (h : 12 ≤ j) (h2 : j < 2 ^ 31) : (12 : Int32) ≤ nI j := nI_le (a := 12) h h2
theorem y24 {j : Nat} (h : 24 ≤ j) (h2 : j < 2 ^ 31) : (24 : Int32) ≤ nI j := nI_le (a := 24) h h2
theorem y36 {j : Nat} (h : 36 ≤ j) (h2 : j < 2 ^ 31) : (36 : Int32) ≤ nI j := nI_le (a := 36) h h2
theorem y100 {j : Nat} (h : 100 ≤ j) (h2 : j < 2 ^ 31) : (100 : Int32) ≤ nI j := nI_le (a := 100) h h2
theorem y200 {j : Nat} (h : 200 ≤ j) (h2 : j < 2 ^ 31) : (200 : Int32) ≤ nI j := nI_le (a := 200) h h2
theorem y288 {j : Nat} (h : 288 ≤ j) (h2 : j < 2 ^ 31) : (288 : Int32) ≤ nI j := nI_le (a := 288) h h2
theorem y1000 {j : Nat} (h : 1000 ≤ j) (h2 : j < 2 ^ 31) : (1000 : Int32) ≤ nI j := nI_le (a := 1000) h h2
theorem y1197 {j : Nat} (h : 1197 ≤ j) (h2 : j < 2 ^ 31) : (1197 : Int32) ≤ nI j := nI_le (a := 1197) h h2
theorem y4096 {j : Nat} (h : 4096 ≤ j) (h2 : j < 2 ^ 31) : (4096 : Int32) ≤ nI j := nI_le (a := 4096) h h2
