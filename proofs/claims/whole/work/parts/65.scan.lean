/-! ===== the text: what both readers see ===== -/
def rn (c : Nat → Bool) (len : Nat) (B : Nat → Nat) : Nat → Nat → Nat
  | 0, i => i
  | n + 1, i => if i < len ∧ c (B i) = true then rn c len B n (i + 1) else i
def run (c : Nat → Bool) (len : Nat) (B : Nat → Nat) (i : Nat) : Nat := rn c len B (len - i) i
def cB (b : Nat) : Bool := decide (b = 32)
def cL (b : Nat) : Bool := decide (97 ≤ b ∧ b ≤ 122)
def cD (b : Nat) : Bool := decide (48 ≤ b ∧ b ≤ 57)
section SC
variable {c : Nat → Bool} {len : Nat} {B : Nat → Nat}
theorem run_t {i : Nat} (h1 : i < len) (h2 : c (B i) = true) : run c len B i = run c len B (i + 1) := by
  unfold run
  rw [show len - i = (len - (i + 1)) + 1 by omega]
  show (if i < len ∧ c (B i) = true then rn c len B (len - (i + 1)) (i + 1) else i) = _
  rw [if_pos ⟨h1, h2⟩]
theorem run_f {i : Nat} (h : ¬ (i < len ∧ c (B i) = true)) : run c len B i = i := by
  unfold run
  cases len - i with
  | zero => rfl
  | succ n =>
    show (if i < len ∧ c (B i) = true then rn c len B n (i + 1) else i) = i
    rw [if_neg h]
theorem run_le : ∀ n i, len - i = n → i ≤ len → i ≤ run c len B i ∧ run c len B i ≤ len := by
  intro n
  induction n with
  | zero => intro i hn hi; rw [run_f (by omega)]; omega
  | succ n ih =>
    intro i hn hi
    by_cases q : i < len ∧ c (B i) = true
    · have := ih (i + 1) (by omega) (by omega)
      rw [run_t q.1 q.2]
      omega
    · rw [run_f q]; omega
theorem run_ge {i : Nat} (h : i ≤ len) : i ≤ run c len B i := (run_le _ i rfl h).1
theorem run_len {i : Nat} (h : i ≤ len) : run c len B i ≤ len := (run_le _ i rfl h).2
theorem run_in : ∀ n i, len - i = n → i ≤ len → ∀ j, i ≤ j → j < run c len B i → c (B j) = true := by
  intro n
  induction n with
  | zero => intro i hn hi j h1 h2; rw [run_f (by omega)] at h2; omega
  | succ n ih =>
    intro i hn hi j h1 h2
    by_cases q : i < len ∧ c (B i) = true
    · rw [run_t q.1 q.2] at h2
      by_cases e : j = i
      · rw [e]; exact q.2
      · exact ih (i + 1) (by omega) (by omega) j (by omega) h2
    · rw [run_f q] at h2; omega
theorem run_end : ∀ n i, len - i = n → i ≤ len → ¬ (run c len B i < len ∧ c (B (run c len B i)) = true) := by
  intro n
  induction n with
  | zero => intro i hn hi; rw [run_f (by omega)]; omega
  | succ n ih =>
    intro i hn hi
    by_cases q : i < len ∧ c (B i) = true
    · rw [run_t q.1 q.2]; exact ih (i + 1) (by omega) (by omega)
    · rw [run_f q]; exact q
theorem run_mid {i j : Nat} (hi : i ≤ len) (h1 : i ≤ j) (h2 : j ≤ run c len B i) : run c len B j = run c len B i := by
  obtain ⟨n, hn⟩ : ∃ n, j = i + n := ⟨j - i, by omega⟩
  subst hn
  clear h1
  induction n with
  | zero => rfl
  | succ n ih =>
    have hle := run_len (c := c) (B := B) hi
    have h3 := run_in (c := c) (B := B) _ i rfl hi (i + n) (by omega) (by omega)
    have := ih (by omega)
    rw [run_t (show i + n < len by omega) h3] at this
    exact this
end SC
/-! words -/
def nmT : List (List Nat) := [[119, 105, 110, 100], [107, 105, 116, 101], [115, 104, 111, 97, 108], [108, 97, 119], [115, 116, 111, 99, 107], [102, 111, 103], [103, 117, 108, 108, 115], [99, 97, 108, 109], [108, 111, 115, 116]]
def nmL (w : Nat) : Nat := txL.getD w 0
def nmC (w i : Nat) : Nat := (nmT.getD w []).getD i 97
def spd (B : Nat → Nat) (w s e : Nat) : Prop := e - s = nmL w ∧ ∀ i, i < nmL w → B (s + i) = nmC w i
noncomputable def wdF (B : Nat → Nat) (s e : Nat) : Nat → Nat → Nat
  | 0, _ => 9
  | n + 1, w => @ite Nat (spd B w s e) (Classical.propDecidable _) w (wdF B s e n (w + 1))
theorem wdF_t {B : Nat → Nat} {s e n w : Nat} (h : spd B w s e) : wdF B s e (n + 1) w = w := if_pos h
theorem wdF_f {B : Nat → Nat} {s e n w : Nat} (h : ¬ spd B w s e) : wdF B s e (n + 1) w = wdF B s e n (w + 1) := if_neg h
theorem wdF_sp {B : Nat → Nat} {s e : Nat} : ∀ n w, w + n = 9 → wdF B s e n w < 9 → spd B (wdF B s e n w) s e := by
  intro n
  induction n with
  | zero => intro w _ h; exact absurd h (by show ¬ (9 < 9); omega)
  | succ n ih =>
    intro w hw h
    by_cases q : spd B w s e
    · rw [wdF_t q]; exact q
    · rw [wdF_f q] at h ⊢; exact ih (w + 1) (by omega) h
theorem wdF_no {B : Nat → Nat} {s e : Nat} : ∀ n w, w + n = 9 → ¬ wdF B s e n w < 9 → ∀ v, w ≤ v → v < 9 → ¬ spd B v s e := by
  intro n
  induction n with
  | zero => intro w hw _ v h1 h2; omega
  | succ n ih =>
    intro w hw h v h1 h2
    by_cases q : spd B w s e
    · rw [wdF_t q] at h; omega
    · rw [wdF_f q] at h
      by_cases e1 : v = w
      · rw [e1]; exact q
      · exact ih (w + 1) (by omega) h v (by omega) h2
theorem wdF_le {B : Nat → Nat} {s e : Nat} : ∀ n w, w + n = 9 → wdF B s e n w ≤ 9 := by
  intro n
  induction n with
  | zero => intro w _; exact Nat.le_refl _
  | succ n ih =>
    intro w hw
    by_cases q : spd B w s e
    · rw [wdF_t q]; omega
    · rw [wdF_f q]; exact ih (w + 1) (by omega)
noncomputable def wd (B : Nat → Nat) (s e : Nat) : Nat := wdF B s e 9 0
def cd (B : Nat → Nat) (s : Nat) : Nat → Nat
  | 0 => 0
  | n + 1 => 27 * cd B s n + (B (s + n) - 96)
def vw (w : Nat) : Nat → Nat
  | 0 => 0
  | n + 1 => 27 * vw w n + (nmC w n - 96)
theorem nmC_rg : ∀ w, w < 9 → ∀ i, i < 5 → 97 ≤ nmC w i ∧ nmC w i ≤ 122 := by decide +kernel
theorem nmL_le : ∀ w, w < 9 → nmL w ≤ 5 ∧ 3 ≤ nmL w := by decide +kernel
theorem cd_vw {B : Nat → Nat} {s w : Nat} (hw : w < 9) : ∀ j n, j ≤ 5 → (∀ i, i < n → 97 ≤ B (s + i) ∧ B (s + i) ≤ 122) → (cd B s n = vw w j ↔ n = j ∧ ∀ i, i < j → B (s + i) = nmC w i) := by
  intro j
  induction j with
  | zero =>
    intro n _ hl
    cases n with
    | zero => exact ⟨fun _ => ⟨rfl, fun i hi => by omega⟩, fun _ => rfl⟩
    | succ n =>
      have := hl n (by omega)
      constructor
      · intro h
        have h : 27 * cd B s n + (B (s + n) - 96) = 0 := h
        omega
      · rintro ⟨h, -⟩; omega
  | succ j ih =>
    intro n hj hl
    have hc := nmC_rg w hw j (by omega)
    cases n with
    | zero =>
      constructor
      · intro h
        have h : 0 = 27 * vw w j + (nmC w j - 96) := h
        omega
      · rintro ⟨h, -⟩; omega
    | succ n =>
      have hb := hl n (by omega)
      have hi := ih n (by omega) (fun i hi => hl i (by omega))
      constructor
      · intro h
        have h : 27 * cd B s n + (B (s + n) - 96) = 27 * vw w j + (nmC w j - 96) := h
        obtain ⟨e1, e2⟩ := hi.mp (by omega)
        refine ⟨by omega, fun i hi2 => ?_⟩
        by_cases q : i = j
        · rw [q, ← e1]
          rw [e1] at h hb ⊢
          omega
        · exact e2 i (by omega)
      · rintro ⟨h1, h2⟩
        show 27 * cd B s n + (B (s + n) - 96) = 27 * vw w j + (nmC w j - 96)
        have e1 : n = j := by omega
        rw [hi.mpr ⟨e1, fun i hi2 => h2 i (by omega)⟩, e1, h2 j (by omega)]
def wcT : List Nat := [459652, 223619, 10265817, 8798, 10502066, 4786, 4142521, 60115, 247664]
theorem vw_wc : ∀ w, w < 9 → vw w (nmL w) = wcT.getD w 0 := by decide +kernel
theorem wcT_lt : ∀ w, w < 9 → wcT.getD w 0 < 2 ^ 31 := by decide +kernel
theorem cd_lt {B : Nat → Nat} {s : Nat} : ∀ n, n ≤ 9 → (∀ i, i < n → 97 ≤ B (s + i) ∧ B (s + i) ≤ 122) → cd B s n < 27 ^ n := by
  intro n
  induction n with
  | zero => intro _ _; show 0 < 27 ^ 0; decide
  | succ n ih =>
    intro hn hl
    have h1 := ih (by omega) (fun i hi => hl i (by omega))
    have h2 := hl n (by omega)
    show 27 * cd B s n + (B (s + n) - 96) < 27 ^ (n + 1)
    rw [Nat.pow_succ]
    omega
/-! numbers -/
def nvl (B : Nat → Nat) (s k : Nat) : Nat := if k = 0 then 0 else if k = 1 then B s - 48 else 10 * (B s - 48) + (B (s + 1) - 48)
def szT : List Nat := [5, 6, 6, 1, 1, 2, 1, 0, 1]
def frT : List Nat := [0, 5, 11, 17, 18, 19, 21, 22, 22]
def loT : List Nat := [1, 0, 0, 0, 0, 0, 0, 1, 1, 0, 0, 0, 0, 1, 0, 0, 0, 0, 0, 0, 0, 0, 0]
def hiT : List Nat := [3, 11, 11, 9, 6, 5, 9, 5, 9, 9, 2, 3, 9, 6, 2, 2, 99, 2, 99, 11, 11, 9, 5]
def sz (w : Nat) : Nat := szT.getD w 0
def fr (w : Nat) : Nat := frT.getD w 0
def eoh (w i : Nat) : Prop := (w = 0 ∧ i = 2) ∨ (w = 5 ∧ i = 1)
noncomputable def lo (w i : Nat) (acc : Nat → Nat) : Nat := @ite Nat (eoh w i) (Classical.propDecidable _) (acc (i - 1)) (loT.getD (fr w + i) 0)
def hi_ (w i : Nat) : Nat := hiT.getD (fr w + i) 0
def okN (len : Nat) (B : Nat → Nat) (l h s : Nat) : Prop := run cD len B s - s ≠ 0 ∧ run cD len B s - s ≤ 2 ∧ l ≤ nvl B s (run cD len B s - s) ∧ nvl B s (run cD len B s - s) ≤ h
def upN (f : Nat → Nat) (k v : Nat) : Nat → Nat := fun j => if j = k then v else f j
noncomputable def numsR (len : Nat) (B : Nat → Nat) (w : Nat) : Nat → Nat → Nat → (Nat → Nat) → Bool × Nat × (Nat → Nat)
  | 0, _, pos, acc => (true, pos, acc)
  | m + 1, i, pos, acc => @ite (Bool × Nat × (Nat → Nat)) (okN len B (lo w i acc) (hi_ w i) (run cB len B pos)) (Classical.propDecidable _) (numsR len B w m (i + 1) (run cD len B (run cB len B pos)) (upN acc i (nvl B (run cB len B pos) (run cD len B (run cB len B pos) - run cB len B pos)))) (false, run cB len B pos, acc)
noncomputable def lineR (len : Nat) (B : Nat → Nat) (pos : Nat) : Bool × Nat × (Nat → Nat) :=
  if wd B (run cB len B pos) (run cL len B (run cB len B pos)) < 9 then numsR len B (wd B (run cB len B pos) (run cL len B (run cB len B pos))) (sz (wd B (run cB len B pos) (run cL len B (run cB len B pos)))) 0 (run cL len B (run cB len B pos)) (fun _ => 0) else (false, run cB len B pos, fun _ => 0)
noncomputable def wrd (len : Nat) (B : Nat → Nat) (pos : Nat) : Nat := wd B (run cB len B pos) (run cL len B (run cB len B pos))
noncomputable def lp (len : Nat) (B : Nat → Nat) : Nat → Nat
  | 0 => 0
  | k + 1 => run cB len B (lineR len B (lp len B k)).2.1 + 1
noncomputable def outR (len : Nat) (B : Nat → Nat) : Nat → Nat → Bool × Nat × Nat
  | 0, k => (false, lp len B k - 1, k)
  | m + 1, k => if (lineR len B (lp len B k)).1 = true then
      (if len ≤ run cB len B (lineR len B (lp len B k)).2.1 then (true, 0, k + 1) else if B (run cB len B (lineR len B (lp len B k)).2.1) = 59 then outR len B m (k + 1) else (false, run cB len B (lineR len B (lp len B k)).2.1, k + 1))
    else (false, (lineR len B (lp len B k)).2.1, k)
