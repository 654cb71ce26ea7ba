/-! ===== the reference's codes ===== -/
noncomputable def cnt (T : St) : Nat → Nat
  | 0 => 0
  | k + 1 => cnt T k + @ite Nat (tK T k) (Classical.propDecidable _) 1 0
noncomputable def unp (T : St) : Nat → Nat → Nat
  | 0, _ => 0
  | j + 1, c => @ite Nat (tK T j) (Classical.propDecidable _) (4 * unp T j (c / 4) + c % 4) (4 * unp T j c)
section CO
variable {T : St}
theorem cnt_t {k : Nat} (h : tK T k) : cnt T (k + 1) = cnt T k + 1 := by show cnt T k + _ = _; rw [if_pos h]
theorem cnt_f {k : Nat} (h : ¬ tK T k) : cnt T (k + 1) = cnt T k := by show cnt T k + _ = _; rw [if_neg h]; omega
theorem unp_t {j c : Nat} (h : tK T j) : unp T (j + 1) c = 4 * unp T j (c / 4) + c % 4 := if_pos h
theorem unp_f {j c : Nat} (h : ¬ tK T j) : unp T (j + 1) c = 4 * unp T j c := if_neg h
theorem cnt_le : ∀ k, cnt T k ≤ k := by
  intro k
  induction k with
  | zero => exact Nat.le_refl _
  | succ k ih =>
    by_cases h : tK T k
    · rw [cnt_t h]; omega
    · rw [cnt_f h]; omega
theorem cnt_mono : ∀ n k, cnt T k ≤ cnt T (k + n) := by
  intro n
  induction n with
  | zero => intro k; exact Nat.le_refl _
  | succ n ih =>
    intro k
    have h1 := ih k
    by_cases h : tK T (k + n)
    · rw [show k + (n + 1) = k + n + 1 by omega, cnt_t h]; omega
    · rw [show k + (n + 1) = k + n + 1 by omega, cnt_f h]; exact h1
theorem div4_lt {c n : Nat} (h : c < 4 ^ (n + 1)) : c / 4 < 4 ^ n := by
  rw [Nat.pow_succ] at h
  exact Nat.div_lt_of_lt_mul (by omega)
theorem unp_lt : ∀ j c, c < 4 ^ cnt T j → unp T j c < 4 ^ j := by
  intro j
  induction j with
  | zero => intro c _; show 0 < 4 ^ 0; decide
  | succ j ih =>
    intro c hc
    rw [Nat.pow_succ]
    by_cases h : tK T j
    · rw [cnt_t h] at hc
      have := ih (c / 4) (div4_lt hc)
      rw [unp_t h]
      omega
    · rw [cnt_f h] at hc
      have := ih c hc
      rw [unp_f h]
      omega
theorem unp_mono : ∀ j c c', c < c' → c' < 4 ^ cnt T j → unp T j c < unp T j c' := by
  intro j
  induction j with
  | zero =>
    intro c c' h1 h2
    have h2 : c' < 4 ^ 0 := h2
    rw [Nat.pow_zero] at h2
    omega
  | succ j ih =>
    intro c c' h1 h2
    by_cases h : tK T j
    · rw [cnt_t h] at h2
      rw [unp_t h, unp_t h]
      by_cases e : c / 4 = c' / 4
      · rw [e]; omega
      · have := ih (c / 4) (c' / 4) (by omega) (div4_lt h2)
        omega
    · rw [cnt_f h] at h2
      rw [unp_f h, unp_f h]
      have := ih c c' h1 h2
      omega
theorem unp_sur : ∀ j P, P < 4 ^ j → (∀ k, k < j → ¬ tK T k → P / 4 ^ (j - 1 - k) % 4 = 0) → ∃ c, c < 4 ^ cnt T j ∧ unp T j c = P := by
  intro j
  induction j with
  | zero =>
    intro P hP _
    rw [Nat.pow_zero] at hP
    exact ⟨0, by show 0 < 4 ^ 0; decide, by show 0 = P; omega⟩
  | succ j ih =>
    intro P hP hz
    rw [Nat.pow_succ] at hP
    have hz' : ∀ k, k < j → ¬ tK T k → P / 4 / 4 ^ (j - 1 - k) % 4 = 0 := fun k hk hn => by
      have := hz k (by omega) hn
      rw [show j + 1 - 1 - k = 1 + (j - 1 - k) by omega, Nat.pow_add, Nat.pow_one, ← Nat.div_div_eq_div_mul] at this
      exact this
    obtain ⟨c, c1, c2⟩ := ih (P / 4) (by omega) hz'
    by_cases h : tK T j
    · refine ⟨4 * c + P % 4, ?_, ?_⟩
      · rw [cnt_t h, Nat.pow_succ]; omega
      · rw [unp_t h, show (4 * c + P % 4) / 4 = c by omega, c2]; omega
    · refine ⟨c, by rw [cnt_f h]; exact c1, ?_⟩
      have := hz j (by omega) h
      rw [show j + 1 - 1 - j = 0 by omega, Nat.pow_zero, Nat.div_one] at this
      rw [unp_f h, c2]
      omega
theorem unp_div (c : Nat) : ∀ n j, j + n = 6 → unp T 6 c / 4 ^ n = unp T j (c / 4 ^ (cnt T 6 - cnt T j)) := by
  intro n
  induction n with
  | zero =>
    intro j hj
    rw [show j = 6 by omega, Nat.sub_self, Nat.pow_zero, Nat.div_one, Nat.div_one]
  | succ n ih =>
    intro j hj
    have h1 := ih (j + 1) (by omega)
    have hm := cnt_mono (T := T) n (j + 1)
    rw [show j + 1 + n = 6 by omega] at hm
    rw [Nat.pow_succ, ← Nat.div_div_eq_div_mul, h1]
    by_cases h : tK T j
    · rw [cnt_t h] at hm
      rw [unp_t h, cnt_t h, show cnt T 6 - cnt T j = cnt T 6 - (cnt T j + 1) + 1 by omega, Nat.pow_succ, ← Nat.div_div_eq_div_mul]
      omega
    · rw [unp_f h, cnt_f h]
      omega
theorem unp_hOf {c k : Nat} (hk : k < 6) (h : tK T k) : hOf (unp T 6 c) k = c / 4 ^ (cnt T 6 - cnt T (k + 1)) % 4 := by
  unfold hOf
  rw [unp_div c (5 - k) (k + 1) (by omega), unp_t h]
  omega
theorem cnt_pow (T : St) : 4 ^ cnt T 6 ≤ 4096 := by
  have h := cnt_le (T := T) 6
  have := Nat.pow_le_pow_right (show 0 < 4 by omega) h
  exact this
end CO
section CM
variable {T S : St}
theorem M_told (R : RS T S) {K : Int32 → Prop} (hK : K (nI (cnt T 6))) : q_X9_toldMany S K := by
  have h : ∀ m k, k + m = 6 → q_X9_toldMany_4 S K (m + 1) (nI (cnt T k)) (nI k) := by
    intro m
    induction m with
    | zero =>
      intro k hk
      rw [q_X9_toldMany_4_s, nle _ _ (by omega) (by omega), and_if (by omega), show k = 6 by omega]
      exact hK
    | succ m ih =>
      intro k hk
      have h1 := ih (k + 1) (by omega)
      rw [q_X9_toldMany_4_s, nle _ _ (by omega) (by omega), and_nif (by omega), f_X9_has, bI_c (R.kite (show k < 6 by omega)), bbr]
      unfold q_X9_toldMany_27
      by_cases c : tK T k
      · rw [pif_t c, all_eq, all_eq, nI_add, nI_add]
        rw [cnt_t c] at h1
        exact h1
      · rw [pif_f c, all_eq, all_eq, nI_add, nI_add]
        rw [cnt_f c] at h1
        exact h1
  exact ⟨7, h 6 0 (by omega)⟩
theorem M_hI (R : RS T S) {K : Int32 → Prop} {c a : Nat} (hc : c < 4096) (ha : a < 6) (hT : tK T a) (hK : K (nI (hOf (unp T 6 c) a))) : q_X9_heightIn S (nI c) (nI a) K := by
  have h : ∀ m k, k + m = 6 → a + 1 ≤ k → q_X9_heightIn_7 (nI c) (nI a) S K (m + 1) (nI (cnt T k - cnt T (a + 1))) (nI k) := by
    intro m
    induction m with
    | zero =>
      intro k hk ha2
      have h1 := cnt_le (T := T) k
      have e : ∀ n, 2 ^ (2 * n) = 4 ^ n := fun n => Nat.pow_mul 2 2 n
      have hd := Nat.div_le_self c (2 ^ (2 * (cnt T k - cnt T (a + 1))))
      rw [q_X9_heightIn_7_s, nle _ _ (by omega) (by omega), and_if (by omega), pk_mul, shrN (by omega) (by omega), pk_andN (m := nI 3) (by omega) 2 rfl, e]
      rw [show k = 6 by omega, show (2 : Nat) ^ 2 = 4 from rfl, ← unp_hOf ha hT]
      exact hK
    | succ m ih =>
      intro k hk ha2
      have h1 := ih (k + 1) (by omega) (by omega)
      have hm := cnt_mono (T := T) (k - (a + 1)) (a + 1)
      rw [show a + 1 + (k - (a + 1)) = k by omega] at hm
      rw [q_X9_heightIn_7_s, nle _ _ (by omega) (by omega), and_nif (by omega), f_X9_has, bI_c (R.kite (show k < 6 by omega)), bbr]
      unfold q_X9_heightIn_32
      by_cases c : tK T k
      · rw [pif_t c, all_eq, all_eq, nI_add, nI_add]
        rw [cnt_t c, show cnt T k + 1 - cnt T (a + 1) = cnt T k - cnt T (a + 1) + 1 by omega] at h1
        exact h1
      · rw [pif_f c, all_eq, all_eq, nI_add, nI_add]
        rw [cnt_f c] at h1
        exact h1
  unfold q_X9_heightIn
  rw [all_eq, nI_add]
  have h1 := h (6 - (a + 1)) (a + 1) (by omega) (Nat.le_refl _)
  rw [Nat.sub_self] at h1
  exact ⟨_, h1⟩
theorem M_askAll (R : RS T S) {K : St → Prop} {c : Nat} {f : Nat → Int32} (hc : c < 4 ^ cnt T 6) (hK : ∀ g, (∀ k, k < 6 → tK T k → g (7 + k) = nI (hOf (unp T 6 c) k)) → (∀ k, k < 6 → ¬ tK T k → g (7 + k) = f (7 + k)) → (∀ j, (j < 7 ∨ 12 < j) → g j = f j) → K (sF S 6 g)) : q_X9_askAll (sF S 6 f) (nI c) K := by
  have hp := cnt_pow T
  have h : ∀ j c' g, j ≤ 6 → c' ≤ c → unp T 6 c / 4 ^ (6 - j) = unp T j c' → (∀ k, j ≤ k → k < 6 → tK T k → g (7 + k) = nI (hOf (unp T 6 c) k)) → (∀ k, k < 6 → (¬ tK T k ∨ k < j) → g (7 + k) = f (7 + k)) → (∀ i, (i < 7 ∨ 12 < i) → g i = f i) → q_X9_askAll_4 (nI c) K (j + 1) (sF S 6 g) (nI c') (nI j + -1) := by
    intro j
    induction j with
    | zero =>
      intro c' g _ _ _ h1 h2 h3
      rw [q_X9_askAll_4_s, and_if (by decide)]
      exact hK g (fun k hk hT => h1 k (by omega) hk hT) (fun k hk hT => h2 k hk (Or.inl hT)) h3
    | succ j ih =>
      intro c' g hj hc' hu h1 h2 h3
      rw [q_X9_askAll_4_s, dec1, and_nif (nI_p (by omega)), sF6_0, f_X9_has, bI_c (R.kite (show j < 6 by omega)), bbr]
      unfold q_X9_askAll_35
      have hu2 : unp T 6 c / 4 ^ (6 - j) = unp T (j + 1) c' / 4 := by
        rw [show 6 - j = 6 - (j + 1) + 1 by omega, Nat.pow_succ, ← Nat.div_div_eq_div_mul, hu]
      by_cases ct : tK T j
      · rw [pif_t ct, nI_add, ncl _ (by omega), sI_sF, pk_rem (by omega) (by omega) (by omega), pk_div (by omega) (by omega) (by omega), all_eq, all_eq, all_eq]
        refine ⟨vp_in_nI (by omega) (by omega), ?_⟩
        rw [unp_t ct] at hu hu2
        have hd : hOf (unp T 6 c) j = c' % 4 := by
          unfold hOf
          rw [show 5 - j = 6 - (j + 1) by omega, hu]
          omega
        refine ih (c' / 4) _ (by omega) (by omega) (by rw [hu2]; omega) (fun k hk1 hk2 hT => ?_) (fun k hk hor => ?_) (fun i hi => ?_)
        · by_cases e : k = j
          · rw [e, upd_s, hd]
          · rw [upd_n _ _ (by omega)]; exact h1 k (by omega) hk2 hT
        · by_cases e : k = j
          · exfalso
            rcases hor with q | q
            · rw [e] at q; exact q ct
            · omega
          · rw [upd_n _ _ (by omega)]
            exact h2 k hk (hor.elim Or.inl (fun q => Or.inr (by omega)))
        · rw [upd_n _ _ (by omega)]; exact h3 i hi
      · rw [pif_f ct, all_eq]
        rw [unp_f ct] at hu2
        refine ih c' g (by omega) hc' (by rw [hu2]; omega) (fun k hk1 hk2 hT => ?_) (fun k hk hor => ?_) h3
        · by_cases e : k = j
          · rw [e] at hT; exact absurd hT ct
          · exact h1 k (by omega) hk2 hT
        · exact h2 k hk (hor.elim Or.inl (fun q => Or.inr (by omega)))
  unfold q_X9_askAll
  rw [show nI 5 = nI 6 + -1 from by decide]
  exact ⟨7, h 6 c f (by omega) (Nat.le_refl _) (by rw [Nat.sub_self, Nat.pow_zero, Nat.div_one]) (fun k h1 h2 => by omega) (fun k _ _ => rfl) (fun i _ => rfl)⟩
end CM
