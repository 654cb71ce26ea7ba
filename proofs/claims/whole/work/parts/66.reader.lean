/-! ===== the class's reader ===== -/
theorem upd_upd (f : Nat → Int32) (k : Nat) (a b : Int32) : upd (upd f k a) k b = upd f k b := by
  funext j
  by_cases c : j = k
  · rw [c, upd_s, upd_s]
  · rw [upd_n _ _ c, upd_n _ _ c, upd_n _ _ c]
theorem sI_sI (S : St) (c k : Nat) (a b : Int32) : sI (sI S c k a) c k b = sI S c k b := by
  show sI (sF S c (upd (S.1 c) k a)) c k b = sF S c (upd (S.1 c) k b)
  rw [sI_sF, upd_upd]
theorem sI_id (S : St) (c k : Nat) : sI S c k (S.1 c k) = S := by
  unfold sI
  rw [upd_id, sF_id]
theorem sI_cm (S : St) {c c' : Nat} (k k' : Nat) (a b : Int32) (h : c ≠ c') : sI (sI S c k a) c' k' b = sI (sI S c' k' b) c k a := by
  refine Prod.ext ?_ rfl
  funext x
  by_cases h1 : x = c
  · subst h1
    rw [sI_ne _ _ _ _ h, sI_row, sI_row, sI_ne _ _ _ _ h]
  · by_cases h2 : x = c'
    · subst h2
      rw [sI_row, sI_ne _ _ _ _ h1, sI_ne _ _ _ _ h1, sI_row]
    · rw [sI_ne _ _ _ _ h2, sI_ne _ _ _ _ h1, sI_ne _ _ _ _ h1, sI_ne _ _ _ _ h2]
def At (S : St) (j : Nat) : St := sI S 1 4 (nI j)
theorem At_c (S : St) (j : Nat) {c : Nat} (h : c ≠ 1) : (At S j).1 c = S.1 c := sI_ne _ _ _ _ h
theorem At_f (S : St) (j : Nat) {f : Nat} (h : f ≠ 4) : (At S j).1 1 f = S.1 1 f := by unfold At; rw [sI_row, upd_n _ _ h]
theorem At_4 (S : St) (j : Nat) : (At S j).1 1 4 = nI j := by unfold At; rw [sI_row, upd_s]
theorem At_At (S : St) (i j : Nat) : sI (At S i) 1 4 (nI j) = At S j := sI_sI _ _ _ _ _
theorem At_id {S : St} {j : Nat} (h : S.1 1 4 = nI j) : At S j = S := by unfold At; rw [← h, sI_id]
theorem At_3 (S : St) (g : Nat → Int32) (j i : Nat) (v : Int32) : sI (At (sF S 3 g) j) 3 i v = At (sF S 3 (upd g i v)) j := by
  unfold At
  rw [sI_cm _ _ _ _ _ (by omega), sI_sF]
def TX (S : St) (len : Nat) (B : Nat → Nat) : Prop := S.1 1 2 = nI len ∧ len ≤ 200 ∧ ∀ j, j < 200 → S.1 2 j = nI (B j) ∧ B j < 256
theorem TX_e {S S' : St} {len : Nat} {B : Nat → Nat} (h : TX S len B) (e1 : S'.1 1 2 = S.1 1 2) (e2 : S'.1 2 = S.1 2) : TX S' len B := by unfold TX; rw [e1, e2]; exact h
theorem TX_At {S : St} {len j : Nat} {B : Nat → Nat} (h : TX S len B) : TX (At S j) len B := TX_e h (At_f _ _ (by omega)) (At_c _ _ (by omega))
theorem TX_3 {S : St} {len : Nat} {B : Nat → Nat} (h : TX S len B) (g : Nat → Int32) : TX (sF S 3 g) len B := TX_e h (by rw [sF_ne _ _ _ (by omega)]) (sF_ne _ _ _ (by omega))
def pkV (len : Nat) (B : Nat → Nat) (j : Nat) : Int32 := if j < len then nI (B j) else -1
section XT
variable {S : St} {len : Nat} {B : Nat → Nat}
theorem f_peek (h : TX S len B) {j : Nat} (hj : j < 2 ^ 30) (K : Int32 → Prop) : q_X7_peek S (nI j) K ↔ K (pkV len B j) := by
  unfold q_X7_peek pkV
  have h2 := h.2.1
  rw [and_nif (nI_p (by omega)), h.1, nle _ _ (by omega) (by omega), nle _ _ (by omega) (by omega), ncl _ (by omega)]
  by_cases c : j < len
  · rw [and_nif (by omega), and_nif (by omega), if_pos c, (h.2.2 j (by omega)).1]
    exact and_t (vp_in_nI (by omega) (by omega))
  · rw [and_if (by omega), if_neg c]
theorem m1_n {n : Nat} (h : n < 2 ^ 31) : ¬ (-1 : Int32) = nI n := fun q => by
  rw [tI_eq, nI_toInt h, m1I] at q
  omega
theorem pk_eq32 (h : TX S len B) {j n : Nat} (hn : n < 256) : pkV len B j = nI n ↔ j < len ∧ B j = n := by
  unfold pkV
  have h2 := h.2.1
  by_cases c : j < len
  · have := (h.2.2 j (by omega)).2
    rw [if_pos c, neq _ _ (by omega) (by omega)]
    exact ⟨fun q => ⟨c, q⟩, fun q => q.2⟩
  · rw [if_neg c]
    exact ⟨fun q => absurd q (m1_n (by omega)), fun q => absurd q.1 c⟩
theorem f_let (h : TX S len B) (S' : St) (j : Nat) (K : Int32 → Prop) : q_X7_isLetter S' (pkV len B j) K ↔ K (bI (j < len ∧ cL (B j) = true)) := by
  unfold q_X7_isLetter pkV cL
  have h2 := h.2.1
  by_cases c : j < len
  · have := (h.2.2 j (by omega)).2
    rw [if_pos c, nlt _ _ (by omega) (by omega), nlt _ _ (by omega) (by omega)]
    by_cases c1 : B j < 97
    · rw [and_if c1, bI_f (fun q => by have := of_decide_eq_true q.2; omega)]
    · by_cases c2 : 122 < B j
      · rw [and_nif c1, and_if c2, bI_f (fun q => by have := of_decide_eq_true q.2; omega)]
      · rw [and_nif c1, and_nif c2, bI_t ⟨c, decide_eq_true (by omega)⟩]
  · rw [if_neg c, and_if (by decide), bI_f (fun q => c q.1)]
theorem f_dig (h : TX S len B) (S' : St) (j : Nat) (K : Int32 → Prop) : q_X7_isDigit S' (pkV len B j) K ↔ K (bI (j < len ∧ cD (B j) = true)) := by
  unfold q_X7_isDigit pkV cD
  have h2 := h.2.1
  by_cases c : j < len
  · have := (h.2.2 j (by omega)).2
    rw [if_pos c, nlt _ _ (by omega) (by omega), nlt _ _ (by omega) (by omega)]
    by_cases c1 : B j < 48
    · rw [and_if c1, bI_f (fun q => by have := of_decide_eq_true q.2; omega)]
    · by_cases c2 : 57 < B j
      · rw [and_nif c1, and_if c2, bI_f (fun q => by have := of_decide_eq_true q.2; omega)]
      · rw [and_nif c1, and_nif c2, bI_t ⟨c, decide_eq_true (by omega)⟩]
  · rw [if_neg c, and_if (by decide), bI_f (fun q => c q.1)]
theorem X_skip {K : St → Prop} {pos : Nat} (h : TX S len B) (hp : pos ≤ len) (hK : K (At S (run cB len B pos))) : q_X7_skipBlanks (At S pos) K := by
  have h2 := h.2.1
  have l : ∀ n x j, x + n = 200 → x ≤ j → j ≤ len → run cB len B j = run cB len B pos → q_X7_skipBlanks_2 K (n + 1) (At S j) (nI x) := by
    intro n
    induction n with
    | zero =>
      intro x j hx h1 h3 e
      rw [q_X7_skipBlanks_2_s, nle _ _ (by omega) (by omega), and_if (by omega)]
      rw [run_f (by omega)] at e
      rw [e]; exact hK
    | succ n ih =>
      intro x j hx h1 h3 e
      rw [q_X7_skipBlanks_2_s, nle _ _ (by omega) (by omega), and_nif (by omega), At_4, f_peek (TX_At h) (by omega), pk_eq32 h (by omega), all_eq, all_eq, nI_add, nI_add, At_At]
      refine ⟨fun q => ?_, fun q => ?_⟩
      · rw [run_t q.1 (decide_eq_true q.2)] at e
        exact ih (x + 1) (j + 1) (by omega) (by omega) (by omega) e
      · rw [run_f (fun z => q ⟨z.1, of_decide_eq_true z.2⟩)] at e
        rw [e]; exact hK
  exact ⟨201, l 200 0 pos (by omega) (by omega) hp rfl⟩
/-! words -/
theorem f_len (S : St) {w : Nat} (hw : w < 9) (K : Int32 → Prop) : q_J0_length_8abf5 w S K ↔ K (nI (nmL w)) := by
  have h5 := (nmL_le w hw).1
  unfold q_J0_length_8abf5 q_J0_coder_7d493
  rw [and_nif (by decide)]
  have e : ∀ n, n < 2 ^ 31 → nI n >>> (nI 0 &&& 31) = nI n := fun n hn => by rw [shrN hn (by omega), Nat.pow_zero, Nat.div_one]
  dsimp only
  rw [show txL.getD w 0 = nmL w from rfl, e _ (by omega)]
theorem chV : ∀ w, w < 9 → ∀ i, i < nmL w → ((((txB.getD w []).getD i 0) &&& (nI 255)).toUInt32 % 65536).toInt32 = nI (nmC w i) := by decide +kernel
theorem f_char (S : St) {w i : Nat} (hw : w < 9) (hi : i < nmL w) (K : Int32 → Prop) : q_J0_charAt_5068e w S (nI i) K ↔ K (nI (nmC w i)) := by
  have h5 := (nmL_le w hw).1
  unfold q_J0_charAt_5068e q_J0_isLatin1_aae02 q_J1_charAt_3b067 q_J0_checkIndex_df160 q_J3_checkIndex_8e157
  have e : txL.getD w 0 = nmL w := rfl
  rw [and_nif (show ¬ nI 1 = nI 0 by decide), and_if rfl]
  dsimp only
  rw [and_nif (show ¬ nI 1 = nI 0 by decide), and_nif (nI_p (by omega)), e, nlt _ _ (by omega) (by omega), and_if hi, and_t (vp_in_nI hi (by omega)), ncl _ (by omega), chV w hw i hi]
theorem f_name (S : St) {w : Nat} (hw : w < 9) (K : Nat → Prop) : q_X7_nameOf S (nI w) K ↔ K w := by
  unfold q_X7_nameOf
  rw [all_eq]
  rcases (show w = 0 ∨ w = 1 ∨ w = 2 ∨ w = 3 ∨ w = 4 ∨ w = 5 ∨ w = 6 ∨ w = 7 ∨ w = 8 by omega) with rfl | rfl | rfl | rfl | rfl | rfl | rfl | rfl | rfl <;> simp (disch := omega) only [neq] <;> simp
theorem X_sp {K : Int32 → Prop} {w s e : Nat} (h : TX S len B) (hw : w < 9) (h1 : s ≤ e) (h2 : e ≤ len) (hK : K (bI (spd B w s e))) : q_X7_isSpelled w (At S s) (nI e) K := by
  have hl := h.2.1
  have h5 := (nmL_le w hw).1
  unfold q_X7_isSpelled
  rw [f_len _ hw, At_4, pk_sub h1, neq _ _ (by omega) (by omega)]
  refine ⟨fun q => ?_, fun q => ?_⟩
  · have l : ∀ n i, i + n = nmL w → (∀ i', i' < i → B (s + i') = nmC w i') → q_X7_isSpelled_17 w (nI e) (At S s) K (n + 1) (nI i) := by
      intro n
      induction n with
      | zero =>
        intro i hi hh
        rw [q_X7_isSpelled_17_s, f_len _ hw, nle _ _ (by omega) (by omega), and_if (by omega)]
        rw [bI_t ⟨q.symm, fun i' hi' => hh i' (by omega)⟩] at hK
        exact hK
      | succ n ih =>
        intro i hi hh
        have hc := nmC_rg w hw i (by omega)
        rw [q_X7_isSpelled_17_s, f_len _ hw, nle _ _ (by omega) (by omega), and_nif (by omega), f_char _ hw (by omega), At_4, nI_add, f_peek (TX_At h) (by omega), all_eq, nI_add]
        have ee : nI (nmC w i) = pkV len B (s + i) ↔ B (s + i) = nmC w i := by
          rw [eq_comm, pk_eq32 h (by omega)]
          exact ⟨fun z => z.2, fun z => ⟨by omega, z⟩⟩
        refine ⟨fun z => ih (i + 1) (by omega) (fun i' hi' => ?_), fun z => ?_⟩
        · by_cases c : i' = i
          · rw [c]; exact ee.mp z
          · exact hh i' (by omega)
        · rw [bI_f (fun y => z (ee.mpr (y.2 i (by omega))))] at hK
          exact hK
    exact ⟨_, l (nmL w) 0 (by omega) (fun i hi => by omega)⟩
  · rw [bI_f (fun y => q y.1.symm)] at hK
    exact hK
theorem X_word {K : Int32 → St → Prop} {s : Nat} (h : TX S len B) (hs : s ≤ len) (h1 : wd B s (run cL len B s) < 9 → K (nI (wd B s (run cL len B s))) (At S (run cL len B s))) (h2 : ¬ wd B s (run cL len B s) < 9 → K (-1) (At S s)) : q_X7_readWord (At S s) K := by
  have hl := h.2.1
  have hr1 := run_ge (c := cL) (B := B) hs
  have hr2 := run_len (c := cL) (B := B) hs
  have l2 : ∀ n w, w + n = 9 → wdF B s (run cL len B s) n w = wd B s (run cL len B s) → q_X7_readWord_36 K (n + 1) (At S s) (nI (run cL len B s)) (nI w) := by
    intro n
    induction n with
    | zero =>
      intro w hw e
      rw [q_X7_readWord_36_s, nle _ _ (by omega) (by omega), and_if (by omega)]
      refine h2 ?_
      rw [← e]
      show ¬ (9 < 9)
      omega
    | succ n ih =>
      intro w hw e
      rw [q_X7_readWord_36_s, nle _ _ (by omega) (by omega), and_nif (by omega), f_name _ (by omega)]
      refine X_sp h (by omega) hr1 hr2 ?_
      rw [bbr, all_eq, all_eq, nI_add, At_At]
      refine ⟨fun q => ih (w + 1) (by omega) (by rw [← e, wdF_f q]), fun q => ?_⟩
      rw [wdF_t q] at e
      rw [← e] at h1
      exact h1 (by omega)
  have l34 : q_X7_readWord_34 K (At S s) (nI (run cL len B s)) := ⟨10, l2 9 0 (by omega) rfl⟩
  have l1 : ∀ n x, x + n = 200 → s + x ≤ len → run cL len B (s + x) = run cL len B s → q_X7_readWord_7 K (n + 1) (At S s) (nI (s + x)) (nI x) := by
    intro n
    induction n with
    | zero =>
      intro x hx h3 e
      rw [q_X7_readWord_7_s, nle _ _ (by omega) (by omega), and_if (by omega)]
      rw [run_f (by omega)] at e
      rw [e]; exact l34
    | succ n ih =>
      intro x hx h3 e
      rw [q_X7_readWord_7_s, nle _ _ (by omega) (by omega), and_nif (by omega), f_peek (TX_At h) (by omega), f_let h, bbr, all_eq, all_eq, nI_add, nI_add]
      refine ⟨fun q => ?_, fun q => ?_⟩
      · rw [run_f q] at e
        rw [e]; exact l34
      · rw [run_t q.1 q.2] at e
        exact ih (x + 1) (by omega) (by omega) e
  unfold q_X7_readWord
  rw [At_4, all_eq]
  exact ⟨201, l1 200 0 (by omega) (by omega) rfl⟩
/-! numbers -/
theorem nvl_le {s k : Nat} (h : ∀ i, i < k → 48 ≤ B (s + i) ∧ B (s + i) ≤ 57) : nvl B s k ≤ 99 := by
  unfold nvl
  by_cases c0 : k = 0
  · rw [if_pos c0]; omega
  · rw [if_neg c0]
    have h0 := h 0 (by omega)
    rw [Nat.add_zero] at h0
    by_cases c1 : k = 1
    · rw [if_pos c1]; omega
    · rw [if_neg c1]
      have h1 := h 1 (by omega)
      omega
theorem dig_rg {s : Nat} (hs : s ≤ len) : ∀ i, i < run cD len B s - s → 48 ≤ B (s + i) ∧ B (s + i) ≤ 57 := fun i hi => by
  have h1 := run_ge (c := cD) (B := B) hs
  have := run_in (c := cD) (B := B) _ s rfl hs (s + i) (by omega) (by omega)
  exact of_decide_eq_true this
theorem nvl_2 {s k : Nat} (h : 2 ≤ k) : nvl B s k = nvl B s 2 := by
  unfold nvl
  rw [if_neg (by omega), if_neg (by omega), if_neg (by omega), if_neg (by omega)]
theorem nvl_s {s k : Nat} (hk : k < 2) (h : ∀ i, i < k + 1 → 48 ≤ B (s + i) ∧ B (s + i) ≤ 57) : nI 10 * nI (nvl B s k) + nI (B (s + k)) - nI 48 = nI (nvl B s (k + 1)) := by
  have hb := h k (by omega)
  rw [pk_mul, nI_add, pk_sub (by omega)]
  congr 1
  rcases (show k = 0 ∨ k = 1 by omega) with rfl | rfl
  · show 10 * 0 + B (s + 0) - 48 = B s - 48
    rw [Nat.add_zero]; omega
  · show 10 * (B s - 48) + B (s + 1) - 48 = 10 * (B s - 48) + (B (s + 1) - 48)
    omega
theorem X_num {K : Int32 → St → Prop} {s l h' : Nat} (h : TX S len B) (hs : s ≤ len) (hl : l ≤ 99) (hh : h' ≤ 99) (h1 : okN len B l h' s → K (nI (nvl B s (run cD len B s - s))) (At S (run cD len B s))) (h2 : ¬ okN len B l h' s → K (-1) (At S s)) : q_X7_readNumber (At S s) (nI l) (nI h') K := by
  have hl2 := h.2.1
  have hr1 := run_ge (c := cD) (B := B) hs
  have hr2 := run_len (c := cD) (B := B) hs
  have hv := nvl_le (dig_rg (B := B) hs)
  have fin : q_X7_readNumber_61 (nI l) (nI h') K (At S s) (nI (run cD len B s)) (nI (nvl B s (run cD len B s - s))) := by
    unfold q_X7_readNumber_61
    rw [At_4, pk_sub hr1, all_eq, neq _ _ (by omega) (by omega), nlt _ _ (by omega) (by omega), nlt _ _ (by omega) (by omega), nle _ _ (by omega) (by omega), all_eq, At_At]
    refine ⟨fun q => h2 (fun z => z.1 q), fun q1 => ⟨fun q => h2 (fun z => by have := z.2.1; omega), fun q2 => ⟨fun q => h2 (fun z => by have := z.2.2.1; omega), fun q3 => ⟨fun q => h1 ⟨q1, by omega, by omega, q⟩, fun q => h2 (fun z => q z.2.2.2)⟩⟩⟩⟩
  have l1 : ∀ n k, k + n = 200 → s + k ≤ run cD len B s → q_X7_readNumber_11 (nI l) (nI h') K (n + 1) (At S s) (nI (s + k)) (nI (nvl B s k)) (nI k) := by
    intro n
    induction n with
    | zero =>
      intro k hk h3
      rw [q_X7_readNumber_11_s, nle _ _ (by omega) (by omega), and_if (by omega)]
      rw [show run cD len B s = s + k by omega, show s + k - s = k by omega] at fin
      exact fin
    | succ n ih =>
      intro k hk h3
      rw [q_X7_readNumber_11_s, nle _ _ (by omega) (by omega), and_nif (by omega), f_peek (TX_At h) (by omega), f_dig h, bbr]
      have em : run cD len B (s + k) = run cD len B s := run_mid hs (by omega) h3
      refine ⟨fun q => ?_, fun q => ?_⟩
      · rw [run_f q] at em
        rw [← em, show s + k - s = k by omega] at fin
        exact fin
      · rw [run_t q.1 q.2] at em
        have hlt := run_ge (c := cD) (B := B) (show s + k + 1 ≤ len by omega)
        rw [em] at hlt
        rw [nle _ _ (by omega) (by omega)]
        unfold q_X7_readNumber_52
        have ih' := ih (k + 1) (by omega) (by omega)
        refine ⟨fun q2 => ?_, fun q2 => ?_⟩
        · rw [all_eq, all_eq, nI_add, nI_add]
          rw [nvl_2 (by omega)] at ih' ⊢
          exact ih'
        · rw [f_peek (TX_At h) (by omega), all_eq, all_eq, all_eq, nI_add, nI_add]
          unfold pkV
          rw [if_pos q.1, nvl_s (by omega) (fun i hi => dig_rg hs i (by omega))]
          exact ih'
  unfold q_X7_readNumber
  rw [At_4, all_eq]
  exact ⟨201, l1 200 0 (by omega) (by omega)⟩
theorem f_eoh (S : St) {w i : Nat} (hw : w < 9) (hi : i < 6) (K : Int32 → Prop) : q_X7_isEndOfHours S (nI w) (nI i) K ↔ K (bI (eoh w i)) := by
  unfold q_X7_isEndOfHours q_X7_isEndOfHours_9 eoh
  simp (disch := omega) only [neq]
  by_cases c0 : w = 0
  · by_cases c1 : i = 2
    · rw [and_if c0, and_if c1, bI_t (Or.inl ⟨c0, c1⟩)]
    · rw [and_if c0, and_nif c1, and_nif (by omega), bI_f (by omega)]
  · rw [and_nif c0]
    by_cases c5 : w = 5
    · rw [and_if c5]
      by_cases c1 : i = 1
      · rw [and_if c1, bI_t (Or.inr ⟨c5, c1⟩)]
      · rw [and_nif c1, bI_f (by omega)]
    · rw [and_nif c5, bI_f (by omega)]
theorem tb_L : ∀ n, n < 23 → tbL.getD n 0 = nI (loT.getD n 0) := by decide +kernel
theorem tb_M : ∀ n, n < 23 → tbM.getD n 0 = nI (hiT.getD n 0) := by decide +kernel
theorem tb_N : ∀ w, w < 9 → tbN.getD w 0 = nI (fr w) ∧ tbN.getD (w + 1) 0 = nI (fr w + sz w) ∧ fr w + sz w ≤ 23 ∧ sz w ≤ 6 := by decide +kernel
theorem hiT_le : ∀ n, n < 23 → hiT.getD n 0 ≤ 99 ∧ loT.getD n 0 ≤ 99 := by decide +kernel
theorem eoh_i {w i : Nat} (h : eoh w i) : 1 ≤ i := by unfold eoh at h; omega
theorem lo_le {w i : Nat} {acc : Nat → Nat} (h : fr w + i < 23) (ha : ∀ j, j < i → acc j ≤ 99) : lo w i acc ≤ 99 := by
  unfold lo
  by_cases c : eoh w i
  · rw [if_pos c]; exact ha _ (by have := eoh_i c; omega)
  · rw [if_neg c]; exact (hiT_le _ h).2
theorem X_nums {K : Int32 → St → Prop} {w : Nat} (h : TX S len B) (hw : w < 9) : ∀ (n i pos : Nat) (acc : Nat → Nat) (g : Nat → Int32), i + n = sz w → pos ≤ len → (∀ j, j < i → g j = nI (acc j) ∧ acc j ≤ 99) →
    ((numsR len B w n i pos acc).1 = true → ∀ g', (∀ j, j < sz w → g' j = nI ((numsR len B w n i pos acc).2.2 j)) → K (nI 1) (At (sF S 3 g') (numsR len B w n i pos acc).2.1)) →
    (¬ (numsR len B w n i pos acc).1 = true → ∀ g', K (nI 0) (At (sF S 3 g') (numsR len B w n i pos acc).2.1)) →
    q_X7_readNumbers_31 (nI w) K (n + 1) (At (sF S 3 g) pos) (nI (fr w)) (nI (sz w)) (nI i) := by
  obtain ⟨-, -, t3, t4⟩ := tb_N w hw
  intro n
  induction n with
  | zero =>
    intro i pos acc g hi hp hg h1 h2
    rw [q_X7_readNumbers_31_s, nle _ _ (by omega) (by omega), and_if (by omega)]
    exact h1 rfl g (fun j hj => (hg j (by omega)).1)
  | succ n ih =>
    intro i pos acc g hi' hp hg h1 h2
    have hs := run_len (c := cB) (B := B) hp
    have hd := run_len (c := cD) (B := B) hs
    have hv := nvl_le (dig_rg (B := B) hs)
    have hlo := lo_le (w := w) (i := i) (acc := acc) (by omega) (fun j hj => (hg j hj).2)
    have hhi : hi_ w i ≤ 99 := (hiT_le _ (by omega)).1
    rw [q_X7_readNumbers_31_s, nle _ _ (by omega) (by omega), and_nif (by omega), nle _ _ (by omega) (by omega), and_nif (by omega)]
    refine X_skip (TX_3 h g) hp ?_
    rw [f_eoh _ hw (by omega), bbr]
    have go : q_X7_readNumbers_77 (nI w) K (q_X7_readNumbers_31 (nI w) K (n + 1)) (At (sF S 3 g) (run cB len B pos)) (nI (fr w)) (nI (sz w)) (nI i) (nI (lo w i acc)) := by
      unfold q_X7_readNumbers_77
      rw [nI_add, ncl _ (by omega), tb_M _ (by omega)]
      refine ⟨vp_in_nI (by omega) (by omega), X_num (h' := hi_ w i) (TX_3 h g) hs hlo hhi (fun q => ?_) (fun q => ?_)⟩
      · rw [and_nif (fun z => m1_n (by omega) z.symm), all_eq, all_eq, ncl _ (by omega), nI_add, At_3]
        refine ⟨vp_in_nI (by omega) (by omega), ?_⟩
        have e : numsR len B w (n + 1) i pos acc = numsR len B w n (i + 1) (run cD len B (run cB len B pos)) (upN acc i (nvl B (run cB len B pos) (run cD len B (run cB len B pos) - run cB len B pos))) := if_pos q
        rw [e] at h1 h2
        refine ih (i + 1) _ _ _ (by omega) hd (fun j hj => ?_) h1 h2
        unfold upN
        by_cases c : j = i
        · rw [c, upd_s, if_pos rfl]; exact ⟨rfl, hv⟩
        · rw [upd_n _ _ c, if_neg c]; exact hg j (by omega)
      · have e : numsR len B w (n + 1) i pos acc = (false, run cB len B pos, acc) := if_neg q
        rw [and_if rfl]
        rw [e] at h2
        exact h2 Bool.false_ne_true g
    refine ⟨fun q => ?_, fun q => ?_⟩
    · have e : lo w i acc = loT.getD (fr w + i) 0 := if_neg q
      rw [nI_add, ncl _ (by omega), tb_L _ (by omega), ← e]
      exact ⟨vp_in_nI (by omega) (by omega), go⟩
    · have e : lo w i acc = acc (i - 1) := if_pos q
      have hi1 := eoh_i q
      rw [pk_sub hi1, ncl _ (by omega), At_c _ _ (by omega), sF_self, (hg (i - 1) (by omega)).1, ← e]
      exact ⟨vp_in_nI (by omega) (by omega), go⟩
theorem wrd_le (len : Nat) (B : Nat → Nat) (pos : Nat) : wrd len B pos ≤ 9 := wdF_le 9 0 (by omega)
theorem X_line {Q : Int32 → Int32 → St → Prop} {pos : Nat} (h : TX S len B) (hp : pos ≤ len)
    (h1 : (lineR len B pos).1 = true → ∀ g', (∀ j, j < sz (wrd len B pos) → g' j = nI ((lineR len B pos).2.2 j)) → wrd len B pos < 9 → Q (nI (wrd len B pos)) (nI 1) (At (sF S 3 g') (lineR len B pos).2.1))
    (h2 : ¬ (lineR len B pos).1 = true → ∀ r g', Q r (nI 0) (At (sF S 3 g') (lineR len B pos).2.1)) :
    q_X7_skipBlanks (At S pos) (fun S_2 => (q_X7_readWord S_2 (fun r_3 S_4 => (q_X7_readNumbers S_4 r_3 (fun r_5 S_6 => Q r_3 r_5 S_6))))) := by
  have hs := run_len (c := cB) (B := B) hp
  have he := run_len (c := cL) (B := B) hs
  refine X_skip h hp (X_word h hs (fun q => ?_) (fun q => ?_))
  · have hw : wrd len B pos < 9 := q
    have e : lineR len B pos = numsR len B (wrd len B pos) (sz (wrd len B pos)) 0 (run cL len B (run cB len B pos)) (fun _ => 0) := if_pos q
    obtain ⟨t1, t2, t3, t4⟩ := tb_N (wrd len B pos) hw
    rw [e] at h1 h2
    show q_X7_readNumbers (At S (run cL len B (run cB len B pos))) (nI (wrd len B pos)) (fun r_5 S_6 => Q (nI (wrd len B pos)) r_5 S_6)
    unfold q_X7_readNumbers
    rw [and_nif (nI_p (by omega)), nlt _ _ (by omega) (by omega), and_if hw, nI_add, ncl _ (by omega), ncl _ (by omega), t1, t2, all_eq, all_eq, pk_sub (by omega), show fr (wrd len B pos) + sz (wrd len B pos) - fr (wrd len B pos) = sz (wrd len B pos) by omega]
    refine ⟨vp_in_nI (by omega) (by omega), vp_in_nI (by omega) (by omega), sz (wrd len B pos) + 1, ?_⟩
    have := X_nums (K := fun r_5 S_6 => Q (nI (wrd len B pos)) r_5 S_6) h hw (sz (wrd len B pos)) 0 (run cL len B (run cB len B pos)) (fun _ => 0) (S.1 3) (by omega) he (fun j hj => by omega) (fun a g' hg' => h1 a g' hg' hw) (fun a g' => h2 a _ g')
    rw [sF_id] at this
    exact this
  · have e : lineR len B pos = (false, run cB len B pos, fun _ => 0) := if_neg q
    rw [e] at h2
    unfold q_X7_readNumbers
    rw [and_if (by decide)]
    have := h2 Bool.false_ne_true (-1) (S.1 3)
    rw [sF_id] at this
    exact this
end XT
