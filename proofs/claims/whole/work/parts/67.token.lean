/-! ===== the reference's tokens ===== -/
def TM (S : St) (len : Nat) (B : Nat → Nat) : Prop := S.1 0 9 = nI len ∧ len ≤ 200 ∧ ∀ j, j < 200 → S.1 4 j = nI (B j) ∧ B j < 256
theorem TM_e {S S' : St} {len : Nat} {B : Nat → Nat} (h : TM S len B) (e1 : S'.1 0 9 = S.1 0 9) (e2 : S'.1 4 = S.1 4) : TM S' len B := by unfold TM; rw [e1, e2]; exact h
def FrT (S S' : St) : Prop := (∀ c, c ≠ 0 → S'.1 c = S.1 c) ∧ ∀ f, f < 11 ∨ 15 < f → S'.1 0 f = S.1 0 f
theorem FrT_I {S S' : St} (h : FrT S S') {k : Nat} (v : Int32) (h1 : 11 ≤ k) (h2 : k ≤ 15) : FrT S (sI S' 0 k v) :=
  ⟨fun c hc => by rw [sI_ne _ _ _ _ hc]; exact h.1 c hc, fun f hf => by rw [sI_row, upd_n _ _ (by omega)]; exact h.2 f hf⟩
theorem FrT_J {S S' : St} (h : FrT S S') (v : Int64) : FrT S (sJ S' 0 13 v) := h
theorem sI_same (S : St) (c k : Nat) (v : Int32) : (sI S c k v).1 c k = v := by rw [sI_row, upd_s]
theorem sI_other (S : St) (c : Nat) {k j : Nat} (v : Int32) (h : j ≠ k) : (sI S c k v).1 c j = S.1 c j := by rw [sI_row, upd_n _ _ h]
def TK (len : Nat) (B : Nat → Nat) (s : Nat) (S' : St) : Prop :=
  (s = len ∧ S'.2 0 13 = -2 ∧ S'.1 0 11 = nI s) ∨
  (s < len ∧ cL (B s) = true ∧ S'.1 0 11 = nI (run cL len B s) ∧ S'.2 0 13 = if run cL len B s - s ≤ 9 then lN (cd B s (run cL len B s - s)) else -4) ∨
  (s < len ∧ cD (B s) = true ∧ S'.1 0 11 = nI (run cD len B s) ∧ (S'.2 0 13 = if run cD len B s - s ≤ 2 then -1 else -4) ∧ S'.1 0 15 = nI (nvl B s (run cD len B s - s))) ∨
  (s < len ∧ ¬ cL (B s) = true ∧ ¬ cD (B s) = true ∧ S'.1 0 11 = nI (s + 1) ∧ S'.2 0 13 = if B s = 59 then -3 else -4)
section TO
variable {S : St} {len : Nat} {B : Nat → Nat} {K : St → Prop}
theorem inL {b : Nat} (hb : b < 256) : inR (nI b) (nI 97) (nI 122) ↔ cL b = true := by
  unfold inR cL
  rw [nlt _ _ (by omega) (by omega), nlt _ _ (by omega) (by omega), decide_eq_true_iff]
  omega
theorem inD {b : Nat} (hb : b < 256) : inR (nI b) (nI 48) (nI 57) ↔ cD b = true := by
  unfold inR cD
  rw [nlt _ _ (by omega) (by omega), nlt _ _ (by omega) (by omega), decide_eq_true_iff]
  omega
theorem M_letters {s : Nat} (h : TM S len B) (hs : s ≤ len) (hK : ∀ S', FrT S S' → S'.1 0 12 = nI s → S'.1 0 11 = nI (run cL len B s) → (S'.2 0 13 = if run cL len B s - s ≤ 9 then lN (cd B s (run cL len B s - s)) else -4) → K S') :
    ∀ (n k : Nat) (S' : St), s + k + n = len → s + k ≤ run cL len B s → FrT S S' → S'.1 0 12 = nI s → S'.1 0 11 = nI (s + k) → (S'.2 0 13 = if k ≤ 9 then lN (cd B s k) else -4) → q_X9_nextToken_101 K (n + 1) S' := by
  have hl := h.2.1
  have fin : ∀ (k : Nat) (S' : St), s + k ≤ len → run cL len B s = s + k → FrT S S' → S'.1 0 12 = nI s → S'.1 0 11 = nI (s + k) → (S'.2 0 13 = if k ≤ 9 then lN (cd B s k) else -4) → q_X9_nextToken_191 K S' := fun k S' hk e f1 f2 f3 f4 => by
    unfold q_X9_nextToken_191
    rw [e, show s + k - s = k by omega] at hK
    rw [f3, f2, pk_sub (by omega), show s + k - s = k by omega, nle _ _ (by omega) (by omega), all_eq, all_eq]
    refine ⟨fun q => hK _ (FrT_J f1 _) f2 f3 ?_, fun q => hK _ (FrT_J f1 _) f2 f3 ?_⟩
    · rw [sJ_s]; exact f4
    · rw [sJ_s, if_neg q]
  intro n
  induction n with
  | zero =>
    intro k S' hn hk f1 f2 f3 f4
    rw [q_X9_nextToken_101_s, f1.2 9 (by omega), h.1, f3, nle _ _ (by omega) (by omega), and_if (by omega)]
    have := run_len (c := cL) (B := B) hs
    exact fin k S' (by omega) (by omega) f1 f2 f3 f4
  | succ n ih =>
    intro k S' hn hk f1 f2 f3 f4
    have hb := h.2.2 (s + k) (by omega)
    rw [q_X9_nextToken_101_s, f1.2 9 (by omega), h.1, f3, nle _ _ (by omega) (by omega), and_nif (by omega), ncl _ (by omega), f1.1 4 (by omega), hb.1, f_X9_in, bI_c (inL hb.2), bbr]
    refine ⟨vp_in_nI (by omega) (by omega), fun q => ?_, fun q => ?_⟩
    · have em := run_mid (c := cL) (B := B) hs (show s ≤ s + k by omega) hk
      rw [run_f (fun z => q z.2)] at em
      exact fin k S' (by omega) em.symm f1 f2 f3 f4
    · have em := run_mid (c := cL) (B := B) hs (show s ≤ s + k by omega) hk
      rw [run_t (by omega) q] at em
      have hlt := run_ge (c := cL) (B := B) (show s + k + 1 ≤ len by omega)
      rw [em] at hlt
      have hq : 97 ≤ B (s + k) ∧ B (s + k) ≤ 122 := of_decide_eq_true q
      rw [f2, pk_sub (by omega), show s + k - s = k by omega, nle _ _ (by omega) (by omega)]
      unfold q_X9_nextToken_175
      refine ⟨fun q2 => ?_, fun q2 => ⟨vp_in_nI (by omega) (by omega), ?_⟩⟩
      · rw [all_eq, all_eq, sJ_1, f3, nI_add]
        refine ih (k + 1) _ (by omega) (by omega) (FrT_I (FrT_J f1 _) _ (by omega) (by omega)) (by rw [sI_other _ _ _ (by omega)]; exact f2) (by rw [sI_same]; rfl) ?_
        rw [sI_2, sJ_s, if_neg (by omega)]
      · rw [all_eq, all_eq, sJ_1, f3, nI_add, f4, if_pos (by omega), nL _ (by omega), lN_mul, lN_add, lN_sub (by omega)]
        refine ih (k + 1) _ (by omega) (by omega) (FrT_I (FrT_J f1 _) _ (by omega) (by omega)) (by rw [sI_other _ _ _ (by omega)]; exact f2) (by rw [sI_same]; rfl) ?_
        rw [sI_2, sJ_s, if_pos (by omega)]
        congr 1
        show 27 * cd B s k + B (s + k) - 96 = 27 * cd B s k + (B (s + k) - 96)
        omega
theorem M_digits {s : Nat} (h : TM S len B) (hs : s ≤ len) (hK : ∀ S', FrT S S' → S'.1 0 12 = nI s → S'.1 0 11 = nI (run cD len B s) → (S'.2 0 13 = if run cD len B s - s ≤ 2 then -1 else -4) → S'.1 0 15 = nI (nvl B s (run cD len B s - s)) → K S') :
    ∀ (n k : Nat) (S' : St), s + k + n = len → s + k ≤ run cD len B s → FrT S S' → S'.1 0 12 = nI s → S'.1 0 11 = nI (s + k) → S'.1 0 14 = nI k → S'.1 0 15 = nI (nvl B s k) → q_X9_nextToken_241 K (n + 1) S' := by
  have hl := h.2.1
  have fin : ∀ (k : Nat) (S' : St), s + k ≤ len → run cD len B s = s + k → FrT S S' → S'.1 0 12 = nI s → S'.1 0 11 = nI (s + k) → S'.1 0 14 = nI k → S'.1 0 15 = nI (nvl B s k) → q_X9_nextToken_333 K S' := fun k S' hk e f1 f2 f3 f4 f5 => by
    unfold q_X9_nextToken_333
    rw [e, show s + k - s = k by omega] at hK
    rw [f4, nle _ _ (by omega) (by omega), all_eq, all_eq]
    refine ⟨fun q => hK _ (FrT_J f1 _) f2 f3 ?_ f5, fun q => hK _ (FrT_J f1 _) f2 f3 ?_ f5⟩
    · rw [sJ_s, if_pos q]
    · rw [sJ_s, if_neg q]
  intro n
  induction n with
  | zero =>
    intro k S' hn hk f1 f2 f3 f4 f5
    rw [q_X9_nextToken_241_s, f1.2 9 (by omega), h.1, f3, nle _ _ (by omega) (by omega), and_if (by omega)]
    have := run_len (c := cD) (B := B) hs
    exact fin k S' (by omega) (by omega) f1 f2 f3 f4 f5
  | succ n ih =>
    intro k S' hn hk f1 f2 f3 f4 f5
    have hb := h.2.2 (s + k) (by omega)
    rw [q_X9_nextToken_241_s, f1.2 9 (by omega), h.1, f3, nle _ _ (by omega) (by omega), and_nif (by omega), ncl _ (by omega), f1.1 4 (by omega), hb.1, f_X9_in, bI_c (inD hb.2), bbr]
    refine ⟨vp_in_nI (by omega) (by omega), fun q => ?_, fun q => ?_⟩
    · have em := run_mid (c := cD) (B := B) hs (show s ≤ s + k by omega) hk
      rw [run_f (fun z => q z.2)] at em
      exact fin k S' (by omega) em.symm f1 f2 f3 f4 f5
    · have em := run_mid (c := cD) (B := B) hs (show s ≤ s + k by omega) hk
      rw [run_t (by omega) q] at em
      have hlt := run_ge (c := cD) (B := B) (show s + k + 1 ≤ len by omega)
      rw [em] at hlt
      have go : ∀ v, v = nI (nvl B s (k + 1)) → q_X9_nextToken_307 K (q_X9_nextToken_241 K (n + 1)) S' v := fun v hv => by
        unfold q_X9_nextToken_307
        rw [all_eq, all_eq, all_eq]
        refine ih (k + 1) _ (by omega) (by omega) (FrT_I (FrT_I (FrT_I f1 _ (by omega) (by omega)) _ (by omega) (by omega)) _ (by omega) (by omega)) ?_ ?_ ?_ ?_
        · rw [sI_other _ _ _ (by omega), sI_other _ _ _ (by omega), sI_other _ _ _ (by omega)]; exact f2
        · rw [sI_same, sI_other _ _ _ (by omega), sI_other _ _ _ (by omega), f3, nI_add]; rfl
        · rw [sI_other _ _ _ (by omega), sI_same, sI_other _ _ _ (by omega), f4, nI_add]
        · rw [sI_other _ _ _ (by omega), sI_other _ _ _ (by omega), sI_same, hv]
      rw [f4, nle _ _ (by omega) (by omega)]
      refine ⟨fun q2 => go _ ?_, fun q2 => ⟨vp_in_nI (by omega) (by omega), go _ ?_⟩⟩
      · rw [f5, nvl_2 q2, nvl_2 (by omega : 2 ≤ k + 1)]
      · rw [f5]
        exact nvl_s (by omega) (fun i hi => dig_rg hs i (by omega))
theorem M_tok {pos : Nat} (h : TM S len B) (h11 : S.1 0 11 = nI pos) (hp : pos ≤ len) (hK : ∀ S', FrT S S' → S'.1 0 12 = nI (run cB len B pos) → TK len B (run cB len B pos) S' → K S') : q_X9_nextToken S K := by
  have hl := h.2.1
  have fin : ∀ (j : Nat) (S' : St), j ≤ len → run cB len B pos = j → FrT S S' → S'.1 0 11 = nI j → q_X9_nextToken_38 K S' := fun j S' hj e f1 f2 => by
    rw [e] at hK
    unfold q_X9_nextToken_38
    rw [all_eq, all_eq, all_eq]
    obtain ⟨S3, hS3⟩ : ∃ S3, S3 = sI (sI (sI S' 0 12 (S'.1 0 11)) 0 14 (nI 0)) 0 15 (nI 0) := ⟨_, rfl⟩
    rw [← hS3]
    have g1 : FrT S S3 := by rw [hS3]; exact FrT_I (FrT_I (FrT_I f1 _ (by omega) (by omega)) _ (by omega) (by omega)) _ (by omega) (by omega)
    have g11 : S3.1 0 11 = nI j := by rw [hS3, sI_other _ _ _ (by omega), sI_other _ _ _ (by omega), sI_other _ _ _ (by omega)]; exact f2
    have g12 : S3.1 0 12 = nI j := by rw [hS3, sI_other _ _ _ (by omega), sI_other _ _ _ (by omega), sI_same]; exact f2
    have g14 : S3.1 0 14 = nI 0 := by rw [hS3, sI_other _ _ _ (by omega), sI_same]
    have g15 : S3.1 0 15 = nI 0 := by rw [hS3, sI_same]
    rw [g11, g1.2 9 (by omega), h.1, neq _ _ (by omega) (by omega)]
    refine ⟨fun q => ?_, fun q => ?_⟩
    · rw [all_eq]
      exact hK _ (FrT_J g1 _) g12 (Or.inl ⟨q, by rw [sJ_s], g11⟩)
    · have hb := h.2.2 j (by omega)
      rw [ncl _ (by omega), g1.1 4 (by omega), hb.1, f_X9_in, f_X9_in, bI_c (inL hb.2), bI_c (inD hb.2), bbr, bbr, neq _ _ (by omega) (by omega)]
      refine ⟨vp_in_nI (by omega) (by omega), fun c1 => ⟨vp_in_nI (by omega) (by omega), fun c2 => ⟨vp_in_nI (by omega) (by omega), ?_⟩, fun c2 => ?_⟩, fun c1 => ?_⟩
      · unfold q_X9_nextToken_381
        rw [all_eq, all_eq, all_eq, all_eq, sJ_1, sJ_1, g11, nI_add]
        refine ⟨fun c3 => hK _ (FrT_I (FrT_J g1 _) _ (by omega) (by omega)) (by rw [sI_other _ _ _ (by omega)]; exact g12) (Or.inr (Or.inr (Or.inr ⟨by omega, c1, c2, by rw [sI_same], ?_⟩))), fun c3 => hK _ (FrT_I (FrT_J g1 _) _ (by omega) (by omega)) (by rw [sI_other _ _ _ (by omega)]; exact g12) (Or.inr (Or.inr (Or.inr ⟨by omega, c1, c2, by rw [sI_same], ?_⟩)))⟩
        · rw [sI_2, sJ_s, if_pos c3]
        · rw [sI_2, sJ_s, if_neg c3]
      · exact ⟨_, M_digits h hj (fun S4 k1 k2 k3 k4 k5 => hK S4 k1 k2 (Or.inr (Or.inr (Or.inl ⟨by omega, c2, k3, k4, k5⟩)))) (len - j) 0 S3 (by omega) (run_ge hj) g1 g12 g11 g14 g15⟩
      · rw [all_eq]
        exact ⟨_, M_letters h hj (fun S4 k1 k2 k3 k4 => hK S4 k1 k2 (Or.inr (Or.inl ⟨by omega, c1, k3, k4⟩))) (len - j) 0 _ (by omega) (run_ge hj) (FrT_J g1 _) g12 g11 (by rw [sJ_s]; rfl)⟩
  have l : ∀ (n j : Nat) (S' : St), j + n = len → run cB len B j = run cB len B pos → FrT S S' → S'.1 0 11 = nI j → q_X9_nextToken_0 K (n + 1) S' := by
    intro n
    induction n with
    | zero =>
      intro j S' hn e f1 f2
      rw [q_X9_nextToken_0_s, f1.2 9 (by omega), h.1, f2, nle _ _ (by omega) (by omega), and_if (by omega)]
      rw [run_f (by omega)] at e
      exact fin j S' (by omega) e.symm f1 f2
    | succ n ih =>
      intro j S' hn e f1 f2
      have hb := h.2.2 j (by omega)
      rw [q_X9_nextToken_0_s, f1.2 9 (by omega), h.1, f2, nle _ _ (by omega) (by omega), and_nif (by omega), ncl _ (by omega), f1.1 4 (by omega), hb.1, neq _ _ (by omega) (by omega)]
      refine ⟨vp_in_nI (by omega) (by omega), fun q => ?_, fun q => ?_⟩
      · rw [all_eq, nI_add]
        rw [run_t (by omega) (decide_eq_true q)] at e
        exact ih (j + 1) _ (by omega) e (FrT_I f1 _ (by omega) (by omega)) (by rw [sI_same])
      · rw [run_f (fun z => q (of_decide_eq_true z.2))] at e
        exact fin j S' (by omega) e.symm f1 f2
  exact ⟨_, l (len - pos) pos S (by omega) rfl ⟨fun _ _ => rfl, fun _ _ => rfl⟩ h11⟩
theorem l_neg {n : Nat} (h : n < 2 ^ 63) : ¬ lN n = -1 ∧ ¬ lN n = -2 ∧ ¬ lN n = -3 ∧ ¬ lN n = -4 := by
  refine ⟨fun q => ?_, fun q => ?_, fun q => ?_, fun q => ?_⟩ <;> rw [l_eq, lT h] at q
  · have q : (n : Int) = -1 := q
    omega
  · have q : (n : Int) = -2 := q
    omega
  · have q : (n : Int) = -3 := q
    omega
  · have q : (n : Int) = -4 := q
    omega
theorem cmpE (x y : Int64) : lg_cmp x y = nI 0 ↔ x = y := lg_cmp_eq x y
theorem LD {b : Nat} (h : cL b = true) : ¬ cD b = true := fun q => by
  have h1 : 97 ≤ b ∧ b ≤ 122 := of_decide_eq_true h
  have h2 : 48 ≤ b ∧ b ≤ 57 := of_decide_eq_true q
  omega
theorem let_rg {s : Nat} (hs : s ≤ len) : ∀ i, i < run cL len B s - s → 97 ≤ B (s + i) ∧ B (s + i) ≤ 122 := fun i hi => by
  have h1 := run_ge (c := cL) (B := B) hs
  have := run_in (c := cL) (B := B) _ s rfl hs (s + i) (by omega) (by omega)
  exact of_decide_eq_true this
theorem cd_63 {s n : Nat} (hn : n ≤ 9) (hl : ∀ i, i < n → 97 ≤ B (s + i) ∧ B (s + i) ≤ 122) : cd B s n < 2 ^ 63 := by
  have h1 := cd_lt (s := s) n hn hl
  have h2 : 27 ^ n ≤ 27 ^ 9 := Nat.pow_le_pow_right (by omega) hn
  have h3 : 27 ^ 9 < 2 ^ 63 := by decide
  omega
/-- a token that is digits, or is not -/
theorem TK_num {s : Nat} {S' : St} (hs : s ≤ len) (h : TK len B s S') : (S'.2 0 13 = -1 ↔ run cD len B s - s ≠ 0 ∧ run cD len B s - s ≤ 2) ∧ (S'.2 0 13 = -1 → S'.1 0 11 = nI (run cD len B s) ∧ S'.1 0 15 = nI (nvl B s (run cD len B s - s))) := by
  rcases h with ⟨a, b, c⟩ | ⟨a, b, c, d⟩ | ⟨a, b, c, d, e⟩ | ⟨a, b, c, d, e⟩
  · have e : run cD len B s = s := run_f (by omega)
    rw [b, e, Nat.sub_self]
    exact ⟨⟨fun q => absurd q (by decide), fun q => absurd rfl q.1⟩, fun q => absurd q (by decide)⟩
  · have e : run cD len B s = s := run_f (fun z => LD b z.2)
    have hn : ¬ S'.2 0 13 = -1 := by
      rw [d]
      by_cases q : run cL len B s - s ≤ 9
      · rw [if_pos q]; exact (l_neg (cd_63 q (let_rg hs))).1
      · rw [if_neg q]; decide
    rw [e, Nat.sub_self]
    exact ⟨⟨fun q => absurd q hn, fun q => absurd rfl q.1⟩, fun q => absurd q hn⟩
  · have h1 := run_ge (c := cD) (B := B) (show s + 1 ≤ len by omega)
    rw [← run_t a b] at h1
    rw [d]
    by_cases q : run cD len B s - s ≤ 2
    · rw [if_pos q]; exact ⟨⟨fun _ => ⟨by omega, q⟩, fun _ => rfl⟩, fun _ => ⟨c, e⟩⟩
    · rw [if_neg q]; exact ⟨⟨fun z => absurd z (by decide), fun z => absurd z.2 q⟩, fun z => absurd z (by decide)⟩
  · have e2 : run cD len B s = s := run_f (fun z => c z.2)
    have hn : ¬ S'.2 0 13 = -1 := by
      rw [e]
      by_cases q : B s = 59
      · rw [if_pos q]; decide
      · rw [if_neg q]; decide
    rw [e2, Nat.sub_self]
    exact ⟨⟨fun q => absurd q hn, fun q => absurd rfl q.1⟩, fun q => absurd q hn⟩
theorem TK_word {s w : Nat} {S' : St} (hs : s ≤ len) (hw : w < 9) (h : TK len B s S') : (S'.2 0 13 = lN (wcT.getD w 0) ↔ spd B w s (run cL len B s)) ∧ (spd B w s (run cL len B s) → S'.1 0 11 = nI (run cL len B s)) := by
  have hl := nmL_le w hw
  have hc := wcT_lt w hw
  have ng := l_neg (n := wcT.getD w 0) (by omega)
  rcases h with ⟨a, b, c⟩ | ⟨a, b, c, d⟩ | ⟨a, b, c, d, e⟩ | ⟨a, b, c, d, e⟩
  · have e : run cL len B s = s := run_f (by omega)
    have hn : ¬ spd B w s (run cL len B s) := fun q => by have := q.1; omega
    rw [b]
    exact ⟨⟨fun q => absurd q.symm ng.2.1, fun q => absurd q hn⟩, fun q => absurd q hn⟩
  · rw [d]
    refine ⟨?_, fun _ => c⟩
    by_cases q : run cL len B s - s ≤ 9
    · rw [if_pos q, l_eq, lT (cd_63 q (let_rg hs)), lT (by omega), ← vw_wc w hw]
      have := cd_vw (B := B) (s := s) hw (nmL w) (run cL len B s - s) hl.1 (let_rg hs)
      unfold spd
      rw [← this]
      omega
    · rw [if_neg q]
      exact ⟨fun z => absurd z.symm ng.2.2.2, fun z => by have := z.1; omega⟩
  · have e2 : run cL len B s = s := run_f (fun z => LD z.2 b)
    have hn : ¬ spd B w s (run cL len B s) := fun q => by have := q.1; omega
    rw [d]
    by_cases q : run cD len B s - s ≤ 2
    · rw [if_pos q]; exact ⟨⟨fun q => absurd q.symm ng.1, fun q => absurd q hn⟩, fun q => absurd q hn⟩
    · rw [if_neg q]; exact ⟨⟨fun q => absurd q.symm ng.2.2.2, fun q => absurd q hn⟩, fun q => absurd q hn⟩
  · have e2 : run cL len B s = s := run_f (fun z => b z.2)
    have hn : ¬ spd B w s (run cL len B s) := fun q => by have := q.1; omega
    rw [e]
    by_cases q : B s = 59
    · rw [if_pos q]; exact ⟨⟨fun q => absurd q.symm ng.2.2.1, fun q => absurd q hn⟩, fun q => absurd q hn⟩
    · rw [if_neg q]; exact ⟨⟨fun q => absurd q.symm ng.2.2.2, fun q => absurd q hn⟩, fun q => absurd q hn⟩
theorem TK_sign {s : Nat} {S' : St} (hs : s ≤ len) (h : TK len B s S') : (S'.2 0 13 = -3 ↔ s < len ∧ B s = 59) ∧ (S'.2 0 13 = -2 ↔ s = len) ∧ (S'.2 0 13 = -3 → S'.1 0 11 = nI (s + 1)) := by
  rcases h with ⟨a, b, c⟩ | ⟨a, b, c, d⟩ | ⟨a, b, c, d, e⟩ | ⟨a, b, c, d, e⟩
  · rw [b]
    exact ⟨⟨fun q => absurd q (by decide), fun q => by omega⟩, ⟨fun _ => a, fun _ => rfl⟩, fun q => absurd q (by decide)⟩
  · have h1 : 97 ≤ B s ∧ B s ≤ 122 := of_decide_eq_true b
    have hn : ¬ S'.2 0 13 = -3 ∧ ¬ S'.2 0 13 = -2 := by
      rw [d]
      by_cases q : run cL len B s - s ≤ 9
      · rw [if_pos q]; exact ⟨(l_neg (cd_63 q (let_rg hs))).2.2.1, (l_neg (cd_63 q (let_rg hs))).2.1⟩
      · rw [if_neg q]; decide
    exact ⟨⟨fun q => absurd q hn.1, fun q => by omega⟩, ⟨fun q => absurd q hn.2, fun q => by omega⟩, fun q => absurd q hn.1⟩
  · have h1 : 48 ≤ B s ∧ B s ≤ 57 := of_decide_eq_true b
    have hn : ¬ S'.2 0 13 = -3 ∧ ¬ S'.2 0 13 = -2 := by
      rw [d]
      by_cases q : run cD len B s - s ≤ 2
      · rw [if_pos q]; decide
      · rw [if_neg q]; decide
    exact ⟨⟨fun q => absurd q hn.1, fun q => by omega⟩, ⟨fun q => absurd q hn.2, fun q => by omega⟩, fun q => absurd q hn.1⟩
  · rw [e]
    by_cases q : B s = 59
    · rw [if_pos q]
      exact ⟨⟨fun _ => ⟨a, q⟩, fun _ => rfl⟩, ⟨fun z => absurd z (by decide), fun z => by omega⟩, fun _ => d⟩
    · rw [if_neg q]
      exact ⟨⟨fun z => absurd z (by decide), fun z => absurd z.2 q⟩, ⟨fun z => absurd z (by decide), fun z => by omega⟩, fun z => absurd z (by decide)⟩
end TO
