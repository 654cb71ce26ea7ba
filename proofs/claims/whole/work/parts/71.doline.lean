/-! ===== a line is done: the reference ===== -/
def RSL (T S : St) : Prop := RS T S ∧ S.1 0 5 = T.1 4 4
def FrD (S S' : St) : Prop := (∀ c, 4 ≤ c → S'.1 c = S.1 c) ∧ ∀ f, 8 < f → S'.1 0 f = S.1 0 f
def pw (f : Nat → Int32) (h a i : Nat) (v1 v2 : Int32) : Nat → Int32 := fun j => if 24 * h + 2 * a ≤ j ∧ j < 24 * h + 2 * i then (if j % 2 = 0 then v1 else v2) else f j
theorem pw_s {f : Nat → Int32} {h a i : Nat} {v1 v2 : Int32} (ha : a ≤ i) : upd (upd (pw f h a i v1 v2) (24 * h + 2 * i) v1) (24 * h + 2 * i + 1) v2 = pw f h a (i + 1) v1 v2 := by
  funext j
  unfold pw
  by_cases c1 : j = 24 * h + 2 * i + 1
  · rw [c1, upd_s, if_pos (by omega), if_neg (by omega)]
  · rw [upd_n _ _ c1]
    by_cases c2 : j = 24 * h + 2 * i
    · rw [c2, upd_s, if_pos (by omega), if_pos (by omega)]
    · rw [upd_n _ _ c2]
      by_cases c3 : 24 * h + 2 * a ≤ j ∧ j < 24 * h + 2 * i
      · rw [if_pos c3, if_pos (show 24 * h + 2 * a ≤ j ∧ j < 24 * h + 2 * (i + 1) by omega)]
      · rw [if_neg c3, if_neg (by omega)]
theorem pw_in {f : Nat → Int32} {h a i t : Nat} {v1 v2 : Int32} (h1 : a ≤ t) (h2 : t < i) : pw f h a i v1 v2 (24 * h + 2 * t) = v1 ∧ pw f h a i v1 v2 (24 * h + 2 * t + 1) = v2 := by
  unfold pw
  rw [if_pos (show 24 * h + 2 * a ≤ 24 * h + 2 * t ∧ 24 * h + 2 * t < 24 * h + 2 * i by omega), if_pos (show (24 * h + 2 * t) % 2 = 0 by omega), if_pos (show 24 * h + 2 * a ≤ 24 * h + 2 * t + 1 ∧ 24 * h + 2 * t + 1 < 24 * h + 2 * i by omega), if_neg (show ¬ (24 * h + 2 * t + 1) % 2 = 0 by omega)]
  exact ⟨rfl, rfl⟩
theorem pw_out {f : Nat → Int32} {h h' a i t : Nat} {v1 v2 : Int32} (hi : i ≤ 12) (ht : t < 12) (h1 : ¬ (h' = h ∧ a ≤ t ∧ t < i)) : pw f h a i v1 v2 (24 * h' + 2 * t) = f (24 * h' + 2 * t) ∧ pw f h a i v1 v2 (24 * h' + 2 * t + 1) = f (24 * h' + 2 * t + 1) := by
  unfold pw
  rw [if_neg (by omega), if_neg (by omega)]
  exact ⟨rfl, rfl⟩
theorem wR_in {f : Nat → Int32} {h a b t : Nat} {v : Int32} (h0 : 1 ≤ h) (ht : t < 12) (h1 : a ≤ t) (h2 : t ≤ b) : wR f h a b 12 v (wIx h t) = v := by
  unfold wR wIx
  rw [if_pos (by omega)]
theorem wR_out {f : Nat → Int32} {h h' a b t : Nat} {v : Int32} (h0 : 1 ≤ h) (h0' : 1 ≤ h') (hb : b ≤ 11) (ht : t < 12) (h1 : ¬ (h' = h ∧ a ≤ t ∧ t ≤ b)) : wR f h a b 12 v (wIx h' t) = f (wIx h' t) := by
  unfold wR wIx
  rw [if_neg (by omega)]
section DO
variable {S T : St} {n : Nat → Nat} {K : St → Prop} {k : Nat}
theorem M_pw {h a b : Nat} {v1 v2 : Int32} (hh : h ≤ 3) (ha : a ≤ 11) (hb : b ≤ 11) (hK : K (sF S 1 (pw (S.1 1) h a (max a (b + 1)) v1 v2))) : q_X9_putWind S (nI h) (nI a) (nI b) v1 v2 K := by
  have l : ∀ m i, i + m = max a (b + 1) → a ≤ i → q_X9_putWind_3 (nI h) (nI a) (nI b) v1 v2 K (m + 1) (sF S 1 (pw (S.1 1) h a i v1 v2)) (nI i) := by
    intro m
    induction m with
    | zero =>
      intro i hi h1
      rw [q_X9_putWind_3_s, nlt _ _ (by omega) (by omega), and_if (by omega), show i = max a (b + 1) by omega]
      exact hK
    | succ m ih =>
      intro i hi h1
      rw [q_X9_putWind_3_s, nlt _ _ (by omega) (by omega), and_nif (by omega), m24, nI_add, ncl _ (by omega), ncl _ (by omega), all_eq, all_eq, all_eq, nI_add, sI_sF, sI_sF, pw_s h1]
      exact ⟨vp_in_nI (by omega) (by omega), vp_in_nI (by omega) (by omega), ih (i + 1) (by omega) (by omega)⟩
  have := l (max a (b + 1) - a) a (by omega) (Nat.le_refl _)
  have e : pw (S.1 1) h a a v1 v2 = S.1 1 := by funext j; unfold pw; rw [if_neg (by omega)]
  rw [e, sF_id] at this
  exact ⟨_, this⟩
theorem tl0_c {c : Nat} (h : c ≠ 7) (h2 : c ≠ 8) : (tl0 T n).1 c = T.1 c := by unfold tl0; rw [sF_ne _ _ _ h2, sF_ne _ _ _ h]
theorem tl0_7 : (tl0 T n).1 7 = wR (T.1 7) (n 0) (n 1) (n 2) 12 (nI (n 3)) := by unfold tl0; rw [sF_ne _ _ _ (by omega), sF_self]
theorem tl0_8 : (tl0 T n).1 8 = wR (T.1 8) (n 0) (n 1) (n 2) 12 (nI (n 4) - nI 3) := by unfold tl0; rw [sF_self]
theorem tl1_c {c : Nat} (h : c ≠ 9 + n 0) : (tl1 T n).1 c = T.1 c := by
  unfold tl1
  rw [sI_ne _ _ _ _ h, sI_ne _ _ _ _ h, sI_ne _ _ _ _ h, sI_ne _ _ _ _ h, sI_ne _ _ _ _ h, sI_ne _ _ _ _ h]
theorem tl1_a {j : Nat} (hj : j < 6) : (tl1 T n).1 (9 + n 0) j = if j = 0 then nI 1 else nI (n j) := by
  unfold tl1
  simp only [sI_row]
  rcases (show j = 0 ∨ j = 1 ∨ j = 2 ∨ j = 3 ∨ j = 4 ∨ j = 5 by omega) with rfl | rfl | rfl | rfl | rfl | rfl <;> simp (disch := omega) only [upd_s, upd_n] <;> rfl
theorem tl2_c {c : Nat} (h : c ≠ 15 + n 0) : (tl2 T n).1 c = T.1 c := by
  unfold tl2
  rw [sI_ne _ _ _ _ h, sI_ne _ _ _ _ h, sI_ne _ _ _ _ h, sI_ne _ _ _ _ h, sI_ne _ _ _ _ h, sI_ne _ _ _ _ h]
theorem tl2_a {j : Nat} (hj : j < 6) : (tl2 T n).1 (15 + n 0) j = if j = 0 then nI 1 else if j = 3 ∨ j = 4 then nI (n j) - nI 1 else nI (n j) := by
  unfold tl2
  simp only [sI_row]
  rcases (show j = 0 ∨ j = 1 ∨ j = 2 ∨ j = 3 ∨ j = 4 ∨ j = 5 by omega) with rfl | rfl | rfl | rfl | rfl | rfl <;> simp (disch := omega) only [upd_s, upd_n] <;> rfl
theorem tl7_c {c : Nat} (h : c ≠ 4) (h1 : c ≠ 7) (h2 : c ≠ 8) : (tl7 T).1 c = T.1 c := by
  unfold tl7
  rw [sI_ne _ _ _ _ h, sI_ne _ _ _ _ h, sF_ne _ _ _ h2, sF_ne _ _ _ h1]
theorem tl7_7 {j : Nat} (hj : j < 36) : (tl7 T).1 7 j = nI 0 ∧ (tl7 T).1 8 j = nI 0 := by
  unfold tl7
  rw [sI_ne _ _ _ _ (by omega), sI_ne _ _ _ _ (by omega), sI_ne _ _ _ _ (by omega), sI_ne _ _ _ _ (by omega), sF_ne _ _ _ (by omega), sF_self, sF_self]
  unfold z36
  rw [if_pos hj, if_pos hj]
  exact ⟨rfl, rfl⟩
theorem tl7_4 (j : Nat) : (tl7 T).1 4 j = if j = 6 ∨ j = 7 then nI 0 else T.1 4 j := by
  unfold tl7
  by_cases c7 : j = 7
  · rw [c7, sI_same, if_pos (by omega)]
  · rw [sI_other _ _ _ c7]
    by_cases c6 : j = 6
    · rw [c6, sI_same, if_pos (by omega)]
    · rw [sI_other _ _ _ c6, sF_ne _ _ _ (by omega), sF_ne _ _ _ (by omega), if_neg (by omega)]
/-- the rows stay for a sea that has the same told kites, shoals, winds -/
theorem RS_of {T' : St} (R : RS T S) (e : ∀ c, 7 ≤ c → c < 19 → T'.1 c = T.1 c) {S' : St} (e1 : ∀ c, 1 ≤ c → c < 4 → S'.1 c = S.1 c) (f1 : S'.1 0 1 = S.1 0 1) (f3 : S'.1 0 3 = S.1 0 3) (f6 : S'.1 0 6 = T'.1 4 5) (f7 : S'.1 0 7 = T'.1 4 6) (f8 : S'.1 0 8 = T'.1 4 7) : RS T' S' := by
  obtain ⟨⟨kb, k1, k2, k3⟩, r2, ⟨sb, s1, s2, s3⟩, r4, r5, -, r7, r8, r9⟩ := R
  refine ⟨⟨kb, k1, by rw [f1]; exact k2, fun k hk => ?_⟩, fun k j hk hj => ?_, ⟨sb, s1, by rw [f3]; exact s2, fun s hs => ?_⟩, fun s j hs hj => ?_, fun h t h1 h3 ht => ?_, trivial, f6, f7, f8⟩
  · rw [k3 k hk]; unfold tK; rw [e (9 + k) (by omega) (by omega)]
  · rw [e1 2 (by omega) (by omega), r2 k j hk hj, e (9 + k) (by omega) (by omega)]
  · rw [s3 s hs]; unfold tS; rw [e (15 + s) (by omega) (by omega)]
  · rw [e1 3 (by omega) (by omega), r4 s j hs hj, e (15 + s) (by omega) (by omega)]
  · rw [e1 1 (by omega) (by omega), e 7 (by omega) (by omega), e 8 (by omega) (by omega)]; exact r5 h t h1 h3 ht
theorem D_wind (R : RSL T S) (b0 : 1 ≤ n 0) (b0' : n 0 ≤ 3) (b1 : n 1 ≤ 11) (b2 : n 2 ≤ 11) : RSL (tl0 T n) (sF S 1 (pw (S.1 1) (n 0) (n 1) (max (n 1) (n 2 + 1)) (nI (n 3)) (nI (n 4) - nI 3))) := by
  obtain ⟨⟨⟨kb, k1, k2, k3⟩, r2, ⟨sb, s1, s2, s3⟩, r4, r5, -, r7, r8, r9⟩, hl⟩ := R
  refine ⟨⟨⟨kb, k1, by rw [sF_ne _ _ _ (by omega)]; exact k2, fun k hk => ?_⟩, fun k j hk hj => ?_, ⟨sb, s1, by rw [sF_ne _ _ _ (by omega)]; exact s2, fun s hs => ?_⟩, fun s j hs hj => ?_, fun h t h1 h3 ht => ?_, trivial, ?_, ?_, ?_⟩, ?_⟩
  · rw [k3 k hk]; unfold tK; rw [tl0_c (by omega) (by omega)]
  · rw [sF_ne _ _ _ (by omega), tl0_c (by omega) (by omega)]; exact r2 k j hk hj
  · rw [s3 s hs]; unfold tS; rw [tl0_c (by omega) (by omega)]
  · rw [sF_ne _ _ _ (by omega), tl0_c (by omega) (by omega)]; exact r4 s j hs hj
  · rw [sF_self, tl0_7, tl0_8]
    obtain ⟨q1, q2⟩ := r5 h t h1 h3 ht
    by_cases c : h = n 0 ∧ n 1 ≤ t ∧ t ≤ n 2
    · obtain ⟨c1, c2, c3⟩ := c
      rw [c1, wR_in b0 ht c2 c3, wR_in b0 ht c2 c3]
      exact pw_in c2 (by omega)
    · rw [wR_out b0 h1 b2 ht c, wR_out b0 h1 b2 ht c]
      obtain ⟨p1, p2⟩ := pw_out (f := S.1 1) (v1 := nI (n 3)) (v2 := nI (n 4) - nI 3) (show max (n 1) (n 2 + 1) ≤ 12 by omega) ht (show ¬ (h = n 0 ∧ n 1 ≤ t ∧ t < max (n 1) (n 2 + 1)) by omega)
      rw [p1, p2]
      exact ⟨q1, q2⟩
  · rw [sF_ne _ _ _ (by omega), tl0_c (by omega) (by omega)]; exact r7
  · rw [sF_ne _ _ _ (by omega), tl0_c (by omega) (by omega)]; exact r8
  · rw [sF_ne _ _ _ (by omega), tl0_c (by omega) (by omega)]; exact r9
  · rw [sF_ne _ _ _ (by omega), tl0_c (by omega) (by omega)]; exact hl
/-- rows of five: those of kite or shoal a are new as far as i -/
def rw5 (f : Nat → Int32) (a i : Nat) (v : Nat → Int32) : Nat → Int32 := fun j => if 5 * a ≤ j ∧ j < 5 * a + i then v (j - 5 * a) else f j
theorem rw5_s (f : Nat → Int32) (a i : Nat) (v : Nat → Int32) : upd (rw5 f a i v) (5 * a + i) (v i) = rw5 f a (i + 1) v := by
  funext j
  unfold rw5
  by_cases c : j = 5 * a + i
  · rw [c, upd_s, if_pos (by omega), show 5 * a + i - 5 * a = i by omega]
  · rw [upd_n _ _ c]
    by_cases c2 : 5 * a ≤ j ∧ j < 5 * a + i
    · rw [if_pos c2, if_pos (by omega)]
    · rw [if_neg c2, if_neg (by omega)]
theorem rw5_0 (f : Nat → Int32) (a : Nat) (v : Nat → Int32) : rw5 f a 0 v = f := by funext j; unfold rw5; rw [if_neg (by omega)]
theorem bit_or {m a k : Nat} : (m ||| 2 ^ a).testBit k = true ↔ m.testBit k = true ∨ k = a := by
  rw [Nat.testBit_or, Bool.or_eq_true, Nat.testBit_two_pow]
  simp only [decide_eq_true_eq]
  constructor
  · rintro (h | h)
    · exact Or.inl h
    · exact Or.inr h.symm
  · rintro (h | h)
    · exact Or.inl h
    · exact Or.inr h.symm
theorem D_kite (R : RSL T S) (b0 : n 0 ≤ 5) (h5 : ∀ i, i < 6 → S.1 5 (7 * k + 1 + i) = nI (n i)) (hk : k < 10)
    (hK : ∀ S', RSL (tl1 T n) S' → FrD S S' → K S') : ∃ f, q_X9_doLine_116 (nI (7 * k)) K f (sI S 0 1 (S.1 0 1 ||| nI 1 <<< (nI (n 0) &&& 31))) (nI (n 0)) (nI 0) := by
  obtain ⟨S1, hS1⟩ : ∃ S1, S1 = sI S 0 1 (S.1 0 1 ||| nI 1 <<< (nI (n 0) &&& 31)) := ⟨_, rfl⟩
  rw [← hS1]
  have e5 : S1.1 5 = S.1 5 := by rw [hS1, sI_ne _ _ _ _ (by omega)]
  have l : ∀ m i, i + m = 5 → q_X9_doLine_116 (nI (7 * k)) K (m + 1) (sF S1 2 (rw5 (S.1 2) (n 0) i (fun j => nI (n (j + 1))))) (nI (n 0)) (nI i) := by
    intro m
    induction m with
    | zero =>
      intro i hi
      rw [q_X9_doLine_116_s, nle _ _ (by omega) (by omega), and_if (by omega), show i = 5 by omega]
      obtain ⟨⟨⟨kb, k1, k2, k3⟩, r2, ⟨sb, s1, s2, s3⟩, r4, r5, -, r7, r8, r9⟩, hl⟩ := R
      have f0 : ∀ f, f ≠ 1 → (sF S1 2 (rw5 (S.1 2) (n 0) 5 (fun j => nI (n (j + 1))))).1 0 f = S.1 0 f := fun f hf => by rw [sF_ne _ _ _ (by omega), hS1, sI_other _ _ _ hf]
      have fc : ∀ c, c ≠ 0 → c ≠ 2 → (sF S1 2 (rw5 (S.1 2) (n 0) 5 (fun j => nI (n (j + 1))))).1 c = S.1 c := fun c c0 c2 => by rw [sF_ne _ _ _ c2, hS1, sI_ne _ _ _ _ c0]
      refine hK _ ⟨⟨⟨kb ||| 2 ^ n 0, Nat.or_lt_two_pow (n := 6) k1 (Nat.pow_lt_pow_right (by omega) (by omega)), ?_, fun q hq => ?_⟩, fun q j hq hj => ?_, ⟨sb, s1, by rw [f0 _ (by omega)]; exact s2, fun s hs => ?_⟩, fun s j hs hj => ?_, fun h t h1 h3 ht => ?_, trivial, ?_, ?_, ?_⟩, ?_⟩ ⟨fun c hc => fc c (by omega) (by omega), fun f hf => f0 f (by omega)⟩
      · rw [sF_ne _ _ _ (by omega), hS1, sI_same, k2, shl1 _ (by omega), nI_or]
      · rw [bit_or, k3 q hq]
        unfold tK
        by_cases c : q = n 0
        · rw [c, tl1_a (by omega), if_pos rfl]
          exact ⟨fun _ => by decide, fun _ => Or.inr rfl⟩
        · rw [tl1_c (by omega)]
          exact ⟨fun z => z.elim (fun y => y) (fun y => absurd y c), Or.inl⟩
      · rw [sF_self]
        unfold rw5
        by_cases c : q = n 0
        · rw [c, if_pos (by omega), tl1_a (by omega), if_neg (by omega), show 5 * n 0 + j - 5 * n 0 = j by omega]
        · rw [if_neg (by omega), tl1_c (by omega)]; exact r2 q j hq hj
      · rw [s3 s hs]; unfold tS; rw [tl1_c (by omega)]
      · rw [fc 3 (by omega) (by omega), tl1_c (by omega)]; exact r4 s j hs hj
      · rw [fc 1 (by omega) (by omega), tl1_c (by omega), tl1_c (by omega)]; exact r5 h t h1 h3 ht
      · rw [f0 _ (by omega), tl1_c (by omega)]; exact r7
      · rw [f0 _ (by omega), tl1_c (by omega)]; exact r8
      · rw [f0 _ (by omega), tl1_c (by omega)]; exact r9
      · rw [f0 _ (by omega), tl1_c (by omega)]; exact hl
    | succ m ih =>
      intro i hi
      have hv : S.1 5 (7 * k + 2 + i) = nI (n (i + 1)) := by rw [show 7 * k + 2 + i = 7 * k + 1 + (i + 1) by omega]; exact h5 (i + 1) (by omega)
      rw [q_X9_doLine_116_s, nle _ _ (by omega) (by omega), and_nif (by omega), nI_add, nI_add, m5, ncl _ (by omega), ncl _ (by omega), all_eq, all_eq, nI_add, sF_ne _ _ _ (show 5 ≠ 2 by omega), e5, hv, sI_sF, rw5_s (S.1 2) (n 0) i (fun j => nI (n (j + 1)))]
      exact ⟨vp_in_nI (by omega) (by omega), vp_in_nI (by omega) (by omega), ih (i + 1) (by omega)⟩
  have := l 5 0 (by omega)
  have e2 : S.1 2 = S1.1 2 := by rw [hS1, sI_ne _ _ _ _ (by omega)]
  rw [rw5_0, e2, sF_id] at this
  exact ⟨6, this⟩
def shV (n : Nat → Nat) (j : Nat) : Int32 := nI (n (j + 1)) - (if j = 2 ∨ j = 3 then nI 1 else nI 0)
theorem D_shoal (R : RSL T S) (b0 : n 0 ≤ 3) (h5 : ∀ i, i < 6 → S.1 5 (7 * k + 1 + i) = nI (n i)) (hk : k < 10)
    (hK : ∀ S', RSL (tl2 T n) S' → FrD S S' → K S') : ∃ f, q_X9_doLine_164 (nI (7 * k)) K f (sI S 0 3 (S.1 0 3 ||| nI 1 <<< (nI (n 0) &&& 31))) (nI (n 0)) (nI 0) := by
  obtain ⟨S1, hS1⟩ : ∃ S1, S1 = sI S 0 3 (S.1 0 3 ||| nI 1 <<< (nI (n 0) &&& 31)) := ⟨_, rfl⟩
  rw [← hS1]
  have e5 : S1.1 5 = S.1 5 := by rw [hS1, sI_ne _ _ _ _ (by omega)]
  have l : ∀ m i, i + m = 5 → q_X9_doLine_164 (nI (7 * k)) K (m + 1) (sF S1 3 (rw5 (S.1 3) (n 0) i (shV n))) (nI (n 0)) (nI i) := by
    intro m
    induction m with
    | zero =>
      intro i hi
      rw [q_X9_doLine_164_s, nle _ _ (by omega) (by omega), and_if (by omega), show i = 5 by omega]
      obtain ⟨⟨⟨kb, k1, k2, k3⟩, r2, ⟨sb, s1, s2, s3⟩, r4, r5, -, r7, r8, r9⟩, hl⟩ := R
      have f0 : ∀ f, f ≠ 3 → (sF S1 3 (rw5 (S.1 3) (n 0) 5 (shV n))).1 0 f = S.1 0 f := fun f hf => by rw [sF_ne _ _ _ (by omega), hS1, sI_other _ _ _ hf]
      have fc : ∀ c, c ≠ 0 → c ≠ 3 → (sF S1 3 (rw5 (S.1 3) (n 0) 5 (shV n))).1 c = S.1 c := fun c c0 c2 => by rw [sF_ne _ _ _ c2, hS1, sI_ne _ _ _ _ c0]
      refine hK _ ⟨⟨⟨kb, k1, by rw [f0 _ (by omega)]; exact k2, fun q hq => ?_⟩, fun q j hq hj => ?_, ⟨sb ||| 2 ^ n 0, Nat.or_lt_two_pow (n := 4) s1 (Nat.pow_lt_pow_right (by omega) (by omega)), ?_, fun s hs => ?_⟩, fun s j hs hj => ?_, fun h t h1 h3 ht => ?_, trivial, ?_, ?_, ?_⟩, ?_⟩ ⟨fun c hc => fc c (by omega) (by omega), fun f hf => f0 f (by omega)⟩
      · rw [k3 q hq]; unfold tK; rw [tl2_c (by omega)]
      · rw [fc 2 (by omega) (by omega), tl2_c (by omega)]; exact r2 q j hq hj
      · rw [sF_ne _ _ _ (by omega), hS1, sI_same, s2, shl1 _ (by omega), nI_or]
      · rw [bit_or, s3 s hs]
        unfold tS
        by_cases c : s = n 0
        · rw [c, tl2_a (by omega), if_pos rfl]
          exact ⟨fun _ => by decide, fun _ => Or.inr rfl⟩
        · rw [tl2_c (by omega)]
          exact ⟨fun z => z.elim (fun y => y) (fun y => absurd y c), Or.inl⟩
      · rw [sF_self]
        unfold rw5
        by_cases c : s = n 0
        · rw [c, if_pos (by omega), tl2_a (by omega), if_neg (by omega), show 5 * n 0 + j - 5 * n 0 = j by omega]
          unfold shV
          by_cases c2 : j = 2 ∨ j = 3
          · rw [if_pos c2, if_pos (by omega)]
          · rw [if_neg c2, if_neg (by omega), s0]
        · rw [if_neg (by omega), tl2_c (by omega)]; exact r4 s j hs hj
      · rw [fc 1 (by omega) (by omega), tl2_c (by omega), tl2_c (by omega)]; exact r5 h t h1 h3 ht
      · rw [f0 _ (by omega), tl2_c (by omega)]; exact r7
      · rw [f0 _ (by omega), tl2_c (by omega)]; exact r8
      · rw [f0 _ (by omega), tl2_c (by omega)]; exact r9
      · rw [f0 _ (by omega), tl2_c (by omega)]; exact hl
    | succ m ih =>
      intro i hi
      have hv : S.1 5 (7 * k + 2 + i) = nI (n (i + 1)) := by rw [show 7 * k + 2 + i = 7 * k + 1 + (i + 1) by omega]; exact h5 (i + 1) (by omega)
      rw [q_X9_doLine_164_s, nle _ _ (by omega) (by omega), and_nif (by omega), nI_add, nI_add, m5, ncl _ (by omega), sF_ne _ _ _ (show 5 ≠ 3 by omega), e5, hv, neq _ _ (by omega) (by omega), neq _ _ (by omega) (by omega)]
      have go : ∀ v, v = (if i = 2 ∨ i = 3 then nI 1 else nI 0) → q_X9_doLine_203 (nI (7 * k)) K (q_X9_doLine_164 (nI (7 * k)) K (m + 1)) (sF S1 3 (rw5 (S.1 3) (n 0) i (shV n))) (nI (n 0)) (nI i) v (nI (n (i + 1))) (nI (5 * n 0 + i)) := fun v hv => by
        unfold q_X9_doLine_203
        rw [all_eq, all_eq, ncl _ (by omega), nI_add, sI_sF, hv]
        have e : nI (n (i + 1)) - (if i = 2 ∨ i = 3 then nI 1 else nI 0) = shV n i := rfl
        rw [e, rw5_s]
        exact ⟨vp_in_nI (by omega) (by omega), ih (i + 1) (by omega)⟩
      unfold q_X9_doLine_198
      refine ⟨vp_in_nI (by omega) (by omega), fun q => go _ (by rw [if_pos (Or.inl q)]), fun q => ⟨fun q2 => go _ (by rw [if_pos (Or.inr q2)]), fun q2 => go _ (by rw [if_neg (by omega)])⟩⟩
  have := l 5 0 (by omega)
  have e2 : S.1 3 = S1.1 3 := by rw [hS1, sI_ne _ _ _ _ (by omega)]
  rw [rw5_0, e2, sF_id] at this
  exact ⟨6, this⟩
theorem fo_lo {x : Int32} {a b : Nat} : ∀ i, i ≤ a → fo x a b i = x := by
  intro i
  induction i with
  | zero => intro _; rfl
  | succ i ih => intro h; rw [fo_f (by omega)]; exact ih (by omega)
theorem fo_hi {x : Int32} {a b : Nat} : ∀ m i, b < i → fo x a b (i + m) = fo x a b i := by
  intro m
  induction m with
  | zero => intro i _; rfl
  | succ m ih =>
    intro i h
    rw [show i + (m + 1) = i + m + 1 by omega, fo_f (by omega)]
    exact ih i h
theorem D_fog {a b : Nat} (ha : a ≤ 11) (hb : b ≤ 11) (h5 : S.1 5 (7 * k + 2) = nI b) (hk : k < 10) (hK : K (sI S 0 7 (fo (S.1 0 7) a b 12))) : ∃ f, q_X9_doLine_232 (nI (7 * k)) K f S (nI a) := by
  have l : ∀ m i, i + m = max a (b + 1) → a ≤ i → q_X9_doLine_232 (nI (7 * k)) K (m + 1) (sI S 0 7 (fo (S.1 0 7) a b i)) (nI i) := by
    intro m
    induction m with
    | zero =>
      intro i hi h1
      rw [q_X9_doLine_232_s, nI_add, ncl _ (by omega), sI_ne _ _ _ _ (by omega), h5, nlt _ _ (by omega) (by omega), and_if (by omega)]
      refine ⟨vp_in_nI (by omega) (by omega), ?_⟩
      have := fo_hi (x := S.1 0 7) (a := a) (b := b) (12 - i) i (by omega)
      rw [show i + (12 - i) = 12 by omega] at this
      rw [← this]
      exact hK
    | succ m ih =>
      intro i hi h1
      rw [q_X9_doLine_232_s, nI_add, ncl _ (by omega), sI_ne _ _ _ _ (by omega), h5, nlt _ _ (by omega) (by omega), and_nif (by omega), all_eq, all_eq, sI_same, shl1 _ (by omega), sI_sI, nI_add, ← fo_t (show a ≤ i ∧ i ≤ b by omega)]
      exact ⟨vp_in_nI (by omega) (by omega), ih (i + 1) (by omega) (by omega)⟩
  have := l (max a (b + 1) - a) a (by omega) (Nat.le_refl _)
  rw [fo_lo a (Nat.le_refl _), sI_id] at this
  exact ⟨_, this⟩
theorem D_calm (R : RSL T S) (hK : ∀ S', RSL (tl7 T) S' → FrD S S' → K S') : q_X9_calm S K := by
  have l : ∀ m h g, h + m = 4 → 1 ≤ h → (∀ h' t, 1 ≤ h' → h' < h → t < 12 → g (24 * h' + 2 * t) = nI 0 ∧ g (24 * h' + 2 * t + 1) = nI 0) → q_X9_calm_2 K (m + 1) (sF S 1 g) (nI h) := by
    intro m
    induction m with
    | zero =>
      intro h g hm h1 hg
      rw [q_X9_calm_2_s, nle _ _ (by omega) (by omega), and_if (by omega), all_eq, all_eq]
      obtain ⟨⟨⟨kb, k1, k2, k3⟩, r2, ⟨sb, s1, s2, s3⟩, r4, r5, -, r7, r8, r9⟩, hl⟩ := R
      have f0 : ∀ f, f ≠ 7 → f ≠ 8 → (sI (sI (sF S 1 g) 0 7 (nI 0)) 0 8 (nI 0)).1 0 f = S.1 0 f := fun f h7 h8 => by rw [sI_other _ _ _ h8, sI_other _ _ _ h7, sF_ne _ _ _ (by omega)]
      have fc : ∀ c, c ≠ 0 → c ≠ 1 → (sI (sI (sF S 1 g) 0 7 (nI 0)) 0 8 (nI 0)).1 c = S.1 c := fun c c0 c1 => by rw [sI_ne _ _ _ _ c0, sI_ne _ _ _ _ c0, sF_ne _ _ _ c1]
      refine hK _ ⟨⟨⟨kb, k1, by rw [f0 _ (by omega) (by omega)]; exact k2, fun q hq => ?_⟩, fun q j hq hj => ?_, ⟨sb, s1, by rw [f0 _ (by omega) (by omega)]; exact s2, fun s hs => ?_⟩, fun s j hs hj => ?_, fun h' t h1' h3' ht => ?_, trivial, ?_, ?_, ?_⟩, ?_⟩ ⟨fun c hc => fc c (by omega) (by omega), fun f hf => f0 f (by omega) (by omega)⟩
      · rw [k3 q hq]; unfold tK; rw [tl7_c (by omega) (by omega) (by omega)]
      · rw [fc 2 (by omega) (by omega), tl7_c (by omega) (by omega) (by omega)]; exact r2 q j hq hj
      · rw [s3 s hs]; unfold tS; rw [tl7_c (by omega) (by omega) (by omega)]
      · rw [fc 3 (by omega) (by omega), tl7_c (by omega) (by omega) (by omega)]; exact r4 s j hs hj
      · rw [sI_ne _ _ _ _ (by omega), sI_ne _ _ _ _ (by omega), sF_self, (tl7_7 (by unfold wIx; omega)).1, (tl7_7 (by unfold wIx; omega)).2]
        exact hg h' t h1' (by omega) ht
      · rw [f0 _ (by omega) (by omega), tl7_4, if_neg (by omega)]; exact r7
      · rw [sI_other _ _ _ (by omega), sI_same, tl7_4, if_pos (by omega)]
      · rw [sI_same, tl7_4, if_pos (by omega)]
      · rw [f0 _ (by omega) (by omega), tl7_4, if_neg (by omega)]; exact hl
    | succ m ih =>
      intro h g hm h1 hg
      rw [q_X9_calm_2_s, nle _ _ (by omega) (by omega), and_nif (by omega)]
      refine M_pw (by omega) (by omega) (by omega) ?_
      rw [all_eq, nI_add, sF_self, sF_sF]
      refine ih (h + 1) _ (by omega) (by omega) (fun h' t a1 a2 a3 => ?_)
      unfold pw
      rw [show max 0 (11 + 1) = 12 from rfl]
      by_cases c : h' = h
      · rw [if_pos (by omega), if_pos (by omega), if_pos (by omega), if_neg (by omega)]
        exact ⟨rfl, rfl⟩
      · rw [if_neg (by omega), if_neg (by omega)]
        exact hg h' t a1 (by omega) a3
  have := l 3 1 (S.1 1) (by omega) (by omega) (fun h' t a1 a2 => by omega)
  rw [sF_id] at this
  exact ⟨4, this⟩
theorem M_doLine {w : Nat} (hw : w < 9) (R : RSL T S) (hk : k < 10) (hw5 : S.1 5 (7 * k) = nI w) (h5 : ∀ i, i < sz w → S.1 5 (7 * k + 1 + i) = nI (n i)) (b : NB w n) (hK : ∀ S', RSL (tlT T w n) S' → FrD S S' → K S') : q_X9_doLine S (nI (7 * k)) K := by
  obtain ⟨b1, b2, b3⟩ := b
  have fr0 : ∀ f v, f < 9 → FrD S (sI S 0 f v) := fun f v hf => ⟨fun c hc => sI_ne _ _ _ _ (by omega), fun g hg => sI_other _ _ _ (by omega)⟩
  unfold q_X9_doLine
  unfold tlT at hK
  simp (disch := omega) only [nI_add, ncl, all_eq, hw5]
  refine ⟨vp_in_nI (by omega) (by omega), vp_in_nI (by omega) (by omega), ?_⟩
  rcases (show w = 0 ∨ w = 1 ∨ w = 2 ∨ w = 3 ∨ w = 4 ∨ w = 5 ∨ w = 6 ∨ w = 7 ∨ w = 8 by omega) with rfl | rfl | rfl | rfl | rfl | rfl | rfl | rfl | rfl
  · have e0 : S.1 5 (7 * k + 1) = nI (n 0) := h5 0 (by decide)
    have e1 : S.1 5 (7 * k + 2) = nI (n 1) := h5 1 (by decide)
    have e2 : S.1 5 (7 * k + 3) = nI (n 2) := h5 2 (by decide)
    have e3 : S.1 5 (7 * k + 4) = nI (n 3) := h5 3 (by decide)
    have e4 : S.1 5 (7 * k + 5) = nI (n 4) := h5 4 (by decide)
    rw [and_if rfl, e0, e1, e2, e3, e4]
    refine ⟨vp_in_nI (by omega) (by omega), vp_in_nI (by omega) (by omega), vp_in_nI (by omega) (by omega), vp_in_nI (by omega) (by omega), M_pw (b1 0 (by decide)) (b1 1 (by decide)) (b1 2 (by decide)) ?_⟩
    exact hK _ (D_wind R (b2 rfl) (b1 0 (by decide)) (b1 1 (by decide)) (b1 2 (by decide))) ⟨fun c hc => sF_ne _ _ _ (by omega), fun f hf => by rw [sF_ne _ _ _ (by omega)]⟩
  · have e0 : S.1 5 (7 * k + 1) = nI (n 0) := h5 0 (by decide)
    rw [and_nif (by decide), and_if rfl, e0]
    exact D_kite R (b1 0 (by decide)) h5 hk hK
  · have e0 : S.1 5 (7 * k + 1) = nI (n 0) := h5 0 (by decide)
    rw [and_nif (by decide), and_nif (by decide), and_if rfl, e0]
    exact D_shoal R (b1 0 (by decide)) h5 hk hK
  · have e0 : S.1 5 (7 * k + 1) = nI (n 0) := h5 0 (by decide)
    rw [and_nif (by decide), and_nif (by decide), and_nif (by decide), and_if rfl, e0]
    refine hK _ ⟨RS_of R.1 (fun c _ _ => sI_ne _ _ _ _ (by omega)) (fun c _ _ => sI_ne _ _ _ _ (by omega)) (sI_other _ _ _ (by omega)) (sI_other _ _ _ (by omega)) ?_ ?_ ?_, ?_⟩ (fr0 _ _ (by omega))
    · rw [sI_other _ _ _ (by omega)]; show S.1 0 6 = (sI T 4 4 (nI (n 0))).1 4 5; rw [sI_other _ _ _ (by omega)]; exact R.1.2.2.2.2.2.2.1
    · rw [sI_other _ _ _ (by omega)]; show S.1 0 7 = (sI T 4 4 (nI (n 0))).1 4 6; rw [sI_other _ _ _ (by omega)]; exact R.1.2.2.2.2.2.2.2.1
    · rw [sI_other _ _ _ (by omega)]; show S.1 0 8 = (sI T 4 4 (nI (n 0))).1 4 7; rw [sI_other _ _ _ (by omega)]; exact R.1.2.2.2.2.2.2.2.2
    · rw [sI_same]; show nI (n 0) = (sI T 4 4 (nI (n 0))).1 4 4; rw [sI_same]
  · have e0 : S.1 5 (7 * k + 1) = nI (n 0) := h5 0 (by decide)
    rw [and_nif (by decide), and_nif (by decide), and_nif (by decide), and_nif (by decide), and_if rfl, e0]
    refine hK _ ⟨RS_of R.1 (fun c _ _ => sI_ne _ _ _ _ (by omega)) (fun c _ _ => sI_ne _ _ _ _ (by omega)) (sI_other _ _ _ (by omega)) (sI_other _ _ _ (by omega)) ?_ ?_ ?_, ?_⟩ (fr0 _ _ (by omega))
    · rw [sI_same]; show nI (n 0) = (sI T 4 5 (nI (n 0))).1 4 5; rw [sI_same]
    · rw [sI_other _ _ _ (by omega)]; show S.1 0 7 = (sI T 4 5 (nI (n 0))).1 4 6; rw [sI_other _ _ _ (by omega)]; exact R.1.2.2.2.2.2.2.2.1
    · rw [sI_other _ _ _ (by omega)]; show S.1 0 8 = (sI T 4 5 (nI (n 0))).1 4 7; rw [sI_other _ _ _ (by omega)]; exact R.1.2.2.2.2.2.2.2.2
    · rw [sI_other _ _ _ (by omega)]; show S.1 0 5 = (sI T 4 5 (nI (n 0))).1 4 4; rw [sI_other _ _ _ (by omega)]; exact R.2
  · have e0 : S.1 5 (7 * k + 1) = nI (n 0) := h5 0 (by decide)
    have e1 : S.1 5 (7 * k + 2) = nI (n 1) := h5 1 (by decide)
    rw [and_nif (by decide), and_nif (by decide), and_nif (by decide), and_nif (by decide), and_nif (by decide), and_if rfl, e0]
    refine D_fog (b1 0 (by decide)) (b1 1 (by decide)) e1 hk ?_
    refine hK _ ⟨RS_of R.1 (fun c _ _ => sI_ne _ _ _ _ (by omega)) (fun c _ _ => sI_ne _ _ _ _ (by omega)) (sI_other _ _ _ (by omega)) (sI_other _ _ _ (by omega)) ?_ ?_ ?_, ?_⟩ (fr0 _ _ (by omega))
    · rw [sI_other _ _ _ (by omega)]; show S.1 0 6 = (sI T 4 6 _).1 4 5; rw [sI_other _ _ _ (by omega)]; exact R.1.2.2.2.2.2.2.1
    · rw [sI_same]; show _ = (sI T 4 6 (fo (T.1 4 6) (n 0) (n 1) 12)).1 4 6; rw [sI_same, R.1.2.2.2.2.2.2.2.1]
    · rw [sI_other _ _ _ (by omega)]; show S.1 0 8 = (sI T 4 6 _).1 4 7; rw [sI_other _ _ _ (by omega)]; exact R.1.2.2.2.2.2.2.2.2
    · rw [sI_other _ _ _ (by omega)]; show S.1 0 5 = (sI T 4 6 _).1 4 4; rw [sI_other _ _ _ (by omega)]; exact R.2
  · have e0 : S.1 5 (7 * k + 1) = nI (n 0) := h5 0 (by decide)
    rw [and_nif (by decide), and_nif (by decide), and_nif (by decide), and_nif (by decide), and_nif (by decide), and_nif (by decide), and_if rfl, e0]
    refine hK _ ⟨RS_of R.1 (fun c _ _ => sI_ne _ _ _ _ (by omega)) (fun c _ _ => sI_ne _ _ _ _ (by omega)) (sI_other _ _ _ (by omega)) (sI_other _ _ _ (by omega)) ?_ ?_ ?_, ?_⟩ (fr0 _ _ (by omega))
    · rw [sI_other _ _ _ (by omega)]; show S.1 0 6 = (sI T 4 7 _).1 4 5; rw [sI_other _ _ _ (by omega)]; exact R.1.2.2.2.2.2.2.1
    · rw [sI_other _ _ _ (by omega)]; show S.1 0 7 = (sI T 4 7 _).1 4 6; rw [sI_other _ _ _ (by omega)]; exact R.1.2.2.2.2.2.2.2.1
    · rw [sI_same]; show nI (n 0) = (sI T 4 7 (nI (n 0))).1 4 7; rw [sI_same]
    · rw [sI_other _ _ _ (by omega)]; show S.1 0 5 = (sI T 4 7 _).1 4 4; rw [sI_other _ _ _ (by omega)]; exact R.2
  · rw [and_nif (by decide), and_nif (by decide), and_nif (by decide), and_nif (by decide), and_nif (by decide), and_nif (by decide), and_nif (by decide), and_if rfl]
    exact D_calm R hK
  · have e0 : S.1 5 (7 * k + 1) = nI (n 0) := h5 0 (by decide)
    have hn : n 0 ≤ 5 := b1 0 (by decide)
    rw [and_nif (by decide), and_nif (by decide), and_nif (by decide), and_nif (by decide), and_nif (by decide), and_nif (by decide), and_nif (by decide), and_nif (by decide), e0]
    have hK' : ∀ S', RSL (sI T (9 + n 0) 0 (nI 0)) S' → FrD S S' → K S' := hK
    obtain ⟨⟨⟨kb, k1, k2, k3⟩, r2, ⟨sb, s1, s2, s3⟩, r4, r5, -, r7, r8, r9⟩, hl⟩ := R
    obtain ⟨c1, c2, c3⟩ := clrB_all kb k1 (n 0) (by omega)
    refine hK' _ ⟨⟨⟨clrB kb (n 0), c2, ?_, fun q hq => ?_⟩, fun q j hq hj => ?_, ⟨sb, s1, by rw [sI_other _ _ _ (by omega)]; exact s2, fun s hs => ?_⟩, fun s j hs hj => ?_, fun h t h1 h3 ht => ?_, trivial, ?_, ?_, ?_⟩, ?_⟩ (fr0 _ _ (by omega))
    · rw [sI_same, k2]; exact c1
    · rw [c3 q hq]
      unfold tK
      by_cases c : q = n 0
      · rw [c, sI_same]
        simp
      · rw [sI_ne _ _ _ _ (by omega), show (¬ T.1 (9 + q) 0 = nI 0) ↔ kb.testBit q = true from (k3 q hq).symm]
        simp [c]
    · rw [sI_ne _ _ _ _ (by omega), r2 q j hq hj]
      by_cases c : q = n 0
      · rw [c, sI_other _ _ _ (by omega)]
      · rw [sI_ne _ _ _ _ (by omega)]
    · rw [s3 s hs]; unfold tS; rw [sI_ne _ _ _ _ (by omega)]
    · rw [sI_ne _ _ _ _ (by omega), sI_ne _ _ _ _ (by omega)]; exact r4 s j hs hj
    · rw [sI_ne _ _ _ _ (by omega), sI_ne _ _ _ _ (by omega), sI_ne _ _ _ _ (by omega)]; exact r5 h t h1 h3 ht
    · rw [sI_other _ _ _ (by omega), sI_ne _ _ _ _ (by omega)]; exact r7
    · rw [sI_other _ _ _ (by omega), sI_ne _ _ _ _ (by omega)]; exact r8
    · rw [sI_other _ _ _ (by omega), sI_ne _ _ _ _ (by omega)]; exact r9
    · rw [sI_other _ _ _ (by omega), sI_ne _ _ _ _ (by omega)]; exact hl
end DO
