/-! ===== what is told stays in its bounds ===== -/
theorem rg_n {n : Nat} {b : Int} (h : (n : Int) ≤ b) (hn : n < 2 ^ 30) : rg (nI n) 0 b := ⟨by rw [nI_toInt (by omega)]; omega, by rw [nI_toInt (by omega)]; exact h⟩
theorem rg_s {n m : Nat} {a b : Int} (h1 : a ≤ (n : Int) - m) (h2 : (n : Int) - m ≤ b) (hn : n < 2 ^ 29) (hm : m < 2 ^ 29) : rg (nI n - nI m) a b := by
  unfold rg
  rw [pk_sub_toInt (by omega) (by omega)]
  exact ⟨h1, h2⟩
theorem fo_rg {fg a b : Nat} (h : fg < 4096) : ∀ i, i ≤ 12 → ∃ g, g < 4096 ∧ fo (nI fg) a b i = nI g := by
  intro i
  induction i with
  | zero => intro _; exact ⟨fg, h, rfl⟩
  | succ i ih =>
    intro hi
    obtain ⟨g, g1, g2⟩ := ih (by omega)
    by_cases c : a ≤ i ∧ i ≤ b
    · rw [fo_t c, g2, nI_or]
      exact ⟨_, Nat.or_lt_two_pow (n := 12) g1 (Nat.pow_lt_pow_right (by omega) (by omega)), rfl⟩
    · rw [fo_f c]; exact ⟨g, g1, g2⟩
theorem XR_of {T T' : St} (X : XR T) (e : ∀ c, 7 ≤ c → c < 19 → T'.1 c = T.1 c) (f4 : rg (T'.1 4 4) 0 2) (f5 : rg (T'.1 4 5) 0 99) (f6 : ∃ fg, fg < 4096 ∧ T'.1 4 6 = nI fg) (f7 : rg (T'.1 4 7) 0 9) : XR T' := by
  obtain ⟨x1, x2, x3, -, -, -, -⟩ := X
  refine ⟨fun k hk => ?_, fun s hs => ?_, fun i hi => ?_, f4, f5, f6, f7⟩
  · unfold tK; rw [e (9 + k) (by omega) (by omega)]; exact x1 k hk
  · unfold tS; rw [e (15 + s) (by omega) (by omega)]; exact x2 s hs
  · rw [e 7 (by omega) (by omega), e 8 (by omega) (by omega)]; exact x3 i hi
theorem XR_tl {T : St} {w : Nat} {n : Nat → Nat} (X : XR T) (hw : w < 9) (b : NB w n) : XR (tlT T w n) := by
  obtain ⟨b1, b2, b3⟩ := b
  have X' := X
  obtain ⟨x1, x2, x3, x4, x5, x6, x7⟩ := X
  unfold tlT
  rcases (show w = 0 ∨ w = 1 ∨ w = 2 ∨ w = 3 ∨ w = 4 ∨ w = 5 ∨ w = 6 ∨ w = 7 ∨ w = 8 by omega) with rfl | rfl | rfl | rfl | rfl | rfl | rfl | rfl | rfl
  · rw [if_pos rfl]
    have h3 : n 3 ≤ 9 := b1 3 (by decide)
    have h4 : n 4 ≤ 6 := b1 4 (by decide)
    refine ⟨fun k hk => ?_, fun s hs => ?_, fun i hi => ?_, ?_, ?_, ?_, ?_⟩
    · unfold tK; rw [tl0_c (by omega) (by omega)]; exact x1 k hk
    · unfold tS; rw [tl0_c (by omega) (by omega)]; exact x2 s hs
    · rw [tl0_7, tl0_8]
      unfold wR
      by_cases c : 12 * (n 0 - 1) + n 1 ≤ i ∧ i ≤ 12 * (n 0 - 1) + n 2 ∧ i < 12 * (n 0 - 1) + 12
      · rw [if_pos c, if_pos c]
        exact ⟨rg_n (by omega) (by omega), rg_s (by omega) (by omega) (by omega) (by omega)⟩
      · rw [if_neg c, if_neg c]; exact x3 i hi
    · rw [tl0_c (by omega) (by omega)]; exact x4
    · rw [tl0_c (by omega) (by omega)]; exact x5
    · rw [tl0_c (by omega) (by omega)]; exact x6
    · rw [tl0_c (by omega) (by omega)]; exact x7
  · rw [if_neg (by omega), if_pos rfl]
    have h0 : n 0 ≤ 5 := b1 0 (by decide)
    have h1 : n 1 ≤ 9 := b1 1 (by decide)
    have h2 : n 2 ≤ 5 := b1 2 (by decide)
    have h3 : n 3 ≤ 9 := b1 3 (by decide)
    have h4 : n 4 ≤ 9 := b1 4 (by decide)
    have h5 : n 5 ≤ 2 := b1 5 (by decide)
    have h3' := b3 rfl
    refine ⟨fun k hk => ?_, fun s hs => ?_, fun i hi => ?_, ?_, ?_, ?_, ?_⟩
    · by_cases c : k = n 0
      · unfold tK
        rw [c, tl1_a (by omega), tl1_a (by omega), tl1_a (by omega), tl1_a (by omega), tl1_a (by omega), tl1_a (by omega), if_neg (by omega), if_neg (by omega), if_neg (by omega), if_neg (by omega), if_neg (by omega)]
        exact ⟨rg_n (by omega) (by omega), rg_n (by omega) (by omega), rg_n (by omega) (by omega), rg_n (by omega) (by omega), rg_n (by omega) (by omega), fun _ => by rw [nI_toInt (by omega)]; omega⟩
      · unfold tK; rw [tl1_c (by omega)]; exact x1 k hk
    · unfold tS; rw [tl1_c (by omega)]; exact x2 s hs
    · rw [tl1_c (by omega), tl1_c (by omega)]; exact x3 i hi
    · rw [tl1_c (by omega)]; exact x4
    · rw [tl1_c (by omega)]; exact x5
    · rw [tl1_c (by omega)]; exact x6
    · rw [tl1_c (by omega)]; exact x7
  · rw [if_neg (by omega), if_neg (by omega), if_pos rfl]
    have h0 : n 0 ≤ 3 := b1 0 (by decide)
    have h1 : n 1 ≤ 9 := b1 1 (by decide)
    have h2 : n 2 ≤ 6 := b1 2 (by decide)
    have h3 : n 3 ≤ 2 := b1 3 (by decide)
    have h4 : n 4 ≤ 2 := b1 4 (by decide)
    have h5 : n 5 ≤ 99 := b1 5 (by decide)
    refine ⟨fun k hk => ?_, fun s hs => ?_, fun i hi => ?_, ?_, ?_, ?_, ?_⟩
    · unfold tK; rw [tl2_c (by omega)]; exact x1 k hk
    · by_cases c : s = n 0
      · unfold tS
        rw [c, tl2_a (by omega), tl2_a (by omega), tl2_a (by omega), tl2_a (by omega), tl2_a (by omega), tl2_a (by omega), if_neg (show ¬ 1 = 0 by omega), if_neg (show ¬ (1 = 3 ∨ 1 = 4) by omega), if_neg (show ¬ 2 = 0 by omega), if_neg (show ¬ (2 = 3 ∨ 2 = 4) by omega), if_neg (show ¬ 3 = 0 by omega), if_pos (show (3 = 3 ∨ 3 = 4) by omega), if_neg (show ¬ 4 = 0 by omega), if_pos (show (4 = 3 ∨ 4 = 4) by omega), if_neg (show ¬ 5 = 0 by omega), if_neg (show ¬ (5 = 3 ∨ 5 = 4) by omega)]
        exact ⟨rg_n (by omega) (by omega), rg_n (by omega) (by omega), rg_s (by omega) (by omega) (by omega) (by omega), rg_s (by omega) (by omega) (by omega) (by omega), rg_n (by omega) (by omega), fun q => absurd (by rw [if_pos rfl]; decide) q⟩
      · unfold tS; rw [tl2_c (by omega)]; exact x2 s hs
    · rw [tl2_c (by omega), tl2_c (by omega)]; exact x3 i hi
    · rw [tl2_c (by omega)]; exact x4
    · rw [tl2_c (by omega)]; exact x5
    · rw [tl2_c (by omega)]; exact x6
    · rw [tl2_c (by omega)]; exact x7
  · rw [if_neg (by omega), if_neg (by omega), if_neg (by omega), if_pos rfl]
    have h0 : n 0 ≤ 2 := b1 0 (by decide)
    refine XR_of X' (fun c h1 h2 => sI_ne _ _ _ _ (by omega)) ?_ ?_ ?_ ?_
    · rw [sI_same]; exact rg_n (by omega) (by omega)
    · rw [sI_other _ _ _ (by omega)]; exact x5
    · rw [sI_other _ _ _ (by omega)]; exact x6
    · rw [sI_other _ _ _ (by omega)]; exact x7
  · rw [if_neg (by omega), if_neg (by omega), if_neg (by omega), if_neg (by omega), if_pos rfl]
    have h0 : n 0 ≤ 99 := b1 0 (by decide)
    refine XR_of X' (fun c h1 h2 => sI_ne _ _ _ _ (by omega)) ?_ ?_ ?_ ?_
    · rw [sI_other _ _ _ (by omega)]; exact x4
    · rw [sI_same]; exact rg_n (by omega) (by omega)
    · rw [sI_other _ _ _ (by omega)]; exact x6
    · rw [sI_other _ _ _ (by omega)]; exact x7
  · rw [if_neg (by omega), if_neg (by omega), if_neg (by omega), if_neg (by omega), if_neg (by omega), if_pos rfl]
    refine XR_of X' (fun c h1 h2 => sI_ne _ _ _ _ (by omega)) ?_ ?_ ?_ ?_
    · rw [sI_other _ _ _ (by omega)]; exact x4
    · rw [sI_other _ _ _ (by omega)]; exact x5
    · obtain ⟨fg, g1, g2⟩ := x6
      rw [sI_same, g2]
      exact fo_rg g1 12 (by omega)
    · rw [sI_other _ _ _ (by omega)]; exact x7
  · rw [if_neg (by omega), if_neg (by omega), if_neg (by omega), if_neg (by omega), if_neg (by omega), if_neg (by omega), if_pos rfl]
    have h0 : n 0 ≤ 9 := b1 0 (by decide)
    refine XR_of X' (fun c h1 h2 => sI_ne _ _ _ _ (by omega)) ?_ ?_ ?_ ?_
    · rw [sI_other _ _ _ (by omega)]; exact x4
    · rw [sI_other _ _ _ (by omega)]; exact x5
    · rw [sI_other _ _ _ (by omega)]; exact x6
    · rw [sI_same]; exact rg_n (by omega) (by omega)
  · rw [if_neg (by omega), if_neg (by omega), if_neg (by omega), if_neg (by omega), if_neg (by omega), if_neg (by omega), if_neg (by omega), if_pos rfl]
    refine ⟨fun k hk => ?_, fun s hs => ?_, fun i hi => ?_, ?_, ?_, ?_, ?_⟩
    · unfold tK; rw [tl7_c (by omega) (by omega) (by omega)]; exact x1 k hk
    · unfold tS; rw [tl7_c (by omega) (by omega) (by omega)]; exact x2 s hs
    · rw [(tl7_7 hi).1, (tl7_7 hi).2]
      exact ⟨rg0 (by omega) (by omega), rg0 (by omega) (by omega)⟩
    · rw [tl7_4, if_neg (by omega)]; exact x4
    · rw [tl7_4, if_neg (by omega)]; exact x5
    · rw [tl7_4, if_pos (by omega)]; exact ⟨0, by omega, rfl⟩
    · rw [tl7_4, if_pos (by omega)]; exact rg0 (by omega) (by omega)
  · rw [if_neg (by omega), if_neg (by omega), if_neg (by omega), if_neg (by omega), if_neg (by omega), if_neg (by omega), if_neg (by omega), if_neg (by omega)]
    have h0 : n 0 ≤ 5 := b1 0 (by decide)
    refine ⟨fun k hk => ?_, fun s hs => ?_, fun i hi => ?_, ?_, ?_, ?_, ?_⟩
    · obtain ⟨y1, y2, y3, y4, y5, y6⟩ := x1 k hk
      by_cases c : k = n 0
      · unfold tK
        rw [c] at y1 y2 y3 y4 y5 ⊢
        rw [sI_other _ _ _ (by omega), sI_other _ _ _ (by omega), sI_other _ _ _ (by omega), sI_other _ _ _ (by omega), sI_other _ _ _ (by omega), sI_same]
        exact ⟨y1, y2, y3, y4, y5, fun q => absurd rfl q⟩
      · unfold tK; rw [sI_ne _ _ _ _ (by omega)]; exact ⟨y1, y2, y3, y4, y5, y6⟩
    · unfold tS; rw [sI_ne _ _ _ _ (by omega)]; exact x2 s hs
    · rw [sI_ne _ _ _ _ (by omega), sI_ne _ _ _ _ (by omega)]; exact x3 i hi
    · rw [sI_ne _ _ _ _ (by omega)]; exact x4
    · rw [sI_ne _ _ _ _ (by omega)]; exact x5
    · rw [sI_ne _ _ _ _ (by omega)]; exact x6
    · rw [sI_ne _ _ _ _ (by omega)]; exact x7
/-! numbers that are read are within their bounds -/
theorem num_bd {len w : Nat} {B : Nat → Nat} : ∀ n i pos acc, (numsR len B w n i pos acc).1 = true → (∀ j, j < i → acc j ≤ hi_ w j ∧ (¬ eoh w j → loT.getD (fr w + j) 0 ≤ acc j)) →
    ∀ j, j < i + n → (numsR len B w n i pos acc).2.2 j ≤ hi_ w j ∧ (¬ eoh w j → loT.getD (fr w + j) 0 ≤ (numsR len B w n i pos acc).2.2 j) := by
  intro n
  induction n with
  | zero => intro i pos acc _ h j hj; exact h j (by omega)
  | succ n ih =>
    intro i pos acc hr h j hj
    by_cases q : okN len B (lo w i acc) (hi_ w i) (run cB len B pos)
    · have e : numsR len B w (n + 1) i pos acc = numsR len B w n (i + 1) (run cD len B (run cB len B pos)) (upN acc i (nvl B (run cB len B pos) (run cD len B (run cB len B pos) - run cB len B pos))) := if_pos q
      rw [e] at hr ⊢
      refine ih (i + 1) _ _ hr (fun j' hj' => ?_) j (by omega)
      unfold upN
      by_cases c : j' = i
      · rw [if_pos c, c]
        refine ⟨q.2.2.2, fun z => ?_⟩
        have := q.2.2.1
        unfold lo at this
        rw [if_neg z] at this
        exact this
      · rw [if_neg c]; exact h j' (by omega)
    · have e : numsR len B w (n + 1) i pos acc = (false, run cB len B pos, acc) := if_neg q
      rw [e] at hr
      exact absurd hr Bool.false_ne_true
theorem line_NB {len : Nat} {B : Nat → Nat} {pos : Nat} (hw : wrd len B pos < 9) (h : (lineR len B pos).1 = true) : NB (wrd len B pos) (lineR len B pos).2.2 := by
  have e : lineR len B pos = numsR len B (wrd len B pos) (sz (wrd len B pos)) 0 (run cL len B (run cB len B pos)) (fun _ => 0) := if_pos hw
  rw [e] at h ⊢
  have bd := num_bd _ _ _ _ h (fun j hj => by omega)
  refine ⟨fun i hi => (bd i (by omega)).1, fun q => ?_, fun q => ?_⟩
  · have := (bd 0 (by rw [q]; decide)).2 (by rw [q]; unfold eoh; omega)
    rw [q] at this ⊢
    exact this
  · have := (bd 3 (by rw [q]; decide)).2 (by rw [q]; unfold eoh; omega)
    rw [q] at this ⊢
    exact this
noncomputable def tF (len : Nat) (B : Nat → Nat) (T : St) : Nat → St
  | 0 => T
  | k + 1 => tlT (tF len B T k) (wrd len B (lp len B k)) (lineR len B (lp len B k)).2.2
def PQ (len : Nat) (B : Nat → Nat) (n : Nat) : Prop := ∀ k, k < n → wrd len B (lp len B k) < 9 ∧ (lineR len B (lp len B k)).1 = true
theorem tF_XR {len : Nat} {B : Nat → Nat} {T : St} (X : XR T) : ∀ n, PQ len B n → XR (tF len B T n) := by
  intro n
  induction n with
  | zero => intro _; exact X
  | succ n ih =>
    intro h
    exact XR_tl (ih (fun k hk => h k (by omega))) (h n (by omega)).1 (line_NB (h n (by omega)).1 (h n (by omega)).2)
/-! the second reading -/
def BS (len : Nat) (B : Nat → Nat) (T S0 S : St) (k : Nat) : Prop := (∀ c, c ≠ 1 → c ≠ 3 → c < 4 ∨ 18 < c → S.1 c = S0.1 c) ∧ (∀ f, f ≠ 3 → f ≠ 4 → S.1 1 f = S0.1 1 f) ∧ S.1 1 3 = nI k ∧ Sea18 S (tF len B T k)
theorem X_readS {T SX : St} {len : Nat} {B : Nat → Nat} {K : Int32 → St → Prop} (h : TX SX len B) (E : Sea18 SX T) (hok : (outR len B 10 0).1 = true) (hK : ∀ r S', BS len B T SX S' (outR len B 10 0).2.2 → K r S') : q_X7_readInto SX K := by
  have hlen := h.2.1
  have TXs : ∀ S k, BS len B T SX S k → TX S len B := fun S k b => TX_e h (b.2.1 2 (by omega) (by omega)) (b.1 2 (by omega) (by omega) (by omega))
  have BSA : ∀ S k j, BS len B T SX S k → BS len B T SX (At S j) k := fun S k j b =>
    ⟨fun c c1 c3 c4 => by rw [At_c _ _ c1]; exact b.1 c c1 c3 c4, fun f f3 f4 => by rw [At_f _ _ f4]; exact b.2.1 f f3 f4, by rw [At_f _ _ (by omega)]; exact b.2.2.1, fun c c1 c2 => by rw [At_c _ _ (by omega)]; exact b.2.2.2 c c1 c2⟩
  have l : ∀ (n k : Nat) (S : St), k + n = 10 → outR len B n k = outR len B 10 0 → BS len B T SX S k → lp len B k ≤ len → q_X7_readInto_12 K (n + 1) (At S (lp len B k)) (nI k) := by
    intro n
    induction n with
    | zero =>
      intro k S hk eo b hp
      have eo1 : outR len B 0 k = (false, lp len B k - 1, k) := rfl
      rw [← eo, eo1] at hok
      exact absurd hok Bool.false_ne_true
    | succ n ih =>
      intro k S hk eo b hp
      rw [q_X7_readInto_12_s, nle _ _ (by omega) (by omega), and_nif (by omega)]
      have hlp := line_pos (B := B) hp
      have hs := run_len (c := cB) (B := B) hlp
      refine X_line (TXs S k b) hp (fun a g' hg' hw => ?_) (fun a r g' => ?_)
      · rw [and_nif (by decide), all_eq, At_f _ _ (by omega), sF_ne _ _ _ (by omega), b.2.2.1, nI_add, At_l]
        obtain ⟨S8, e8⟩ : ∃ S8, S8 = At (sI (sF S 3 g') 1 3 (nI (k + 1))) (lineR len B (lp len B k)).2.1 := ⟨_, rfl⟩
        rw [← e8]
        have nb := line_NB hw a
        refine X_tell (n := (lineR len B (lp len B k)).2.2) hw (fun i hi => ?_) nb ?_
        · rw [e8, At_c _ _ (by omega), sI_ne _ _ _ _ (by omega), sF_self]; exact hg' i hi
        · have b8 : ∀ c, c ≠ 1 → c ≠ 3 → S8.1 c = S.1 c := fun c c1 c3 => by rw [e8, At_c _ _ c1, sI_ne _ _ _ _ c1, sF_ne _ _ _ c3]
          have b' : BS len B T SX (tlT S8 (wrd len B (lp len B k)) (lineR len B (lp len B k)).2.2) (k + 1) := by
            refine ⟨fun c c1 c3 c4 => ?_, fun f f3 f4 => ?_, ?_, ?_⟩
            · rw [tl_out _ hw nb c4, b8 c c1 c3]; exact b.1 c c1 c3 c4
            · rw [tl_out _ hw nb (by omega), e8, At_f _ _ f4, sI_other _ _ _ f3, sF_ne _ _ _ (by omega)]; exact b.2.1 f f3 f4
            · rw [tl_out _ hw nb (by omega), e8, At_f _ _ (by omega), sI_same]
            · exact s18_tl (fun c c1 c2 => by rw [b8 c (by omega) (by omega)]; exact b.2.2.2 c c1 c2) _ _
          have a4 : (tlT S8 (wrd len B (lp len B k)) (lineR len B (lp len B k)).2.2).1 1 4 = nI (lineR len B (lp len B k)).2.1 := by rw [tl_out _ hw nb (by omega), e8, At_4]
          rw [← At_id a4]
          generalize tlT S8 (wrd len B (lp len B k)) (lineR len B (lp len B k)).2.2 = S9 at b'
          unfold q_X7_readInto_63
          have t9 := TXs S9 _ b'
          refine X_skip t9 hlp ?_
          have eo1 : outR len B (n + 1) k = (if len ≤ run cB len B (lineR len B (lp len B k)).2.1 then (true, 0, k + 1) else if B (run cB len B (lineR len B (lp len B k)).2.1) = 59 then outR len B n (k + 1) else (false, run cB len B (lineR len B (lp len B k)).2.1, k + 1)) := if_pos a
          rw [At_4, At_f _ _ (by omega), t9.1, nlt _ _ (by omega) (by omega), f_peek (TX_At t9) (by omega), pk_eq32 h (by omega), all_eq, all_eq, nI_add, nI_add, At_At]
          refine ⟨fun q => ⟨fun q2 => ?_, fun q2 => ?_⟩, fun q => ?_⟩
          · rw [if_neg (by omega), if_pos q2.2] at eo1
            exact ih (k + 1) _ (by omega) (by rw [← eo1]; exact eo) b' (by show run cB len B (lineR len B (lp len B k)).2.1 + 1 ≤ len; omega)
          · rw [if_neg (by omega), if_neg (fun z => q2 ⟨q, z⟩)] at eo1
            rw [← eo, eo1] at hok
            exact absurd hok Bool.false_ne_true
          · rw [if_pos (by omega)] at eo1
            rw [← eo, eo1] at hK
            exact hK _ _ (BSA S9 _ _ b')
      · have eo1 : outR len B (n + 1) k = (false, (lineR len B (lp len B k)).2.1, k) := if_neg a
        rw [← eo, eo1] at hok
        exact absurd hok Bool.false_ne_true
  unfold q_X7_readInto
  rw [all_eq, all_eq]
  have e : sI (sI SX 1 4 (nI 0)) 1 3 (nI 0) = At (sI SX 1 3 (nI 0)) 0 := At_l SX 0 (nI 0)
  rw [e]
  exact ⟨11, l 10 0 _ (by omega) rfl ⟨fun c c1 c3 c4 => sI_ne _ _ _ _ c1, fun f f3 f4 => sI_other _ _ _ f3, sI_same _ _ _ _, fun c c1 c2 => by rw [sI_ne _ _ _ _ (by omega)]; exact E c c1 c2⟩ (Nat.zero_le _)⟩
/-! the reference does its lines -/
theorem M_cliff12 {T S0 : St} {len n : Nat} {B : Nat → Nat} {K : Int32 → St → Prop} (hn : n ≤ 10) (hP : PR len B S0 n)
    (hK : ∀ S, RSL (tF len B T n) S → FrD S0 S → ∀ S_2 : St, S_2 = sI S 0 9 (nI 0) → (q_X9_begin S_2 (fun S_3 => (∀ S_4 : St, S_4 = sI S_3 9 (nI 0).toNatClampNeg (nI 0) → (∀ S_5 : St, S_5 = sI S_4 9 (nI 1).toNatClampNeg (nI 0) → (K (S_5.1 0 17) S_5)))))) (h17 : S0.1 0 17 = nI n) :
    ∀ m i S, i + m = n → RSL (tF len B T i) S → FrD S0 S → q_X9_cliff_12 K (m + 1) S (nI i) := by
  intro m
  induction m with
  | zero =>
    intro i S hi R F
    rw [q_X9_cliff_12_s, F.2 17 (by omega), h17, nle _ _ (by omega) (by omega), and_if (by omega)]
    rw [show i = n by omega] at R
    exact hK S R F
  | succ m ih =>
    intro i S hi R F
    rw [q_X9_cliff_12_s, F.2 17 (by omega), h17, nle _ _ (by omega) (by omega), and_nif (by omega), pk_mul]
    obtain ⟨p1, p2, p3, p4⟩ := hP i (by omega)
    refine M_doLine p1 R (by omega) (by rw [F.1 5 (by omega)]; exact p3) (fun j hj => by rw [F.1 5 (by omega)]; exact p4 j hj) (line_NB p1 p2) (fun S' R' F' => ?_)
    rw [all_eq, nI_add]
    exact ih (i + 1) S' (by omega) R' ⟨fun c hc => by rw [F'.1 c hc]; exact F.1 c hc, fun f hf => by rw [F'.2 f hf]; exact F.2 f hf⟩
theorem out_le {len : Nat} {B : Nat → Nat} : ∀ n k, (outR len B n k).2.2 ≤ k + n := by
  intro n
  induction n with
  | zero => intro k; exact Nat.le_refl _
  | succ n ih =>
    intro k
    by_cases a : (lineR len B (lp len B k)).1 = true
    · have eo1 : outR len B (n + 1) k = (if len ≤ run cB len B (lineR len B (lp len B k)).2.1 then (true, 0, k + 1) else if B (run cB len B (lineR len B (lp len B k)).2.1) = 59 then outR len B n (k + 1) else (false, run cB len B (lineR len B (lp len B k)).2.1, k + 1)) := if_pos a
      rw [eo1]
      by_cases c1 : len ≤ run cB len B (lineR len B (lp len B k)).2.1
      · rw [if_pos c1]; show k + 1 ≤ k + (n + 1); omega
      · rw [if_neg c1]
        by_cases c2 : B (run cB len B (lineR len B (lp len B k)).2.1) = 59
        · rw [if_pos c2]; have := ih (k + 1); omega
        · rw [if_neg c2]; show k + 1 ≤ k + (n + 1); omega
    · have eo1 : outR len B (n + 1) k = (false, (lineR len B (lp len B k)).2.1, k) := if_neg a
      rw [eo1]; show k ≤ k + (n + 1); omega
