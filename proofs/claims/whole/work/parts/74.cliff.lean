/-! ===== cliff ===== -/
theorem X_stock {S : St} {K : St → Prop} (X : ∀ s, s < 4 → ¬ tS S s → S.1 (15 + s) 5 = nI 0) (hK : ∀ S', (∀ c, c ≠ 33 + 7 * 1 + 5 → S'.1 c = S.1 c) → (∀ s, s < 4 → S'.1 (33 + 7 * 1 + 5) s = S.1 (15 + s) 5) → K S') : q_X1_stockShoals 1 S K := by
  have l : ∀ (m s : Nat) (C : St), s + m = 4 → (∀ c, c ≠ 33 + 7 * 1 + 5 → C.1 c = S.1 c) → (∀ s', s' < s → C.1 (33 + 7 * 1 + 5) s' = S.1 (15 + s') 5) → q_X1_stockShoals_2 1 K (m + 1) C (nI s) := by
    intro m
    induction m with
    | zero =>
      intro s C hs f1 f2
      rw [q_X1_stockShoals_2_s, nle _ _ (by omega) (by omega), and_if (by omega)]
      exact hK C f1 (fun s' hs' => f2 s' (by omega))
    | succ m ih =>
      intro s C hs f1 f2
      have go : ∀ v, v = S.1 (15 + s) 5 → q_X1_stockShoals_33 1 K (q_X1_stockShoals_2 1 K (m + 1)) C (nI s) v (nI s) := fun v hv => by
        unfold q_X1_stockShoals_33
        rw [all_eq, all_eq, ncl _ (by omega), nI_add]
        refine ⟨vp_in_nI (by omega) (by omega), ih (s + 1) _ (by omega) (fun c hc => by rw [sI_ne _ _ _ _ hc]; exact f1 c hc) (fun s' hs' => ?_)⟩
        by_cases c : s' = s
        · rw [c, sI_same, hv]
        · rw [sI_other _ _ _ c]; exact f2 s' (by omega)
      rw [q_X1_stockShoals_2_s, nle _ _ (by omega) (by omega), and_nif (by omega), f_X4_isToldShoal, bI_c (isSh_nI (show s < 4 by omega)), bbr, ncl _ (by omega)]
      have et : tS C s = tS S s := by unfold tS; rw [f1 _ (by omega)]
      refine ⟨fun q => go _ ?_, fun q => ⟨vp_in_nI (by omega) (by omega), go _ ?_⟩⟩
      · rw [et] at q
        exact (X s (by omega) q).symm
      · rw [f1 _ (by omega)]
  exact ⟨5, l 4 0 S (by omega) (fun _ _ => rfl) (fun s' hs' => by omega)⟩
theorem morn_zero {T S : St} (D : DayR T S 1 (nMorn T)) : (∀ j, j < 5 → S.1 (33 + 7 * 1) j = nI 0) ∧ ∀ k, k < 6 → S.1 (33 + 7 * 1 + 1) k = nI 0 ∧ S.1 (33 + 7 * 1 + 2) k = nI 0 ∧ S.1 (33 + 7 * 1 + 3) k = nI 0 ∧ S.1 (33 + 7 * 1 + 4) k = nI 0 := by
  obtain ⟨t, u, n, ht, ⟨-, ⟨E, c0, n0, hub, hu, ha, hask, hleft, hpos, hn⟩, p3, p4⟩, hup, h44, hN⟩ := D
  obtain ⟨f1, f2, n', f3, f4, f5, f6⟩ := p4 trivial
  have u0 : u = 0 := by
    apply Nat.eq_of_testBit_eq
    intro i
    rw [Nat.zero_testBit]
    by_cases c : i < 6
    · have := hu i c
      rw [nMorn_0 (by omega)] at this
      have h2 := bI_0.mp this.symm
      simpa using h2
    · exact Nat.testBit_lt_two_pow (Nat.lt_of_lt_of_le hub (by have := Nat.pow_le_pow_right (n := 2) (by omega) (show 6 ≤ i by omega); exact this))
  refine ⟨fun j hj => ?_, fun k hk => ⟨?_, ?_, ?_, ?_⟩⟩
  · rcases (show j = 0 ∨ j = 1 ∨ j = 2 ∨ j = 3 ∨ j = 4 by omega) with rfl | rfl | rfl | rfl | rfl
    · rw [c0, ← n0, nMorn_0 (by omega)]
    · rw [hup, u0]
    · rw [p3, sm_morn]; decide
    · rw [f2, nMorn_0 (by omega)]
    · rw [f4, ← f5, nMorn_0 (by omega)]
  · rw [hask k hk, nMorn_0 (by omega)]
  · rw [(f1 k hk).1, nMorn_0 (by omega)]
  · rw [(f1 k hk).2.1, nMorn_0 (by omega)]
  · rw [(f1 k hk).2.2, nMorn_0 (by omega)]
theorem XR_18 {S T : St} (E : Sea18 S T) (X : XR T) : XR S :=
  XR_of X (fun c h1 h2 => E c (by omega) h2) (by rw [E 4 (by omega) (by omega)]; exact X.2.2.2.1) (by rw [E 4 (by omega) (by omega)]; exact X.2.2.2.2.1) (by rw [E 4 (by omega) (by omega)]; exact X.2.2.2.2.2.1) (by rw [E 4 (by omega) (by omega)]; exact X.2.2.2.2.2.2)
theorem RS_18 {S T M : St} (E : Sea18 S T) (R : RS T M) : RS S M :=
  RS_of R (fun c h1 h2 => E c (by omega) h2) (fun _ _ _ => rfl) rfl rfl (by rw [E 4 (by omega) (by omega)]; exact R.2.2.2.2.2.2.1) (by rw [E 4 (by omega) (by omega)]; exact R.2.2.2.2.2.2.2.1) (by rw [E 4 (by omega) (by omega)]; exact R.2.2.2.2.2.2.2.2)
theorem RC_E {S T : St} (E : SeaEq S T) (C : RC T) : RC S := fun k h hk hh =>
  RCk_T (fun c c1 c2 => E c c1 (by omega)) hk (RCk_keep (C' := S) (show RCk T T k h from C k h hk hh) (by rw [E 20 (by omega) (by omega)]) (fun t ht => by rw [E 21 (by omega) (by omega), E 22 (by omega) (by omega)]; exact ⟨rfl, rfl⟩))
theorem nMorn_18 {S T : St} (E : Sea18 S T) (j : Nat) : nMorn S j = nMorn T j := by
  unfold nMorn
  by_cases c1 : 31 ≤ j ∧ j < 35
  · rw [if_pos c1, if_pos c1, E _ (by omega) (by omega)]
  · rw [if_neg c1, if_neg c1]
    by_cases c2 : 35 ≤ j ∧ j < 39
    · rw [if_pos c2, if_pos c2, E _ (by omega) (by omega)]
    · rw [if_neg c2, if_neg c2]
      by_cases c3 : 39 ≤ j ∧ j < 43
      · rw [if_pos c3, if_pos c3, E _ (by omega) (by omega)]
      · rw [if_neg c3, if_neg c3]
theorem fr_0 {T : St} {k t : Nat} : ¬ frP T k 0 t := fun q => by have := q.1; omega
theorem RCk_0 {T S : St} {k : Nat} (hk : k < 6) (C : RC T) (e0 : S.1 20 = T.1 20) (e1 : S.1 21 = T.1 21) (e2 : S.1 22 = T.1 22) : RCk S S k 0 := by
  obtain ⟨⟨m, m1, m2, m3⟩, r⟩ := (show RCk T T k 0 from C k 0 hk (by omega))
  refine ⟨⟨m, m1, by rw [e0]; exact m2, fun t ht => ?_⟩, fun t ht => ?_⟩
  · rw [m3 t ht]; exact ⟨fun z => absurd z fr_0, fun z => absurd z fr_0⟩
  · obtain ⟨⟨a, a1, a2, a3⟩, ⟨b, b1, b2, b3⟩⟩ := r t ht
    refine ⟨⟨a, a1, by rw [e1]; exact a2, fun s hs => ?_⟩, ⟨b, b1, by rw [e2]; exact b2, fun q hq => ?_⟩⟩
    · rw [a3 s hs]; exact ⟨fun z => absurd z.1 fr_0, fun z => absurd z.1 fr_0⟩
    · rw [b3 q hq]; exact ⟨fun z => absurd z.1 fr_0, fun z => absurd z.1 fr_0⟩
theorem line_ok {len : Nat} {B : Nat → Nat} {pos : Nat} (h : (lineR len B pos).1 = true) : wrd len B pos < 9 := by
  by_cases q : wrd len B pos < 9
  · exact q
  · have e : lineR len B pos = (false, run cB len B pos, fun _ => 0) := if_neg q
    rw [e] at h
    exact absurd h Bool.false_ne_true
theorem out_PQL {len : Nat} {B : Nat → Nat} : ∀ n k, (outR len B n k).1 = true → PQ len B k → PQ len B (outR len B n k).2.2 := by
  intro n
  induction n with
  | zero => intro k h _; exact absurd h Bool.false_ne_true
  | succ n ih =>
    intro k h p
    by_cases a : (lineR len B (lp len B k)).1 = true
    · have eo1 : outR len B (n + 1) k = (if len ≤ run cB len B (lineR len B (lp len B k)).2.1 then (true, 0, k + 1) else if B (run cB len B (lineR len B (lp len B k)).2.1) = 59 then outR len B n (k + 1) else (false, run cB len B (lineR len B (lp len B k)).2.1, k + 1)) := if_pos a
      have p' : PQ len B (k + 1) := fun j hj => by
        by_cases q : j = k
        · rw [q]; exact ⟨line_ok a, a⟩
        · exact p j (by omega)
      rw [eo1] at h ⊢
      by_cases c1 : len ≤ run cB len B (lineR len B (lp len B k)).2.1
      · rw [if_pos c1]; exact p'
      · rw [if_neg c1] at h ⊢
        by_cases c2 : B (run cB len B (lineR len B (lp len B k)).2.1) = 59
        · rw [if_pos c2] at h ⊢; exact ih (k + 1) h p'
        · rw [if_neg c2] at h; exact absurd h Bool.false_ne_true
    · have eo1 : outR len B (n + 1) k = (false, (lineR len B (lp len B k)).2.1, k) := if_neg a
      rw [eo1] at h
      exact absurd h Bool.false_ne_true
theorem out_PQ {len : Nat} {B : Nat → Nat} (h : (outR len B 10 0).1 = true) : PQ len B (outR len B 10 0).2.2 := out_PQL 10 0 h (fun k hk => by omega)
theorem out_lt {len : Nat} {B : Nat → Nat} (hl : len ≤ 200) : ∀ n k, lp len B k ≤ len → (outR len B n k).2.1 < 2 ^ 31 := by
  intro n
  induction n with
  | zero => intro k hk; show lp len B k - 1 < 2 ^ 31; omega
  | succ n ih =>
    intro k hk
    have hlp := line_pos (B := B) hk
    have hs := run_len (c := cB) (B := B) hlp
    by_cases a : (lineR len B (lp len B k)).1 = true
    · have eo1 : outR len B (n + 1) k = (if len ≤ run cB len B (lineR len B (lp len B k)).2.1 then (true, 0, k + 1) else if B (run cB len B (lineR len B (lp len B k)).2.1) = 59 then outR len B n (k + 1) else (false, run cB len B (lineR len B (lp len B k)).2.1, k + 1)) := if_pos a
      rw [eo1]
      by_cases c1 : len ≤ run cB len B (lineR len B (lp len B k)).2.1
      · rw [if_pos c1]; show 0 < 2 ^ 31; omega
      · rw [if_neg c1]
        by_cases c2 : B (run cB len B (lineR len B (lp len B k)).2.1) = 59
        · rw [if_pos c2]; exact ih (k + 1) (by show run cB len B (lineR len B (lp len B k)).2.1 + 1 ≤ len; omega)
        · rw [if_neg c2]; show run cB len B (lineR len B (lp len B k)).2.1 < 2 ^ 31; omega
    · have eo1 : outR len B (n + 1) k = (false, (lineR len B (lp len B k)).2.1, k) := if_neg a
      rw [eo1]; show (lineR len B (lp len B k)).2.1 < 2 ^ 31; omega
theorem o_cliff : ob_cliff Rel := by
  intro SX SM R
  obtain ⟨T, R⟩ := R
  have R0 := R
  obtain ⟨len, B, hX, hM⟩ := RT_TX R.2.2.2.2.2.1
  obtain ⟨E, X, C, S, hl, rt, d0, d1, rk, q0, q1⟩ := R
  unfold q_X8_cliff q_X9_cliff
  refine X_readN hX (fun a S1 b1 => ?_) (fun a S1 k b1 => ?_)
  · rw [and_if rfl]
    refine X_readS (TX_B hX b1) (T := T) (fun c c1 c2 => by rw [b1.1 c (by omega) (by omega)]; exact E c c1 (by omega)) a (fun r S5 bs => ?_)
    rw [all_eq]
    obtain ⟨s1, s2, s3, s4⟩ := bs
    obtain ⟨S6, e6⟩ : ∃ S6, S6 = sI S5 1 2 (nI 0) := ⟨_, rfl⟩
    rw [← e6]
    have c6 : ∀ c, c ≠ 1 → S6.1 c = S5.1 c := fun c hc => by rw [e6, sI_ne _ _ _ _ hc]
    have hc6 : ∀ c, 19 ≤ c → c < 23 → S6.1 c = T.1 c := fun c c1 c2 => by rw [c6 c (by omega), s1 c (by omega) (by omega) (by omega), b1.1 c (by omega) (by omega)]; exact E c (by omega) c2
    refine X_draw (fun k hk => RCk_0 hk C (hc6 20 (by omega) (by omega)) (hc6 21 (by omega) (by omega)) (hc6 22 (by omega) (by omega))) (fun S7 f7 RC7 => ?_)
    have E7 : Sea18 S7 (tF len B T (outR len B 10 0).2.2) := fun c c1 c2 => by rw [f7 c (by omega) (by omega) (by omega), c6 c (by omega)]; exact s4 c c1 c2
    -- the lines
    have main : ∀ S12 : St, (∀ c, 4 ≤ c → c < 23 → S12.1 c = S7.1 c) → (∀ c, c = 2 → S12.1 c = S7.1 c) → (∀ f, S12.1 1 f = S7.1 1 f) → S12.1 0 7 = nI 0 → S12.1 (24 + 3 * 0) 0 = nI 0 → S12.1 (24 + 3 * 1) 0 = nI 0 → DayR S12 S12 0 (nMorn S12) → DayR S12 S12 1 (nMorn S12) → XR S12 →
        q_X9_isRead SM (fun r_1 S_2 => ((r_1 = (nI 0) → (S12.1 1 3 = (-4 : Int32) ∧ Rel S12 S_2)) ∧ (¬ r_1 = (nI 0) → (∃ f_12, q_X9_cliff_12 (fun r' SM' => S12.1 1 3 = r' ∧ Rel S12 SM') f_12 S_2 (nI 0))))) := fun S12 g1 g2 g3 g4 g5 g6 D0 D1 X12 => by
      refine M_isRead hM (fun _ M2 m2 m17 mP => ?_) (fun z => absurd a z)
      rw [and_nif (by decide)]
      have E12 : Sea18 S12 (tF len B T (outR len B 10 0).2.2) := fun c c1 c2 => by rw [g1 c c1 (by omega)]; exact E7 c c1 c2
      refine ⟨_, M_cliff12 (T := T) (S0 := M2) (B := B) (len := len) (out_le 10 0) mP (fun M3 R3 F3 => ?_) m17 (outR len B 10 0).2.2 0 M2 (by omega) ⟨?_, ?_⟩ ⟨fun _ _ => rfl, fun _ _ => rfl⟩⟩
      · rw [all_eq]
        have R4 : RS (tF len B T (outR len B 10 0).2.2) (sI M3 0 9 (nI 0)) := R3.1.eq ⟨sI_other _ _ _ (by omega), sI_other _ _ _ (by omega), sI_other _ _ _ (by omega), sI_other _ _ _ (by omega), sI_other _ _ _ (by omega)⟩ (sI_ne _ _ _ _ (by omega)) (sI_ne _ _ _ _ (by omega)) (sI_ne _ _ _ _ (by omega))
        refine M_begin R4 (fun g hg => ?_)
        rw [all_eq, all_eq, ncl _ (by omega), ncl _ (by omega)]
        obtain ⟨M5, e5⟩ : ∃ M5, M5 = sI (sI (sF (sI M3 0 9 (nI 0)) 6 g) 9 0 (nI 0)) 9 1 (nI 0) := ⟨_, rfl⟩
        rw [← e5]
        have h5 : ∀ c, c ≠ 0 → c ≠ 6 → c ≠ 9 → M5.1 c = M3.1 c := fun c c0 c6 c9 => by rw [e5, sI_ne _ _ _ _ c9, sI_ne _ _ _ _ c9, sF_ne _ _ _ c6, sI_ne _ _ _ _ c0]
        have h50 : ∀ f, f ≠ 9 → M5.1 0 f = M3.1 0 f := fun f hf => by rw [e5, sI_ne _ _ _ _ (by omega), sI_ne _ _ _ _ (by omega), sF_ne _ _ _ (by omega), sI_other _ _ _ hf]
        have h59 : M5.1 0 9 = nI 0 := by rw [e5, sI_ne _ _ _ _ (by omega), sI_ne _ _ _ _ (by omega), sF_ne _ _ _ (by omega), sI_same]
        have h56 : M5.1 6 = g := by rw [e5, sI_ne _ _ _ _ (by omega), sI_ne _ _ _ _ (by omega), sF_self]
        refine ⟨?_, S12, fun c _ _ => rfl, X12, RC_E g1 RC7, ?_, ?_, ?_, ?_, D1, ?_, Or.inl g5, Or.inl g6⟩
        · rw [h50 17 (by omega), F3.2 17 (by omega), m17, g3, f7 1 (by omega) (by omega) (by omega), e6, sI_other _ _ _ (by omega)]
          exact s3
        · exact RS_18 E12 (R3.1.eq ⟨h50 _ (by omega), h50 _ (by omega), h50 _ (by omega), h50 _ (by omega), h50 _ (by omega)⟩ (h5 _ (by omega) (by omega) (by omega)) (h5 _ (by omega) (by omega) (by omega)) (h5 _ (by omega) (by omega) (by omega)))
        · rw [h50 _ (by omega), E12 4 (by omega) (by omega)]; exact R3.2
        · refine ⟨⟨0, by omega, ?_, h59⟩, fun i hi => ?_⟩
          · rw [g3, f7 1 (by omega) (by omega) (by omega), e6, sI_same]
          · have hb : S12.1 2 = SX.1 2 := by rw [g2 2 rfl, f7 2 (by omega) (by omega) (by omega), c6 2 (by omega), s1 2 (by omega) (by omega) (by omega), b1.1 2 (by omega) (by omega)]
            have hm : M5.1 4 = SM.1 4 := by rw [h5 4 (by omega) (by omega) (by omega), F3.1 4 (by omega), m2.1 4 (by omega) (by omega)]
            rw [hb, hm]
            exact rt.2 i hi
        · rw [h56]
          exact D0.eqf (fun j hj => by rw [hg j hj]; exact (nMorn_18 E12 j).symm)
        · refine ⟨0, by omega, g4, fun k hk => ⟨?_, fun z => absurd z (by simp)⟩⟩
          rw [bI_f (by simp), e5]
          rcases (show k = 0 ∨ k = 1 by omega) with rfl | rfl
          · rw [sI_other _ _ _ (by omega), sI_same]
          · rw [sI_same]
      · exact S.eq ⟨m2.2 _ (by omega), m2.2 _ (by omega), m2.2 _ (by omega), m2.2 _ (by omega), m2.2 _ (by omega)⟩ (m2.1 _ (by omega) (by omega)) (m2.1 _ (by omega) (by omega)) (m2.1 _ (by omega) (by omega))
      · rw [m2.2 _ (by omega)]; exact hl
    have X7 : XR S7 := XR_18 E7 (tF_XR X _ (out_PQ a))
    refine X_stock (fun s hs => (X7.2.1 s hs).2.2.2.2.2) (fun S8 f8 l8 => ?_)
    refine X_become (by omega) (fun S9 CD9 => ?_)
    unfold q_X5_forget
    rw [all_eq, all_eq, all_eq]
    obtain ⟨S12, e12⟩ : ∃ S12, S12 = sI (sI (sI S9 0 7 (nI 0)) (24 + 3 * 0) 0 (nI 0)) (24 + 3 * 1) 0 (nI 0) := ⟨_, rfl⟩
    rw [← e12]
    have c12 : ∀ c, c ≠ 0 → c ≠ 24 → c ≠ 27 → S12.1 c = S9.1 c := fun c c0 c1 c2 => by rw [e12, sI_ne _ _ _ _ (by omega), sI_ne _ _ _ _ (by omega), sI_ne _ _ _ _ c0]
    have c9 : ∀ c, c < 33 ∨ 39 < c → S9.1 c = S8.1 c := fun c hc => CD9.1 c (by omega)
    have E812 : SeaEq S8 S12 := fun c c1 c2 => by rw [c12 c (by omega) (by omega) (by omega), c9 c (by omega)]
    have E912 : SeaEq S9 S12 := fun c c1 c2 => (c12 c (by omega) (by omega) (by omega)).symm
    have g1 : ∀ c, 4 ≤ c → c < 23 → S12.1 c = S7.1 c := fun c c1 c2 => by rw [c12 c (by omega) (by omega) (by omega), c9 c (by omega), f8 c (by omega)]
    have X12 : XR S12 := XR_18 (fun c c1 c2 => g1 c c1 (by omega)) X7
    obtain ⟨z0, z1⟩ := morn_zero d1
    have k8 : ∀ c, 40 ≤ c → c < 45 → S8.1 c = SX.1 c := fun c c1 c2 => by rw [f8 c (by omega), f7 c (by omega) (by omega) (by omega), c6 c (by omega), s1 c (by omega) (by omega) (by omega), b1.1 c (by omega) (by omega)]
    have D81 : DayR S12 S8 1 (nMorn S12) := DayR_morn E812 X12 (fun j hj => by rw [k8 _ (by omega) (by omega)]; exact z0 j hj) (fun k hk => by
      rw [k8 _ (by omega) (by omega), k8 _ (by omega) (by omega), k8 _ (by omega) (by omega), k8 _ (by omega) (by omega)]; exact z1 k hk) (fun s hs => by rw [l8 s hs, g1 _ (by omega) (by omega)])
    refine main S12 g1 (fun c hc => by rw [hc, c12 2 (by omega) (by omega) (by omega), c9 2 (by omega), f8 2 (by omega)]) (fun f => by rw [c12 1 (by omega) (by omega) (by omega), c9 1 (by omega), f8 1 (by omega)]) ?_ ?_ ?_ ?_ ?_ X12
    · rw [e12, sI_ne _ _ _ _ (by omega), sI_ne _ _ _ _ (by omega), sI_same]
    · rw [e12, sI_ne _ _ _ _ (by omega), sI_same]
    · rw [e12, sI_same]
    · exact (D81.copy CD9 E912).eq (fun c _ _ => rfl) (fun c h1 h2 => c12 c (by omega) (by omega) (by omega))
    · exact D81.eq (fun c _ _ => rfl) (fun c h1 h2 => by rw [c12 c (by omega) (by omega) (by omega), c9 c (by omega)])
  · have hn : ¬ nI (outR len B 10 0).2.1 = -1 := fun q => m1_n (out_lt hX.2.1 10 0 (Nat.zero_le _)) q.symm
    rw [and_nif hn]
    refine M_isRead hM (fun z => absurd z a) (fun _ SM' m e => ?_)
    rw [and_if rfl]
    exact ⟨rfl, T, RelT_rd R0 b1 m⟩
