/-! ===== calls that only look, and ask ===== -/
theorem inR_ex {a : Int32} {m : Nat} (hm : m < 2 ^ 30) (h : inR a (nI 0) (nI m)) : ∃ j, j ≤ m ∧ a = nI j := by
  rcases ixN a (n := m + 1) (by omega) with c | c | ⟨j, hj, e⟩
  · exact absurd c h.1
  · exfalso
    apply h.2
    rw [tI_lt, nI_toInt (by omega)]
    rw [tI_le, nI_toInt (by omega)] at c
    omega
  · exact ⟨j, by omega, e⟩
theorem inR_nI {j m : Nat} (h : j ≤ m) (hm : m < 2 ^ 30) : inR (nI j) (nI 0) (nI m) := ⟨nI_p (by omega), by rw [nlt _ _ (by omega) (by omega)]; omega⟩
theorem shrN {a k : Nat} (ha : a < 2 ^ 31) (hk : k < 32) : nI a >>> (nI k &&& 31) = nI (a / 2 ^ k) := pk_shrN ha _ k (bt_sm k hk)
theorem M_caught {S : St} {P : Int32 → Prop} (h : P (sm6 (S.1 6))) : q_X9_caught S P := by
  refine ⟨7, ?_⟩
  rw [q_X9_caught_4_s, and_nif (by decide), all_eq, all_eq, nI_add, nI_add]
  refine ⟨vp_in_nI (by omega) (by omega), ?_⟩
  rw [q_X9_caught_4_s, and_nif (by decide), all_eq, all_eq, nI_add, nI_add]
  refine ⟨vp_in_nI (by omega) (by omega), ?_⟩
  rw [q_X9_caught_4_s, and_nif (by decide), all_eq, all_eq, nI_add, nI_add]
  refine ⟨vp_in_nI (by omega) (by omega), ?_⟩
  rw [q_X9_caught_4_s, and_nif (by decide), all_eq, all_eq, nI_add, nI_add]
  refine ⟨vp_in_nI (by omega) (by omega), ?_⟩
  rw [q_X9_caught_4_s, and_nif (by decide), all_eq, all_eq, nI_add, nI_add]
  refine ⟨vp_in_nI (by omega) (by omega), ?_⟩
  rw [q_X9_caught_4_s, and_nif (by decide), all_eq, all_eq, nI_add, nI_add]
  refine ⟨vp_in_nI (by omega) (by omega), ?_⟩
  rw [q_X9_caught_4_s, and_if (by decide), z0]
  simp (disch := omega) only [ncl]
  exact h
theorem X_kiteBitsL {S : St} {P : Int32 → Prop} (h : P (nI (rB (tK S) 6))) : ∀ m k, k + m = 6 → q_X4_kiteBits_4 S P (m + 1) (nI (rB (tK S) k)) (nI k) := by
  intro m
  induction m with
  | zero => intro k hk; rw [q_X4_kiteBits_4_s, show k = 6 by omega, and_if (by decide)]; exact h
  | succ m ih =>
    intro k hk
    rw [q_X4_kiteBits_4_s, and_nif (nI_ge (show k < 6 by omega) (by omega)), and_t (vp_in_nI (show k < 6 by omega) (by omega)), ncl _ (by omega), shl1 k (by omega)]
    have e : rB (tK S) (k + 1) = @ite Nat (tK S k) (Classical.propDecidable _) (rB (tK S) k ||| 2 ^ k) (rB (tK S) k) := rfl
    have e0 := ih (k + 1) (by omega)
    refine ⟨fun c => ?_, fun c => ?_⟩
    · unfold q_X4_kiteBits_30
      rw [all_eq, all_eq, nI_add, nI_or, Nat.or_zero]
      rw [e, if_neg (fun q => q c)] at e0; exact e0
    · unfold q_X4_kiteBits_30
      rw [all_eq, all_eq, nI_add, nI_or]
      rw [e, if_pos c] at e0; exact e0
theorem X_shoalBitsL {S : St} {P : Int32 → Prop} (h : P (nI (rB (tS S) 4))) : ∀ m k, k + m = 4 → q_X4_shoalBits_4 S P (m + 1) (nI (rB (tS S) k)) (nI k) := by
  intro m
  induction m with
  | zero => intro k hk; rw [q_X4_shoalBits_4_s, show k = 4 by omega, and_if (by decide)]; exact h
  | succ m ih =>
    intro k hk
    rw [q_X4_shoalBits_4_s, and_nif (nI_ge (show k < 4 by omega) (by omega)), and_t (vp_in_nI (show k < 4 by omega) (by omega)), ncl _ (by omega), shl1 k (by omega)]
    have e : rB (tS S) (k + 1) = @ite Nat (tS S k) (Classical.propDecidable _) (rB (tS S) k ||| 2 ^ k) (rB (tS S) k) := rfl
    have e0 := ih (k + 1) (by omega)
    refine ⟨fun c => ?_, fun c => ?_⟩
    · unfold q_X4_shoalBits_29
      rw [all_eq, all_eq, nI_add, nI_or, Nat.or_zero]
      rw [e, if_neg (fun q => q c)] at e0; exact e0
    · unfold q_X4_shoalBits_29
      rw [all_eq, all_eq, nI_add, nI_or]
      rw [e, if_pos c] at e0; exact e0
theorem rB_eq {p : Nat → Prop} {n b : Nat} (hb : b < 2 ^ n) (h : ∀ k, k < n → (b.testBit k = true ↔ p k)) : rB p n = b := by
  apply Nat.eq_of_testBit_eq
  intro j
  rw [Bool.eq_iff_iff, rB_bit]
  by_cases c : j < n
  · rw [h j c]; exact ⟨fun q => q.2, fun q => ⟨c, q⟩⟩
  · rw [Nat.testBit_lt_two_pow (Nat.lt_of_lt_of_le hb (Nat.pow_le_pow_right (by omega) (by omega)))]
    exact ⟨fun q => absurd q.1 c, fun q => by cases q⟩
section SI
variable {SX SM : St}
theorem Rel.day (h : Rel SX SM) : ∃ T t u n, SeaEq SX T ∧ t ≤ 12 ∧ PK T SX 0 t True (nI 0) SX u (SM.1 6) ∧ SX.1 (33 + 7 * 0) 1 = nI u ∧ SM.1 6 44 = nI n ∧ n ≤ 24 * t := by
  obtain ⟨T, q⟩ := h
  obtain ⟨t, u, n, a⟩ := q.2.2.2.2.2.2.1
  exact ⟨T, t, u, n, q.1, a⟩
theorem sx_E {T : St} (E : SeaEq SX T) {s t : Nat} (hs : s < 4) : sxX SX s t = sxX T s t ∧ syX SX s t = syX T s t := by
  unfold sxX syX; rw [E (15 + s) (by omega) (by omega)]; exact ⟨rfl, rfl⟩
theorem o_shoal : ob_shoal Rel := by
  intro SX SM R a1 a2
  unfold q_X8_shoal q_X9_shoal
  simp only [f_X4_isToldShoal, f_X9_in, bbr, all_eq]
  by_cases c1 : inR a1 (nI 0) (nI 3)
  · obtain ⟨s, hs, rfl⟩ := inR_ex (by omega) c1
    simp only [f_X9_has, bbr, pif_t c1]
    have hb := R.rs.shoal (show s < 4 by omega)
    have hi := isSh_nI (S := SX) (show s < 4 by omega)
    by_cases c2 : tS SX s
    · simp only [pif_t (hi.mpr c2), pif_t (hb.mpr c2)]
      obtain ⟨T, t, u, n, E, ht, p, hu, -⟩ := R.day
      obtain ⟨-, ⟨-, c0, -, -, -, -, -, hleft, hpos, -⟩, -⟩ := p
      obtain ⟨e1, e2⟩ := sx_E E (t := t) (show s < 4 by omega)
      rw [c0]
      by_cases c3 : a2 = nI 0
      · simp only [and_if c3, f_X4_shoalX (show s < 4 by omega) c2, nI_add]
        refine ⟨vp_in_nI (by omega) (by omega), ?_, R⟩
        rw [ncl _ (by omega), (hpos s (by omega)).1, e1]
      · by_cases c4 : a2 = nI 1
        · simp only [and_nif c3, and_if c4, f_X4_shoalY (show s < 4 by omega) c2, nI_add]
          refine ⟨vp_in_nI (by omega) (by omega), ?_, R⟩
          rw [ncl _ (by omega), (hpos s (by omega)).2, e2]
        · by_cases c5 : a2 = nI 2
          · simp only [and_nif c3, and_nif c4, and_if c5, nI_add]
            refine ⟨vp_in_nI (by omega) (by omega), vp_in_nI (by omega) (by omega), ?_, R⟩
            rw [ncl _ (by omega), ncl _ (by omega), (hleft s (by omega)).1]
          · simp only [and_nif c3, and_nif c4, and_nif c5]
            exact ⟨trivial, R⟩
    · simp only [pif_f (fun q => c2 (hi.mp q)), pif_f (fun q => c2 (hb.mp q))]
      exact ⟨trivial, R⟩
  · have hi : ¬ isSh SX a1 := by
      rintro ⟨k, hk, rfl, -⟩
      exact c1 (inR_nI (by omega) (by omega))
    simp only [pif_f c1, pif_f hi]
    exact ⟨trivial, R⟩
theorem o_tangle : ob_tangle Rel := by
  intro SX SM R a1 a2 a3 a4
  unfold q_X8_tangle q_X9_tangle
  simp only [f_X8_isPlace, f_X4_isToldKite, f_X9_isKt R, f_X9_isHeight, f_X9_isHour, bbr]
  by_cases c1 : isKt SX a1
  · by_cases c2 : isHt a3
    · by_cases c3 : isHr a4
      · simp only [pif_t (show isKt SX a1 ∧ isHt a3 ∧ isHr a4 from ⟨c1, c2, c3⟩), pif_t c1, pif_t c2, pif_t c3]
        by_cases c4 : isKt SX a2
        · simp only [pif_t c4]
          obtain ⟨a, ha, rfl, hA⟩ := c1
          obtain ⟨b, hb, rfl, hB⟩ := c4
          obtain ⟨h, h1, h3, rfl⟩ := isHt_ex c2
          obtain ⟨t, ht, rfl⟩ := isHr_ex c3
          by_cases c5 : nI a = nI b
          · simp only [and_if c5]
            exact ⟨trivial, R⟩
          · simp only [and_nif c5, f_X4_wouldCross ha hb h1 h3 ht, f_X9_doTangle R.rs ha hb h1 h3 ht, bbr]
            have hne : a ≠ b := fun q => c5 (by rw [q])
            by_cases c6 : crX SX a b h t
            · simp only [pif_t (show tK SX a ∧ tK SX b ∧ crX SX a b h t from ⟨hA, hB, c6⟩), pif_t c6]
              simp (disch := omega) only [nlt, nle]
              by_cases c7 : b ≤ a
              · rw [if_pos (by omega), if_neg (by omega)]
                simp only [f_X4_givingWay (SX.1 4 4) hb ha hB hA, and_if c7, f_X9_givesWay R.rs R.xr R.law hb ha]
                exact ⟨trivial, R⟩
              · rw [if_neg (by omega), if_pos (by omega)]
                simp only [f_X4_givingWay (SX.1 4 4) ha hb hA hB, and_nif c7, f_X9_givesWay R.rs R.xr R.law ha hb]
                exact ⟨trivial, R⟩
            · simp only [pif_f (show ¬ (tK SX a ∧ tK SX b ∧ crX SX a b h t) from fun q => c6 q.2.2), pif_f c6]
              exact ⟨trivial, R⟩
        · simp only [pif_f c4]
          exact ⟨trivial, R⟩
      · simp only [pif_f (show ¬ (isKt SX a1 ∧ isHt a3 ∧ isHr a4) from fun q => c3 q.2.2), pif_t c1, pif_t c2, pif_f c3]
        by_cases c4 : isKt SX a2
        · rw [pif_t c4]; exact ⟨trivial, R⟩
        · rw [pif_f c4]; exact ⟨trivial, R⟩
    · simp only [pif_f (show ¬ (isKt SX a1 ∧ isHt a3 ∧ isHr a4) from fun q => c2 q.2.1), pif_t c1, pif_f c2]
      by_cases c4 : isKt SX a2
      · rw [pif_t c4]; exact ⟨trivial, R⟩
      · rw [pif_f c4]; exact ⟨trivial, R⟩
  · simp only [pif_f (show ¬ (isKt SX a1 ∧ isHt a3 ∧ isHr a4) from fun q => c1 q.1), pif_f c1]
    exact ⟨trivial, R⟩
end SI
