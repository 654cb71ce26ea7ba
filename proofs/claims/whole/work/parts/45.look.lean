/-! ===== kite, taking, count ===== -/
section LK
variable {SX SM : St}
theorem swN {a : Int32} {j : Nat} (hj : j ≤ 4) (i : Nat) (hi : i < 5) (e : a = nI j) : (a = nI i ↔ j = i) := by rw [e, neq _ _ (by omega) (by omega)]
theorem o_kite : ob_kite Rel := by
  intro SX SM R a1 a2
  unfold q_X8_kite q_X9_kite
  simp only [f_X4_isToldKite, f_X9_isKt R, f_X9_in, bbr, all_eq]
  by_cases c1 : isKt SX a1
  · simp only [pif_t c1]
    obtain ⟨k, hk, rfl, -⟩ := c1
    obtain ⟨T, t, u, n, E, ht, p, hup, -⟩ := R.day
    obtain ⟨-, ⟨-, c0, -, hub, hu, -, hask, -⟩, -, p4⟩ := p
    obtain ⟨f1, -⟩ := p4 trivial
    by_cases c2 : inR a2 (nI 0) (nI 4)
    · simp only [pif_t c2]
      obtain ⟨j, hj, rfl⟩ := inR_ex (by omega) c2
      simp only [f_X8_isIn, bbr, pk_mul, nI_add]
      have v6 : vp_in (nI k) 6 := vp_in_nI hk (by omega)
      have vr : vp_in (nI (1 + 6 * j + k)) 1197 := vp_in_nI (by omega) (by omega)
      simp (disch := omega) only [ncl, neq]
      rcases (show j = 0 ∨ j = 1 ∨ j = 2 ∨ j = 3 ∨ j = 4 by omega) with rfl | rfl | rfl | rfl | rfl
      · rw [and_if rfl, hup]
        have hb := hasB_nI (n := u) (k := k) (by omega) (by omega)
        have e := hu k hk
        refine ⟨fun c => ⟨vr, ?_, R⟩, fun c => ⟨vr, ?_, R⟩⟩
        · rw [show 1 + 6 * 0 + k = 1 + k by omega, e, bI_f (fun q => c (hb.mpr q))]
        · rw [show 1 + 6 * 0 + k = 1 + k by omega, e, bI_t (hb.mp c)]
      · rw [and_nif (by omega), and_if rfl]
        refine ⟨v6, vr, ?_, R⟩
        rw [show 1 + 6 * 1 + k = 7 + k by omega]; exact hask k hk
      · rw [and_nif (by omega), and_nif (by omega), and_if rfl]
        refine ⟨v6, vr, ?_, R⟩
        rw [show 1 + 6 * 2 + k = 13 + k by omega]; exact (f1 k hk).1
      · rw [and_nif (by omega), and_nif (by omega), and_nif (by omega), and_if rfl]
        refine ⟨v6, vr, ?_, R⟩
        rw [show 1 + 6 * 3 + k = 19 + k by omega]; exact (f1 k hk).2.1
      · rw [and_nif (by omega), and_nif (by omega), and_nif (by omega), and_nif (by omega), and_if rfl]
        refine ⟨v6, vr, ?_, R⟩
        rw [show 1 + 6 * 4 + k = 25 + k by omega]; exact (f1 k hk).2.2
    · simp only [pif_f c2]
      have no : ∀ j, j ≤ 4 → ¬ a2 = nI j := fun j hj e => c2 (by rw [e]; exact inR_nI hj (by omega))
      rw [and_nif (no 0 (by omega)), and_nif (no 1 (by omega)), and_nif (no 2 (by omega)), and_nif (no 3 (by omega)), and_nif (no 4 (by omega))]
      exact ⟨trivial, R⟩
  · simp only [pif_f c1]
    exact ⟨trivial, R⟩
theorem noteV {v : Int32} {f : Nat → Int32} {i j : Nat} (h : noteP v f i) (hj : j ≤ 3) : f (45 + 4 * i + j) = (if j = 3 then v >>> ((nI (4 * j)) &&& 31) else (v >>> ((nI (4 * j)) &&& 31)) &&& nI 15) := by
  obtain ⟨k, s, u, w, h1, h2, h3, h4, rfl, e1, e2, e3, e4⟩ := h
  rw [shrN (by omega) (by omega)]
  have hd : ∀ x, (((w * 16 + u) * 16 + s) * 16 + k) / 2 ^ x < 2 ^ 32 := fun x => Nat.lt_of_le_of_lt (Nat.div_le_self _ _) (by omega)
  rw [pk_andN (hd _) 4 rfl]
  rcases (show j = 0 ∨ j = 1 ∨ j = 2 ∨ j = 3 by omega) with rfl | rfl | rfl | rfl
  · rw [if_neg (by omega)]; rw [Nat.add_zero, e1]; congr 1; omega
  · rw [if_neg (by omega)]; rw [e2]; congr 1; omega
  · rw [if_neg (by omega)]; rw [e3]; congr 1; omega
  · rw [if_pos rfl]; rw [e4]; congr 1; omega
theorem o_taking : ob_taking Rel := by
  intro SX SM R a1 a2
  unfold q_X8_taking q_X9_taking
  simp only [f_X9_in, bbr, all_eq]
  obtain ⟨T, t, u, n, E, ht, p, hup, h44, hN⟩ := R.day
  obtain ⟨-, -, -, p4⟩ := p
  obtain ⟨-, -, n', f3, f4, f5, f6⟩ := p4 trivial
  simp (disch := omega) only [ncl, f4, f5]
  rcases ixN a1 (n := 2 ^ 31 - 1) (by omega) with c | c | ⟨i, hi, rfl⟩
  · simp only [and_if c]; exact ⟨trivial, R⟩
  · have c0 : ¬ a1 < nI 0 := by
      rw [tI_lt, nI_toInt (by omega)]; rw [tI_le, nI_toInt (by omega)] at c; omega
    have cn : nI n' ≤ a1 := by
      rw [tI_le, nI_toInt (by omega)]; rw [tI_le, nI_toInt (by omega)] at c; omega
    simp only [and_nif c0]
    by_cases c2 : inR a2 (nI 0) (nI 3)
    · obtain ⟨j, hj, rfl⟩ := inR_ex (by omega) c2
      simp only [pif_t c2, and_if cn]
      rw [and_nif (nI_p (by omega)), nle _ _ (by omega) (by omega), and_if (by omega)]; exact ⟨trivial, R⟩
    · simp only [pif_f c2]
      refine ⟨fun _ => ⟨trivial, R⟩, fun q1 => ⟨fun q2 => ?_, fun _ => ⟨trivial, R⟩⟩⟩
      exact absurd ⟨q1, by rw [tI_lt, nI_toInt (by omega)]; rw [tI_le, nI_toInt (by omega)] at q2; omega⟩ c2
  · have c0 := nI_p (show i < 2 ^ 31 by omega)
    simp only [and_nif c0]
    by_cases c2 : inR a2 (nI 0) (nI 3)
    · obtain ⟨j, hj, rfl⟩ := inR_ex (by omega) c2
      simp only [pif_t c2]
      rw [and_nif (nI_p (by omega)), nle _ _ (by omega) (by omega), and_if (by omega)]
      simp (disch := omega) only [nle]
      by_cases c3 : n' ≤ i
      · simp only [and_if c3]; exact ⟨trivial, R⟩
      · simp only [and_nif c3]
        simp (disch := omega) only [nlt, neq, pk_mul, nI_add, ncl]
        have v := noteV (f6 i (by omega)) hj
        rw [and_if (by omega)]
        refine ⟨vp_in_nI (by omega) (by omega), fun c => ⟨vp_in_nI (by omega) (by omega), ?_, R⟩, fun c => ⟨vp_in_nI (by omega) (by omega), ?_, R⟩⟩
        · rw [v, if_pos c]
        · rw [v, if_neg c]
    · simp only [pif_f c2]
      refine ⟨fun _ => ⟨trivial, R⟩, fun q1 => ⟨fun q2 => ?_, fun _ => ⟨trivial, R⟩⟩⟩
      exact absurd ⟨q1, by rw [tI_lt, nI_toInt (by omega)]; rw [tI_le, nI_toInt (by omega)] at q2; omega⟩ c2
theorem o_count : ob_count Rel := by
  intro SX SM R a1
  unfold q_X8_count q_X9_count
  simp only [all_eq]
  obtain ⟨T, t, u, n, E, ht, p, hup, h44, hN⟩ := R.day
  obtain ⟨-, ⟨-, e0, n0, -⟩, p3, p4⟩ := p
  obtain ⟨-, f2, n', f3, f4, f5, f6⟩ := p4 trivial
  have hS := R.rs
  have hl := R.law
  have hT : SX.1 1 2 = SM.1 0 9 := by
    obtain ⟨T, q⟩ := R
    obtain ⟨⟨len, l1, l2, l3⟩, -⟩ := q.2.2.2.2.2.1
    rw [l2, l3]
  simp (disch := omega) only [ncl]
  by_cases c0 : a1 = nI 0
  · simp only [and_if c0]
    refine ⟨7, ?_⟩
    refine X_kiteBitsL (S := SX) ?_ 6 0 (by omega)
    obtain ⟨⟨kb, k1, k2, k3⟩, -⟩ := hS
    exact ⟨by rw [rB_eq k1 k3, k2], R⟩
  simp only [and_nif c0]
  by_cases c1 : a1 = nI 1
  · simp only [and_if c1]
    refine ⟨5, ?_⟩
    refine X_shoalBitsL (S := SX) ?_ 4 0 (by omega)
    obtain ⟨-, -, ⟨kb, k1, k2, k3⟩, -⟩ := hS
    exact ⟨by rw [rB_eq k1 k3, k2], R⟩
  simp only [and_nif c1]
  obtain ⟨-, -, -, -, -, -, s7, s8, s9⟩ := hS
  by_cases c2 : a1 = nI 2
  · simp only [and_if c2]; exact ⟨hl.symm, R⟩
  simp only [and_nif c2]
  by_cases c3 : a1 = nI 3
  · simp only [and_if c3]; exact ⟨s7.symm, R⟩
  simp only [and_nif c3]
  by_cases c4 : a1 = nI 4
  · simp only [and_if c4]; exact ⟨s8.symm, R⟩
  simp only [and_nif c4]
  by_cases c5 : a1 = nI 5
  · simp only [and_if c5]; exact ⟨s9.symm, R⟩
  simp only [and_nif c5]
  by_cases c6 : a1 = nI 6
  · simp only [and_if c6]; exact ⟨by rw [e0, n0], R⟩
  simp only [and_nif c6]
  by_cases c7 : a1 = nI 7
  · simp only [and_if c7]; exact ⟨by rw [f4, f5], R⟩
  simp only [and_nif c7]
  by_cases c8 : a1 = nI 8
  · simp only [and_if c8]
    refine M_caught ⟨?_, R⟩
    rw [p3, s0]
  simp only [and_nif c8]
  by_cases c9 : a1 = nI 9
  · simp only [and_if c9]; exact ⟨f2, R⟩
  simp only [and_nif c9]
  by_cases c10 : a1 = nI 10
  · simp only [and_if c10]; exact ⟨hT, R⟩
  simp only [and_nif c10]
  exact ⟨trivial, R⟩
end LK
