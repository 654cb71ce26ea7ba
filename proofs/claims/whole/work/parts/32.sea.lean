/-! ===== what is told: the class's sea and the reference's rows ===== -/
def rg (x : Int32) (a b : Int) : Prop := a ≤ x.toInt ∧ x.toInt ≤ b
/-- the bounds of what is told, on the class's side -/
def XR (S : St) : Prop :=
  (∀ k, k < 6 → rg (S.1 (9 + k) 1) 0 9 ∧ rg (S.1 (9 + k) 2) 0 5 ∧ rg (S.1 (9 + k) 3) 0 9 ∧ rg (S.1 (9 + k) 4) 0 9 ∧ rg (S.1 (9 + k) 5) 0 2 ∧ (tK S k → 1 ≤ (S.1 (9 + k) 3).toInt)) ∧
  (∀ s, s < 4 → rg (S.1 (15 + s) 1) 0 9 ∧ rg (S.1 (15 + s) 2) 0 6 ∧ rg (S.1 (15 + s) 3) (-1) 1 ∧ rg (S.1 (15 + s) 4) (-1) 1 ∧ rg (S.1 (15 + s) 5) 0 99 ∧ (¬ tS S s → S.1 (15 + s) 5 = nI 0)) ∧
  (∀ i, i < 36 → rg (S.1 7 i) 0 9 ∧ rg (S.1 8 i) (-3) 3) ∧ rg (S.1 4 4) 0 2 ∧ rg (S.1 4 5) 0 99 ∧ (∃ fg, fg < 4096 ∧ S.1 4 6 = nI fg) ∧ rg (S.1 4 7) 0 9
def RS (SX SM : St) : Prop :=
  (∃ kb, kb < 64 ∧ SM.1 0 1 = nI kb ∧ ∀ k, k < 6 → (kb.testBit k = true ↔ tK SX k)) ∧
  (∀ k j, k < 6 → j < 5 → SM.1 2 (5 * k + j) = SX.1 (9 + k) (j + 1)) ∧
  (∃ sb, sb < 16 ∧ SM.1 0 3 = nI sb ∧ ∀ s, s < 4 → (sb.testBit s = true ↔ tS SX s)) ∧
  (∀ s j, s < 4 → j < 5 → SM.1 3 (5 * s + j) = SX.1 (15 + s) (j + 1)) ∧
  (∀ h t, 1 ≤ h → h ≤ 3 → t < 12 → SM.1 1 (24 * h + 2 * t) = SX.1 7 (wIx h t) ∧ SM.1 1 (24 * h + 2 * t + 1) = SX.1 8 (wIx h t)) ∧
  True ∧ SM.1 0 6 = SX.1 4 5 ∧ SM.1 0 7 = SX.1 4 6 ∧ SM.1 0 8 = SX.1 4 7
section SE
variable {SX SM : St}
theorem RS.kite (R : RS SX SM) {k : Nat} (hk : k < 6) : hasB (SM.1 0 1) k ↔ tK SX k := by
  obtain ⟨kb, h1, h2, h3⟩ := R.1
  rw [h2, hasB_nI (by omega) (by omega)]
  exact h3 k hk
theorem RS.shoal (R : RS SX SM) {k : Nat} (hk : k < 4) : hasB (SM.1 0 3) k ↔ tS SX k := by
  obtain ⟨kb, h1, h2, h3⟩ := R.2.2.1
  rw [h2, hasB_nI (by omega) (by omega)]
  exact h3 k hk
theorem f_X9_isKite (R : RS SX SM) (a : Int32) (P : Int32 → Prop) : q_X9_isKite SM a P ↔ P (bI (isKt SX a)) := by
  unfold q_X9_isKite
  rw [f_X9_in]
  rcases ixN a (n := 6) (by omega) with h | h | ⟨j, hj, rfl⟩
  · rw [bI_f (fun q => q.1 h), and_if rfl, bI_f]
    rintro ⟨j, hj, rfl, -⟩
    exact nI_p (by omega) h
  · have h5 : nI 5 < a := by
      rw [tI_lt]
      rw [tI_le, nI_toInt (by omega)] at h
      rw [show (nI 5).toInt = 5 from rfl]
      omega
    rw [bI_f (fun q => q.2 h5), and_if rfl, bI_f]
    rintro ⟨j, hj, rfl, -⟩
    exact nI_ge (b := 6) hj (by omega) h
  · rw [bI_t ⟨nI_p (by omega), nI_nlt (a := 5) (by omega) (by omega)⟩, and_nif (by decide), f_X9_has, bI_c (R.kite hj), bI_c (isKt_nI hj)]
    by_cases hT : tK SX j
    · rw [bI_t hT, and_nif (by decide)]
    · rw [bI_f hT, and_if rfl]
theorem m5z {k : Nat} : nI 5 * nI k = nI (5 * k + 0) := by rw [pk_mul, Nat.add_zero]
theorem m5 {k j : Nat} : nI 5 * nI k + nI j = nI (5 * k + j) := by rw [pk_mul, nI_add]
theorem m24 {h t : Nat} : nI 24 * nI h + nI 2 * nI t = nI (24 * h + 2 * t) := by rw [pk_mul, pk_mul, nI_add]
theorem f_X9_xOf (R : RS SX SM) {k h t : Nat} (hk : k < 6) (h1 : 1 ≤ h) (h3 : h ≤ 3) (ht : t < 12) (P : Int32 → Prop) : q_X9_xOf SM (nI k) (nI h) (nI t) P ↔ P (kxX SX k h t) := by
  unfold q_X9_xOf
  rw [m24, nI_add, m5, m5z]
  rw [and_t (vp_in_nI (by omega) (by omega)), and_t (vp_in_nI (by omega) (by omega)), and_t (vp_in_nI (by omega) (by omega)), nI_clamp (by omega), nI_clamp (by omega), nI_clamp (by omega), R.2.1 k 0 hk (by omega), R.2.1 k 2 hk (by omega), (R.2.2.2.2.1 h t h1 h3 ht).2]
  rfl
theorem f_X9_yOf (R : RS SX SM) {k h : Nat} (hk : k < 6) (P : Int32 → Prop) : q_X9_yOf SM (nI k) (nI h) P ↔ P (kyX SX k h) := by
  unfold q_X9_yOf
  rw [m5, and_t (vp_in_nI (by omega) (by omega)), nI_clamp (by omega), R.2.1 k 2 hk (by omega)]
  rfl
theorem f_X9_isInSea (R : RS SX SM) {k h t : Nat} (hk : k < 6) (h1 : 1 ≤ h) (h3 : h ≤ 3) (ht : t < 12) (P : Int32 → Prop) : q_X9_isInSea SM (nI k) (nI h) (nI t) P ↔ P (bI (seaX SX k h t)) := by
  unfold q_X9_isInSea
  rw [f_X9_xOf R hk h1 h3 ht, f_X9_in]
  by_cases c1 : inR (kxX SX k h t) (nI 0) (nI 9)
  · rw [bI_t c1, and_nif (by decide), f_X9_yOf R hk, f_X9_in]
    by_cases c2 : inR (kyX SX k h) (nI 1) (nI 6)
    · rw [bI_t c2, and_nif (by decide), bI_t ⟨c1, c2⟩]
    · rw [bI_f c2, and_if rfl, bI_f (fun q => c2 q.2)]
  · rw [bI_f c1, and_if rfl, bI_f (fun q => c1 q.1)]
theorem f_X9_hasLift (R : RS SX SM) {k h t : Nat} (hk : k < 6) (h1 : 1 ≤ h) (h3 : h ≤ 3) (ht : t < 12) (P : Int32 → Prop) : q_X9_hasLift SM (nI k) (nI h) (nI t) P ↔ P (bI (lfX SX k h t)) := by
  unfold q_X9_hasLift
  rw [m24, m5, m5, and_t (vp_in_nI (by omega) (by omega)), and_t (vp_in_nI (by omega) (by omega)), and_t (vp_in_nI (by omega) (by omega)), nI_clamp (by omega), nI_clamp (by omega), nI_clamp (by omega), R.2.1 k 1 hk (by omega), R.2.1 k 3 hk (by omega), (R.2.2.2.2.1 h t h1 h3 ht).1]
  by_cases c : SX.1 (9 + k) (1 + 1) * SX.1 7 (wIx h t) < SX.1 (9 + k) (3 + 1)
  · rw [and_if c, bI_f (fun q => q c)]
  · rw [and_nif c, bI_t (show lfX SX k h t from c)]
theorem f_X9_doTangle (R : RS SX SM) {a b h t : Nat} (ha : a < 6) (hb : b < 6) (h1 : 1 ≤ h) (h3 : h ≤ 3) (ht : t < 12) (P : Int32 → Prop) : q_X9_doTangle SM (nI a) (nI b) (nI h) (nI t) P ↔ P (bI (crX SX a b h t)) := by
  unfold q_X9_doTangle
  rw [m5z, m5z, and_t (vp_in_nI (by omega) (by omega)), and_t (vp_in_nI (by omega) (by omega)), all_eq, f_X9_xOf R ha h1 h3 ht, f_X9_xOf R hb h1 h3 ht, all_eq, f_cr, nI_clamp (by omega), nI_clamp (by omega), R.2.1 a 0 ha (by omega), R.2.1 b 0 hb (by omega)]
  rfl
theorem f_X9_givesWay (R : RS SX SM) (X : XR SX) {a b : Nat} {law : Int32} (hl : SM.1 0 5 = law) (ha : a < 6) (hb : b < 6) (P : Int32 → Prop) : q_X9_givesWay SM (nI a) (nI b) P ↔ P (nI (gvX SX law a b)) := by
  unfold q_X9_givesWay q_X9_givesWay_64 gvX
  rw [hl]
  obtain ⟨-, ⟨a1, a2⟩, -, -, ⟨a3, a4⟩, -⟩ := X.1 a ha
  obtain ⟨-, ⟨b1, b2⟩, -, -, ⟨b3, b4⟩, -⟩ := X.1 b hb
  have e1 : (SX.1 (9 + a) 2 - SX.1 (9 + b) 2).toInt = (SX.1 (9 + a) 2).toInt - (SX.1 (9 + b) 2).toInt := tI_sub (by omega) (by omega)
  have e2 : (SX.1 (9 + b) 5 - SX.1 (9 + a) 5).toInt = (SX.1 (9 + b) 5).toInt - (SX.1 (9 + a) 5).toInt := tI_sub (by omega) (by omega)
  rw [m5, m5, m5, m5]
  rw [and_t (vp_in_nI (show 5 * a + 1 < 30 by omega) (by omega)), and_t (vp_in_nI (show 5 * b + 1 < 30 by omega) (by omega)), and_t (vp_in_nI (show 5 * b + 4 < 30 by omega) (by omega)), and_t (vp_in_nI (show 5 * a + 4 < 30 by omega) (by omega))]
  rw [nI_clamp (by omega), nI_clamp (by omega), nI_clamp (by omega), nI_clamp (by omega), R.2.1 a 1 ha (by omega), R.2.1 b 1 hb (by omega), R.2.1 a 4 ha (by omega), R.2.1 b 4 hb (by omega)]
  by_cases c0 : law = nI 0
  · rw [and_if c0]
    by_cases c : SX.1 (9 + b) 2 ≤ SX.1 (9 + a) 2
    · have c' : nI 0 ≤ SX.1 (9 + a) (1 + 1) - SX.1 (9 + b) (1 + 1) := by
        rw [tI_le, e1, show (nI 0).toInt = 0 from rfl]; rw [tI_le] at c; omega
      rw [and_if c', if_neg]
      rintro (⟨-, h⟩ | ⟨h, -⟩)
      · exact h c
      · rw [c0] at h; exact absurd h (by decide)
    · have c' : ¬ nI 0 ≤ SX.1 (9 + a) (1 + 1) - SX.1 (9 + b) (1 + 1) := by
        rw [tI_le, e1, show (nI 0).toInt = 0 from rfl]; rw [tI_le] at c; omega
      rw [and_nif c', if_pos (show gwX SX law a b from Or.inl ⟨c0, c⟩)]
  rw [and_nif c0]
  by_cases c1 : law = nI 1
  · rw [and_if c1]
    by_cases c : SX.1 (9 + a) 5 ≤ SX.1 (9 + b) 5
    · have c' : nI 0 ≤ SX.1 (9 + b) (4 + 1) - SX.1 (9 + a) (4 + 1) := by
        rw [tI_le, e2, show (nI 0).toInt = 0 from rfl]; rw [tI_le] at c; omega
      rw [and_if c', if_neg]
      rintro (⟨h, -⟩ | ⟨-, h⟩)
      · exact c0 h
      · exact h c
    · have c' : ¬ nI 0 ≤ SX.1 (9 + b) (4 + 1) - SX.1 (9 + a) (4 + 1) := by
        rw [tI_le, e2, show (nI 0).toInt = 0 from rfl]; rw [tI_le] at c; omega
      rw [and_nif c', if_pos (show gwX SX law a b from Or.inr ⟨c1, c⟩)]
  · rw [and_nif c1, and_if (by decide), if_neg]
    rintro (⟨h, -⟩ | ⟨h, -⟩)
    · exact c0 h
    · exact c1 h
end SE
