/-! ===== small methods as functions ===== -/
def isHt (a : Int32) : Prop := ¬ a < nI 1 ∧ ¬ nI 3 < a
def isHr (a : Int32) : Prop := ¬ a < nI 0 ∧ ¬ nI 12 ≤ a
theorem f_X8_isHeight (S : St) (a : Int32) (k : Int32 → Prop) : q_X8_isHeight S a k ↔ k (bI (isHt a)) := by
  unfold q_X8_isHeight
  by_cases h1 : a < nI 1
  · rw [and_if h1, bI_f (fun h => h.1 h1)]
  · rw [and_nif h1]
    by_cases h2 : nI 3 < a
    · rw [and_if h2, bI_f (fun h => h.2 h2)]
    · rw [and_nif h2, bI_t ⟨h1, h2⟩]
theorem f_X8_isHour (S : St) (a : Int32) (k : Int32 → Prop) : q_X8_isHour S a k ↔ k (bI (isHr a)) := by
  unfold q_X8_isHour
  by_cases h1 : a < nI 0
  · rw [and_if h1, bI_f (fun h => h.1 h1)]
  · rw [and_nif h1]
    by_cases h2 : nI 12 ≤ a
    · rw [and_if h2, bI_f (fun h => h.2 h2)]
    · rw [and_nif h2, bI_t ⟨h1, h2⟩]
theorem f_X8_isIn (S : St) (x : Int32) (j : Nat) (k : Int32 → Prop) : q_X8_isIn S x (nI j) k ↔ k (bI (hasB x j)) := by
  unfold q_X8_isIn
  by_cases h1 : hasB x j
  · rw [and_if h1, bI_t h1]
  · rw [and_nif h1, bI_f h1]
theorem f_X9_has (S : St) (x : Int32) (j : Nat) (k : Int32 → Prop) : q_X9_has S x (nI j) k ↔ k (bI (hasB x j)) := by
  unfold q_X9_has
  by_cases h1 : hasB x j
  · rw [and_if h1, bI_t h1]
  · rw [and_nif h1, bI_f h1]
def inR (a b c : Int32) : Prop := ¬ a < b ∧ ¬ c < a
theorem f_X9_in (S : St) (a b c : Int32) (k : Int32 → Prop) : q_X9_in S a b c k ↔ k (bI (inR a b c)) := by
  unfold q_X9_in
  by_cases h1 : a < b
  · rw [and_if h1, bI_f (fun h => h.1 h1)]
  · rw [and_nif h1]
    by_cases h2 : c < a
    · rw [and_if h2, bI_f (fun h => h.2 h2)]
    · rw [and_nif h2, bI_t ⟨h1, h2⟩]
theorem isHr_lt (a : Int32) : isHr a ↔ inR a (nI 0) (nI 11) := by
  unfold isHr inR
  rw [tI_lt, tI_lt, tI_le, show (nI 12).toInt = 12 from rfl, show (nI 11).toInt = 11 from rfl]
  constructor <;> rintro ⟨h1, h2⟩ <;> exact ⟨h1, by omega⟩
theorem f_X9_isHeight (S : St) (a : Int32) (k : Int32 → Prop) : q_X9_isHeight S a k ↔ k (bI (isHt a)) := by
  unfold q_X9_isHeight
  rw [f_X9_in]
  by_cases h : inR a (nI 1) (nI 3)
  · rw [bI_t h, bI_t (show isHt a from h)]
  · rw [bI_f h, bI_f (show ¬ isHt a from h)]
theorem f_X9_isHour (S : St) (a : Int32) (k : Int32 → Prop) : q_X9_isHour S a k ↔ k (bI (isHr a)) := by
  unfold q_X9_isHour
  rw [f_X9_in]
  by_cases h : inR a (nI 0) (nI 11)
  · rw [bI_t h, bI_t ((isHr_lt a).mpr h)]
  · rw [bI_f h, bI_f (fun h2 => h ((isHr_lt a).mp h2))]
theorem isHr_ex {a : Int32} (h : isHr a) : ∃ t, t < 12 ∧ a = nI t := by
  obtain ⟨h1, h2⟩ := h
  rw [tI_lt] at h1
  rw [tI_le, show (nI 12).toInt = 12 from rfl] at h2
  exact nI_ex (n := 12) (by rw [show (nI 0).toInt = 0 from rfl] at h1; omega) (by omega) (by omega)
theorem isHt_ex {a : Int32} (h : isHt a) : ∃ t, 1 ≤ t ∧ t ≤ 3 ∧ a = nI t := by
  obtain ⟨h1, h2⟩ := h
  rw [tI_lt, show (nI 1).toInt = 1 from rfl] at h1
  rw [tI_lt, show (nI 3).toInt = 3 from rfl] at h2
  obtain ⟨j, hj, e⟩ := nI_ex (x := a) (n := 4) (by omega) (by omega) (by omega)
  rw [e, nI_toInt (by omega)] at h1
  exact ⟨j, by omega, by omega, e⟩
theorem isHr_nI {t : Nat} (h : t < 12) : isHr (nI t) := ⟨nI_p (by omega), nI_ge (b := 12) h (by omega)⟩
theorem isHt_nI {t : Nat} (h : 1 ≤ t) (h3 : t ≤ 3) : isHt (nI t) := ⟨nI_nlt (b := 1) h (by omega), nI_nlt (a := 3) h3 (by omega)⟩
/-! kites and shoals as told -/
abbrev tK (S : St) (k : Nat) : Prop := ¬ S.1 (9 + k) 0 = nI 0
abbrev tS (S : St) (k : Nat) : Prop := ¬ S.1 (15 + k) 0 = nI 0
def isKt (S : St) (a : Int32) : Prop := ∃ k, k < 6 ∧ a = nI k ∧ tK S k
def isSh (S : St) (a : Int32) : Prop := ∃ k, k < 4 ∧ a = nI k ∧ tS S k
theorem f_X4_isToldKite (S : St) (a : Int32) (k : Int32 → Prop) : q_X4_isToldKite S a k ↔ k (bI (isKt S a)) := by
  unfold q_X4_isToldKite
  rcases ixN a (n := 6) (by omega) with h | h | ⟨j, hj, rfl⟩
  · rw [and_if h, bI_f]
    rintro ⟨j, hj, rfl, -⟩
    exact nI_p (by omega) h
  · have h0 : ¬ a < nI 0 := by
      rw [tI_lt]; rw [tI_le, nI_toInt (by omega)] at h
      rw [show (nI 0).toInt = 0 from rfl]; omega
    rw [and_nif h0, and_if (show nI 6 ≤ a from h), bI_f]
    rintro ⟨j, hj, rfl, -⟩
    exact nI_ge (b := 6) hj (by omega) h
  · rw [and_nif (nI_p (by omega)), and_nif (nI_ge (b := 6) hj (by omega)), and_t (vp_in_nI hj (by omega)), nI_clamp (by omega)]
    by_cases ht : tK S j
    · rw [and_nif ht, bI_t ⟨j, hj, rfl, ht⟩]
    · have ht2 : S.1 (9 + j) 0 = nI 0 := Classical.not_not.mp ht
      rw [and_if ht2, bI_f]
      rintro ⟨i, hi, e, h⟩
      rw [nI_eq (by omega) (by omega)] at e
      subst e
      exact ht h
theorem f_X4_isToldShoal (S : St) (a : Int32) (k : Int32 → Prop) : q_X4_isToldShoal S a k ↔ k (bI (isSh S a)) := by
  unfold q_X4_isToldShoal
  rcases ixN a (n := 4) (by omega) with h | h | ⟨j, hj, rfl⟩
  · rw [and_if h, bI_f]
    rintro ⟨j, hj, rfl, -⟩
    exact nI_p (by omega) h
  · have h0 : ¬ a < nI 0 := by
      rw [tI_lt]; rw [tI_le, nI_toInt (by omega)] at h
      rw [show (nI 0).toInt = 0 from rfl]; omega
    rw [and_nif h0, and_if (show nI 4 ≤ a from h), bI_f]
    rintro ⟨j, hj, rfl, -⟩
    exact nI_ge (b := 4) hj (by omega) h
  · rw [and_nif (nI_p (by omega)), and_nif (nI_ge (b := 4) hj (by omega)), and_t (vp_in_nI hj (by omega)), nI_clamp (by omega)]
    by_cases ht : tS S j
    · rw [and_nif ht, bI_t ⟨j, hj, rfl, ht⟩]
    · have ht2 : S.1 (15 + j) 0 = nI 0 := Classical.not_not.mp ht
      rw [and_if ht2, bI_f]
      rintro ⟨i, hi, e, h⟩
      rw [nI_eq (by omega) (by omega)] at e
      subst e
      exact ht h
theorem isKt_nI {S : St} {k : Nat} (hk : k < 6) : isKt S (nI k) ↔ tK S k := by
  constructor
  · rintro ⟨j, hj, e, h⟩
    rw [nI_eq (by omega) (by omega)] at e
    subst e
    exact h
  · exact fun h => ⟨k, hk, rfl, h⟩
theorem isSh_nI {S : St} {k : Nat} (hk : k < 4) : isSh S (nI k) ↔ tS S k := by
  constructor
  · rintro ⟨j, hj, e, h⟩
    rw [nI_eq (by omega) (by omega)] at e
    subst e
    exact h
  · exact fun h => ⟨k, hk, rfl, h⟩
/-- the wind's place -/
def wIx (h t : Nat) : Nat := 12 * (h - 1) + t
theorem f_X4_windAt (w : Nat) (S : St) {h t : Nat} (h1 : 1 ≤ h) (h3 : h ≤ 3) (ht : t < 12) (k : Int32 → Prop) : q_X4_windAt w S (nI h) (nI t) k ↔ k (S.1 w (wIx h t)) := by
  unfold q_X4_windAt
  have e : ((nI h - nI 1) * nI 12) + nI t = nI (wIx h t) := by
    rw [pk_sub h1, pk_mul, nI_add]
    unfold wIx
    rw [Nat.mul_comm]
  have hb : wIx h t < 36 := by unfold wIx; omega
  rw [all_eq, e, and_nif (nI_p (by omega)), and_nif (nI_ge (b := 36) hb (by omega)), and_t (vp_in_nI hb (by omega)), nI_clamp (by omega)]
def kxX (S : St) (k h t : Nat) : Int32 := S.1 (9 + k) 1 + S.1 8 (wIx h t) * S.1 (9 + k) 3 / nI 3
def kyX (S : St) (k h : Nat) : Int32 := S.1 (9 + k) 3 - nI h
theorem f_X4_kiteX {S : St} {k h t : Nat} (hk : k < 6) (h1 : 1 ≤ h) (h3 : h ≤ 3) (ht : t < 12) (hT : tK S k) (P : Int32 → Prop) : q_X4_kiteX S (nI k) (nI h) (nI t) P ↔ P (kxX S k h t) := by
  unfold q_X4_kiteX
  rw [f_X4_isToldKite, bI_t ((isKt_nI hk).mpr hT), and_nif (by decide), and_t (vp_in_nI hk (by omega)), f_X4_windAt 8 S h1 h3 ht, and_t (vp_in_nI hk (by omega)), nI_clamp (by omega)]
  rfl
theorem f_X4_kiteX_n {S : St} {k : Nat} (hk : k < 6) (hT : ¬ tK S k) (a b : Int32) (P : Int32 → Prop) : q_X4_kiteX S (nI k) a b P ↔ P (-1) := by
  unfold q_X4_kiteX
  rw [f_X4_isToldKite, bI_f (fun h => hT ((isKt_nI hk).mp h)), and_if rfl]
theorem f_X4_kiteY {S : St} {k h : Nat} (hk : k < 6) (hT : tK S k) (P : Int32 → Prop) : q_X4_kiteY S (nI k) (nI h) P ↔ P (kyX S k h) := by
  unfold q_X4_kiteY
  rw [f_X4_isToldKite, bI_t ((isKt_nI hk).mpr hT), and_nif (by decide), and_t (vp_in_nI hk (by omega)), nI_clamp (by omega)]
  rfl
theorem f_X4_kiteY_n {S : St} {k : Nat} (hk : k < 6) (hT : ¬ tK S k) (a : Int32) (P : Int32 → Prop) : q_X4_kiteY S (nI k) a P ↔ P (-1) := by
  unfold q_X4_kiteY
  rw [f_X4_isToldKite, bI_f (fun h => hT ((isKt_nI hk).mp h)), and_if rfl]
/-- in the sea, with lift, across: of told kites -/
def inSeaV (x y : Int32) : Prop := inR x (nI 0) (nI 9) ∧ inR y (nI 1) (nI 6)
def seaX (S : St) (k h t : Nat) : Prop := inSeaV (kxX S k h t) (kyX S k h)
def lfX (S : St) (k h t : Nat) : Prop := ¬ S.1 (9 + k) 2 * S.1 7 (wIx h t) < S.1 (9 + k) 4
theorem f_X4_isInSea {S : St} {k h t : Nat} (hk : k < 6) (h1 : 1 ≤ h) (h3 : h ≤ 3) (ht : t < 12) (P : Int32 → Prop) : q_X4_isInSea S (nI k) (nI h) (nI t) P ↔ P (bI (tK S k ∧ seaX S k h t)) := by
  unfold q_X4_isInSea
  by_cases hT : tK S k
  · rw [f_X4_kiteX hk h1 h3 ht hT, f_X4_kiteY hk hT]
    by_cases c1 : kxX S k h t < nI 0
    · rw [and_if c1, bI_f (fun q => q.2.1.1 c1)]
    rw [and_nif c1]
    by_cases c2 : nI 9 < kxX S k h t
    · rw [and_if c2, bI_f (fun q => q.2.1.2 c2)]
    rw [and_nif c2]
    by_cases c3 : kyX S k h < nI 1
    · rw [and_if c3, bI_f (fun q => q.2.2.1 c3)]
    rw [and_nif c3]
    by_cases c4 : nI 6 < kyX S k h
    · rw [and_if c4, bI_f (fun q => q.2.2.2 c4)]
    rw [and_nif c4, bI_t ⟨hT, ⟨c1, c2⟩, c3, c4⟩]
  · rw [f_X4_kiteX_n hk hT, f_X4_kiteY_n hk hT, and_if (by decide), bI_f (fun q => hT q.1)]
theorem f_X4_hasLift {S : St} {k h t : Nat} (hk : k < 6) (h1 : 1 ≤ h) (h3 : h ≤ 3) (ht : t < 12) (P : Int32 → Prop) : q_X4_hasLift S (nI k) (nI h) (nI t) P ↔ P (bI (tK S k ∧ lfX S k h t)) := by
  unfold q_X4_hasLift
  rw [f_X4_isToldKite]
  by_cases hT : tK S k
  · rw [bI_t ((isKt_nI hk).mpr hT), and_nif (by decide), and_t (vp_in_nI hk (by omega)), f_X4_windAt 7 S h1 h3 ht, and_t (vp_in_nI hk (by omega)), nI_clamp (by omega)]
    by_cases c1 : S.1 (9 + k) 2 * S.1 7 (wIx h t) < S.1 (9 + k) 4
    · rw [and_if c1, bI_f (fun q => q.2 c1)]
    · rw [and_nif c1, bI_t ⟨hT, c1⟩]
  · rw [bI_f (fun h => hT ((isKt_nI hk).mp h)), and_if rfl, bI_f (fun q => hT q.1)]
/-- two strings cross -/
def crV (p x : Int32) : Prop := p = nI 0 ∨ (¬ p = nI 0 ∧ ((nI 0 ≤ p ∧ ¬ nI 0 < x) ∨ (¬ nI 0 ≤ p ∧ ¬ x < nI 0)))
theorem f_cr (p x : Int32) (k : Int32 → Prop) : ((p = nI 0 → k (nI 1)) ∧ (¬ p = nI 0 → ((nI 0 ≤ p → ((nI 0 < x → k (nI 0)) ∧ (¬ nI 0 < x → k (nI 1)))) ∧ (¬ nI 0 ≤ p → ((x < nI 0 → k (nI 0)) ∧ (¬ x < nI 0 → k (nI 1))))))) ↔ k (bI (crV p x)) := by
  by_cases h1 : p = nI 0
  · rw [and_if h1, bI_t (show crV p x from Or.inl h1)]
  rw [and_nif h1]
  by_cases h2 : nI 0 ≤ p
  · rw [and_if h2]
    by_cases h3 : nI 0 < x
    · rw [and_if h3, bI_f]
      rintro (h | ⟨-, ⟨-, h⟩ | ⟨h, -⟩⟩)
      · exact h1 h
      · exact h h3
      · exact h h2
    · rw [and_nif h3, bI_t (show crV p x from Or.inr ⟨h1, Or.inl ⟨h2, h3⟩⟩)]
  · rw [and_nif h2]
    by_cases h3 : x < nI 0
    · rw [and_if h3, bI_f]
      rintro (h | ⟨-, ⟨h, -⟩ | ⟨-, h⟩⟩)
      · exact h1 h
      · exact h2 h
      · exact h h3
    · rw [and_nif h3, bI_t (show crV p x from Or.inr ⟨h1, Or.inr ⟨h2, h3⟩⟩)]
def crX (S : St) (a b h t : Nat) : Prop := crV (S.1 (9 + a) 1 - S.1 (9 + b) 1) (kxX S a h t - kxX S b h t)
theorem f_X4_wouldCross {S : St} {a b h t : Nat} (ha : a < 6) (hb : b < 6) (h1 : 1 ≤ h) (h3 : h ≤ 3) (ht : t < 12) (P : Int32 → Prop) : q_X4_wouldCross S (nI a) (nI b) (nI h) (nI t) P ↔ P (bI (tK S a ∧ tK S b ∧ crX S a b h t)) := by
  unfold q_X4_wouldCross
  rw [f_X4_isToldKite]
  by_cases hA : tK S a
  · rw [bI_t ((isKt_nI ha).mpr hA), and_nif (by decide), f_X4_isToldKite]
    by_cases hB : tK S b
    · rw [bI_t ((isKt_nI hb).mpr hB), and_nif (by decide), and_t (vp_in_nI ha (by omega)), and_t (vp_in_nI hb (by omega)), all_eq, f_X4_kiteX ha h1 h3 ht hA, f_X4_kiteX hb h1 h3 ht hB, all_eq, f_cr, nI_clamp (by omega), nI_clamp (by omega)]
      rw [bI_c (show crV (S.1 (9 + a) 1 - S.1 (9 + b) 1) (kxX S a h t - kxX S b h t) ↔ (tK S a ∧ tK S b ∧ crX S a b h t) from ⟨fun h => ⟨hA, hB, h⟩, fun h => h.2.2⟩)]
    · rw [bI_f (fun h => hB ((isKt_nI hb).mp h)), and_if rfl, bI_f (fun q => hB q.2.1)]
  · rw [bI_f (fun h => hA ((isKt_nI ha).mp h)), and_if rfl, bI_f (fun q => hA q.1)]
/-- the first of two gives way -/
def gwV (law sa sb ca cb : Int32) : Prop := (law = nI 0 ∧ ¬ sb ≤ sa) ∨ (law = nI 1 ∧ ¬ ca ≤ cb)
def gwX (S : St) (law : Int32) (a b : Nat) : Prop := gwV law (S.1 (9 + a) 2) (S.1 (9 + b) 2) (S.1 (9 + a) 5) (S.1 (9 + b) 5)
noncomputable def gvX (S : St) (law : Int32) (a b : Nat) : Nat := @ite Nat (gwX S law a b) (Classical.propDecidable _) a b
theorem f_X4_givingWay {S : St} {a b : Nat} (law : Int32) (ha : a < 6) (hb : b < 6) (hA : tK S a) (hB : tK S b) (P : Int32 → Prop) : q_X4_givingWay S (nI a) (nI b) law P ↔ P (nI (gvX S law a b)) := by
  unfold q_X4_givingWay
  rw [f_X4_isToldKite, bI_t ((isKt_nI ha).mpr hA), and_nif (by decide), f_X4_isToldKite, bI_t ((isKt_nI hb).mpr hB), and_nif (by decide), and_t (vp_in_nI ha (by omega)), and_t (vp_in_nI hb (by omega)), nI_clamp (by omega), nI_clamp (by omega)]
  simp only [q_X4_givingWay_44, q_X4_givingWay_72, q_X4_givingWay_83, q_X4_givingWay_93, q_X4_givingWay_97, q_X4_givingWay_98, nI_clamp (show a < 2 ^ 31 by omega), nI_clamp (show b < 2 ^ 31 by omega), and_t (vp_in_nI ha (by omega)), and_t (vp_in_nI hb (by omega))]
  have e0 : ¬ nI 1 = nI 0 := by decide
  have e1 : ¬ nI 0 = nI 1 := by decide
  unfold gvX
  by_cases c1 : S.1 (9 + b) 2 ≤ S.1 (9 + a) 2 <;> by_cases c2 : S.1 (9 + a) 5 ≤ S.1 (9 + b) 5 <;> by_cases c3 : law = nI 0 <;> by_cases c4 : law = nI 1 <;> simp [gwX, gwV, c1, c2, c3, c4, e0, e1]
theorem f_X4_afterGulls (S : St) (a : Int32) (P : Int32 → Prop) : q_X4_afterGulls S a P ↔ P (@ite Int32 (S.1 4 7 ≤ nI 0) (Classical.propDecidable _) a (a - a / S.1 4 7)) := by
  unfold q_X4_afterGulls
  by_cases h : S.1 4 7 ≤ nI 0
  · rw [and_if h, if_pos h]
  · rw [and_nif h, if_neg h, and_t]
    intro h2
    rw [h2] at h
    exact h (by decide)
def sxX (S : St) (s t : Nat) : Int32 := S.1 (15 + s) 1 + nI t * S.1 (15 + s) 3
def syX (S : St) (s t : Nat) : Int32 := S.1 (15 + s) 2 + nI t * S.1 (15 + s) 4
theorem f_X4_shoalX {S : St} {s t : Nat} (hs : s < 4) (hT : tS S s) (P : Int32 → Prop) : q_X4_shoalX S (nI s) (nI t) P ↔ P (sxX S s t) := by
  unfold q_X4_shoalX
  rw [f_X4_isToldShoal, bI_t ((isSh_nI hs).mpr hT), and_nif (by decide), and_t (vp_in_nI hs (by omega)), and_t (vp_in_nI hs (by omega)), nI_clamp (by omega)]
  rfl
theorem f_X4_shoalY {S : St} {s t : Nat} (hs : s < 4) (hT : tS S s) (P : Int32 → Prop) : q_X4_shoalY S (nI s) (nI t) P ↔ P (syX S s t) := by
  unfold q_X4_shoalY
  rw [f_X4_isToldShoal, bI_t ((isSh_nI hs).mpr hT), and_nif (by decide), and_t (vp_in_nI hs (by omega)), and_t (vp_in_nI hs (by omega)), nI_clamp (by omega)]
  rfl
