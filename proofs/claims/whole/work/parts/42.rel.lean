/-! ===== what is known between two calls ===== -/
def DayR (T S : St) (d : Nat) (f : Nat → Int32) : Prop := ∃ t u n, t ≤ 12 ∧ PK T S d t True (nI 0) S u f ∧ S.1 (33 + 7 * d) 1 = nI u ∧ f 44 = nI n ∧ n ≤ 24 * t
def nMorn (T : St) : Nat → Int32 := fun j => if 31 ≤ j ∧ j < 35 then T.1 (15 + (j - 31)) 1 else if 35 ≤ j ∧ j < 39 then T.1 (15 + (j - 35)) 2 else if 39 ≤ j ∧ j < 43 then T.1 (15 + (j - 39)) 5 else nI 0
def hOf (P k : Nat) : Nat := P / 4 ^ (5 - k) % 4
def setA (f : Nat → Int32) (P : Nat) : Nat → Int32 := fun j => if 7 ≤ j ∧ j < 13 then nI (hOf P (j - 7)) else f j
noncomputable def VV (T : St) (law : Int32) (m : Nat) (f : Nat → Int32) (P : Nat) : Int32 := sm6 (nHs T law m (f 0).toNatClampNeg (setA f P)) - sm6 f
def RQ (T : St) (law : Int32) (S : St) (q m : Nat) (f : Nat → Int32) : Prop :=
  S.1 (24 + 3 * q) 0 = nI 0 ∨ (S.1 (24 + 3 * q) 0 = nI 1 ∧ ∃ P, P < 4096 ∧ S.1 (24 + 3 * q) 2 = nI P ∧ S.1 (24 + 3 * q) 1 = VV T law m f P ∧ (∀ Q, Q < 4096 → VV T law m f Q ≤ VV T law m f P) ∧ ∀ Q, Q < P → VV T law m f Q < VV T law m f P)
def RT (SX SM : St) : Prop := (∃ len, len ≤ 200 ∧ SX.1 1 2 = nI len ∧ SM.1 0 9 = nI len) ∧ ∀ i, i < 200 → SX.1 2 i = SM.1 4 i ∧ rg (SX.1 2 i) 0 255
def RK (T SX SM : St) : Prop := ∃ kb, kb < 4 ∧ SX.1 0 7 = nI kb ∧ ∀ k, k < 2 → SM.1 9 k = bI (kb.testBit k = true) ∧ (kb.testBit k = true → DayR T SX (3 + k) (fun j => SM.1 8 (1197 * k + j)))
def RelT (T SX SM : St) : Prop := SeaEq SX T ∧ XR T ∧ RC T ∧ RS T SM ∧ SM.1 0 5 = T.1 4 4 ∧ RT SX SM ∧ DayR T SX 0 (SM.1 6) ∧ DayR T SX 1 (nMorn T) ∧ RK T SX SM ∧ RQ T (T.1 4 4) SX 0 1 (SM.1 6) ∧ RQ T (T.1 4 4) SX 1 12 (nMorn T)
def Rel (SX SM : St) : Prop := ∃ T, RelT T SX SM
section RE
variable {T SX SM : St}
theorem RS_E (E : SeaEq SX T) (R : RS T SM) : RS SX SM := by
  obtain ⟨⟨kb, k1, k2, k3⟩, r2, ⟨sb, s1, s2, s3⟩, r4, r5, -, r7, r8, r9⟩ := R
  refine ⟨⟨kb, k1, k2, fun k hk => ?_⟩, fun k j hk hj => ?_, ⟨sb, s1, s2, fun s hs => ?_⟩, fun s j hs hj => ?_, fun h t h1 h3 ht => ?_, trivial, ?_, ?_, ?_⟩
  · rw [k3 k hk]; unfold tK; rw [E (9 + k) (by omega) (by omega)]
  · rw [r2 k j hk hj, E (9 + k) (by omega) (by omega)]
  · rw [s3 s hs]; unfold tS; rw [E (15 + s) (by omega) (by omega)]
  · rw [r4 s j hs hj, E (15 + s) (by omega) (by omega)]
  · rw [E 7 (by omega) (by omega), E 8 (by omega) (by omega)]; exact r5 h t h1 h3 ht
  · rw [r7, E 4 (by omega) (by omega)]
  · rw [r8, E 4 (by omega) (by omega)]
  · rw [r9, E 4 (by omega) (by omega)]
theorem XR_E (E : SeaEq SX T) (X : XR T) : XR SX := by
  obtain ⟨x1, x2, x3, x4, x5, x6, x7⟩ := X
  refine ⟨fun k hk => ?_, fun s hs => ?_, fun i hi => ?_, ?_, ?_, ?_, ?_⟩
  · unfold tK; rw [E (9 + k) (by omega) (by omega)]; exact x1 k hk
  · unfold tS; rw [E (15 + s) (by omega) (by omega)]; exact x2 s hs
  · rw [E 7 (by omega) (by omega), E 8 (by omega) (by omega)]; exact x3 i hi
  · rw [E 4 (by omega) (by omega)]; exact x4
  · rw [E 4 (by omega) (by omega)]; exact x5
  · rw [E 4 (by omega) (by omega)]; exact x6
  · rw [E 4 (by omega) (by omega)]; exact x7
theorem Rel.rs (h : Rel SX SM) : RS SX SM := by obtain ⟨T, q⟩ := h; exact RS_E q.1 q.2.2.2.1
theorem Rel.xr (h : Rel SX SM) : XR SX := by obtain ⟨T, q⟩ := h; exact XR_E q.1 q.2.1
theorem Rel.law (h : Rel SX SM) : SM.1 0 5 = SX.1 4 4 := by obtain ⟨T, q⟩ := h; rw [q.1 4 (by omega) (by omega)]; exact q.2.2.2.2.1
theorem f_X9_isKt (h : Rel SX SM) (a : Int32) (P : Int32 → Prop) : q_X9_isKite SM a P ↔ P (bI (isKt SX a)) := f_X9_isKite h.rs a P
theorem f_X8_isPlace (S : St) (a1 a2 a3 : Int32) (P : Int32 → Prop) : q_X8_isPlace S a1 a2 a3 P ↔ P (bI (isKt S a1 ∧ isHt a2 ∧ isHr a3)) := by
  unfold q_X8_isPlace
  simp only [f_X4_isToldKite, f_X8_isHeight, f_X8_isHour, bbr]
  by_cases c1 : isKt S a1
  · by_cases c2 : isHt a2
    · by_cases c3 : isHr a3
      · rw [pif_t c1, pif_t c2, pif_t c3, bI_t ⟨c1, c2, c3⟩]
      · rw [pif_t c1, pif_t c2, pif_f c3, bI_f (fun q => c3 q.2.2)]
    · rw [pif_t c1, pif_f c2, bI_f (fun q => c2 q.2.1)]
  · rw [pif_f c1, bI_f (fun q => c1 q.1)]
theorem o_wind : ob_wind Rel := by
  intro SX SM R a1 a2 a3
  unfold q_X8_wind q_X9_wind
  simp only [f_X8_isHeight, f_X8_isHour, f_X9_isHeight, f_X9_isHour, bbr, all_eq]
  by_cases c1 : isHt a1
  · by_cases c2 : isHr a2
    · simp only [pif_t c1, pif_t c2]
      obtain ⟨h, h1, h3, rfl⟩ := isHt_ex c1
      obtain ⟨t, ht, rfl⟩ := isHr_ex c2
      obtain ⟨e1, e2⟩ := R.rs.2.2.2.2.1 h t h1 h3 ht
      by_cases c3 : a3 = nI 0
      · simp only [and_if c3, f_X4_windAt 7 SX h1 h3 ht, m24]
        refine ⟨vp_in_nI (by omega) (by omega), ?_, R⟩
        rw [ncl _ (by omega), e1]
      · by_cases c4 : a3 = nI 1
        · simp only [and_nif c3, and_if c4, f_X4_windAt 8 SX h1 h3 ht, m24, nI_add]
          refine ⟨vp_in_nI (by omega) (by omega), ?_, R⟩
          rw [ncl _ (by omega), e2]
        · simp only [and_nif c3, and_nif c4]
          exact ⟨trivial, R⟩
    · simp only [pif_t c1, pif_f c2]
      exact ⟨trivial, R⟩
  · simp only [pif_f c1]
    exact ⟨trivial, R⟩
theorem o_where : ob_where Rel := by
  intro SX SM R a1 a2 a3
  unfold q_X8_where q_X9_where
  simp only [f_X8_isPlace, f_X9_isKt R, f_X9_isHeight, f_X9_isHour, bbr]
  by_cases c1 : isKt SX a1
  · by_cases c2 : isHt a2
    · by_cases c3 : isHr a3
      · simp only [pif_t (show isKt SX a1 ∧ isHt a2 ∧ isHr a3 from ⟨c1, c2, c3⟩), pif_t c1, pif_t c2, pif_t c3]
        obtain ⟨k, hk, rfl, hT⟩ := c1
        obtain ⟨h, h1, h3, rfl⟩ := isHt_ex c2
        obtain ⟨t, ht, rfl⟩ := isHr_ex c3
        simp only [f_X4_isInSea hk h1 h3 ht, f_X9_isInSea R.rs hk h1 h3 ht, f_X4_kiteX hk h1 h3 ht hT, f_X4_kiteY hk hT, f_X9_xOf R.rs hk h1 h3 ht, f_X9_yOf R.rs hk, bbr]
        by_cases c4 : seaX SX k h t
        · simp only [pif_t (show tK SX k ∧ seaX SX k h t from ⟨hT, c4⟩), pif_t c4]
          exact ⟨trivial, R⟩
        · simp only [pif_f (show ¬ (tK SX k ∧ seaX SX k h t) from fun q => c4 q.2), pif_f c4]
          exact ⟨trivial, R⟩
      · simp only [pif_f (show ¬ (isKt SX a1 ∧ isHt a2 ∧ isHr a3) from fun q => c3 q.2.2), pif_t c1, pif_t c2, pif_f c3]
        exact ⟨trivial, R⟩
    · simp only [pif_f (show ¬ (isKt SX a1 ∧ isHt a2 ∧ isHr a3) from fun q => c2 q.2.1), pif_t c1, pif_f c2]
      exact ⟨trivial, R⟩
  · simp only [pif_f (show ¬ (isKt SX a1 ∧ isHt a2 ∧ isHr a3) from fun q => c1 q.1), pif_f c1]
    exact ⟨trivial, R⟩
theorem o_hinders : ob_hinders Rel := by
  intro SX SM R a1 a2 a3
  unfold q_X8_hinders q_X9_hinders
  simp only [f_X8_isPlace, f_X9_isKt R, f_X9_isHeight, f_X9_isHour, bbr]
  by_cases c1 : isKt SX a1
  · by_cases c2 : isHt a2
    · by_cases c3 : isHr a3
      · simp only [pif_t (show isKt SX a1 ∧ isHt a2 ∧ isHr a3 from ⟨c1, c2, c3⟩), pif_t c1, pif_t c2, pif_t c3]
        obtain ⟨k, hk, rfl, hT⟩ := c1
        obtain ⟨h, h1, h3, rfl⟩ := isHt_ex c2
        obtain ⟨t, ht, rfl⟩ := isHr_ex c3
        simp only [f_X4_isInSea hk h1 h3 ht, f_X9_isInSea R.rs hk h1 h3 ht, f_X4_hasLift hk h1 h3 ht, f_X9_hasLift R.rs hk h1 h3 ht, bbr]
        by_cases c4 : seaX SX k h t
        · by_cases c5 : lfX SX k h t
          · simp only [pif_t (show tK SX k ∧ seaX SX k h t from ⟨hT, c4⟩), pif_t c4, pif_t (show tK SX k ∧ lfX SX k h t from ⟨hT, c5⟩), pif_t c5]
            exact ⟨trivial, R⟩
          · simp only [pif_t (show tK SX k ∧ seaX SX k h t from ⟨hT, c4⟩), pif_t c4, pif_f (show ¬ (tK SX k ∧ lfX SX k h t) from fun q => c5 q.2), pif_f c5]
            exact ⟨trivial, R⟩
        · simp only [pif_f (show ¬ (tK SX k ∧ seaX SX k h t) from fun q => c4 q.2), pif_f c4]
          exact ⟨trivial, R⟩
      · simp only [pif_f (show ¬ (isKt SX a1 ∧ isHt a2 ∧ isHr a3) from fun q => c3 q.2.2), pif_t c1, pif_t c2, pif_f c3]
        exact ⟨trivial, R⟩
    · simp only [pif_f (show ¬ (isKt SX a1 ∧ isHt a2 ∧ isHr a3) from fun q => c2 q.2.1), pif_t c1, pif_f c2]
      exact ⟨trivial, R⟩
  · simp only [pif_f (show ¬ (isKt SX a1 ∧ isHt a2 ∧ isHr a3) from fun q => c1 q.1), pif_f c1]
    exact ⟨trivial, R⟩
end RE
