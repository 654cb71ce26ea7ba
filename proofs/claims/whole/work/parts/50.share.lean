/-! ===== share ===== -/
noncomputable def shT (S : St) : Nat → Int32
  | 0 => nI 0
  | k + 1 => shT S k + @ite Int32 (tK S k) (Classical.propDecidable _) (S.1 (9 + k) 3) (nI 0)
theorem shT_rg {S : St} (X : XR S) : ∀ k, k ≤ 6 → 0 ≤ (shT S k).toInt ∧ (shT S k).toInt ≤ 9 * k ∧ ∀ j, j < k → tK S j → 1 ≤ (shT S k).toInt := by
  intro k
  induction k with
  | zero =>
    intro _
    have e : (shT S 0).toInt = 0 := nI_toInt (n := 0) (by omega)
    refine ⟨by omega, by omega, fun j hj => by omega⟩
  | succ k ih =>
    intro hk
    obtain ⟨a, b, c⟩ := ih (by omega)
    obtain ⟨-, -, ⟨g1, g2⟩, -, -, g3⟩ := X.1 k (by omega)
    have e : shT S (k + 1) = shT S k + @ite Int32 (tK S k) (Classical.propDecidable _) (S.1 (9 + k) 3) (nI 0) := rfl
    by_cases t : tK S k
    · rw [e, if_pos t, tI_add (by omega) (by omega)]
      have := g3 t
      exact ⟨by omega, by omega, fun j hj _ => by omega⟩
    · rw [e, if_neg t, a0]
      refine ⟨a, by omega, fun j hj tj => ?_⟩
      by_cases q : j = k
      · subst q; exact absurd tj t
      · exact c j (by omega) tj
def flV (S : St) (n x : Int32) (k : Nat) : Int32 := n * S.1 (9 + k) 3 / x
def rsV (S : St) (n x : Int32) (k : Nat) : Int32 := n * S.1 (9 + k) 3 - n * S.1 (9 + k) 3 / x * x
noncomputable def flS (S : St) (n x : Int32) : Nat → Int32
  | 0 => nI 0
  | k + 1 => @ite Int32 (tK S k) (Classical.propDecidable _) (flS S n x k + flV S n x k) (flS S n x k)
def ahP (S : St) (n x r a2 : Int32) (k : Nat) : Prop := r < rsV S n x k ∨ (rsV S n x k = r ∧ ¬ a2 ≤ nI k)
noncomputable def ahS (S : St) (n x r a2 : Int32) : Nat → Int32
  | 0 => nI 0
  | k + 1 => @ite Int32 (tK S k) (Classical.propDecidable _) (ahS S n x r a2 k + bI (ahP S n x r a2 k)) (ahS S n x r a2 k)
theorem ah_br {S : St} {n x r a2 : Int32} {k : Nat} {A : Int32 → Prop} (h : A (bI (ahP S n x r a2 k))) :
    (r < rsV S n x k → A (nI 1)) ∧ (¬ r < rsV S n x k → ((rsV S n x k = r → ((a2 ≤ nI k → A (nI 0)) ∧ (¬ a2 ≤ nI k → A (nI 1)))) ∧ (¬ rsV S n x k = r → A (nI 0)))) := by
  refine ⟨fun c => ?_, fun c => ⟨fun c2 => ⟨fun c3 => ?_, fun c3 => ?_⟩, fun c2 => ?_⟩⟩
  · rw [bI_t (show ahP S n x r a2 k from Or.inl c)] at h; exact h
  · rw [bI_f (fun q => q.elim c (fun q => q.2 c3))] at h; exact h
  · rw [bI_t (show ahP S n x r a2 k from Or.inr ⟨c2, c3⟩)] at h; exact h
  · rw [bI_f (fun q => q.elim c (fun q => c2 q.1))] at h; exact h
section SH
variable {SX SM : St} {n x r a2 : Int32} {P : Int32 → Prop}
theorem X_sh5 {a : Nat} (ha : a < 6) (hT : tK SX a) (X : XR SX) (hK : ∃ f, q_X4_shareOf_82 n (nI a) SX P f (shT SX 6) (rsV SX n (shT SX 6) a) n (nI 0) (nI 0)) :
    ∀ m k, k + m = 6 → q_X4_shareOf_5 n (nI a) SX P (m + 1) (shT SX k) (nI k) := by
  intro m
  induction m with
  | zero =>
    intro k hk
    have hp := (shT_rg X 6 (by omega)).2.2 a ha hT
    have h1 : ¬ shT SX 6 ≤ nI 0 := by rw [tI_le, nI_toInt (by omega)]; omega
    have h2 : ¬ shT SX 6 = nI 0 := by rw [tI_eq, nI_toInt (by omega)]; omega
    rw [q_X4_shareOf_5_s, show k = 6 by omega, and_if (by decide), and_nif h1, f_X4_isToldKite, bbr, pif_t ((isKt_nI ha).mpr hT), all_eq, ncl _ (by omega)]
    exact ⟨vp_in_nI ha (by omega), h2, hK⟩
  | succ m ih =>
    intro k hk
    have h := ih (k + 1) (by omega)
    have e : shT SX (k + 1) = shT SX k + @ite Int32 (tK SX k) (Classical.propDecidable _) (SX.1 (9 + k) 3) (nI 0) := rfl
    rw [q_X4_shareOf_5_s, and_nif (nI_ge (show k < 6 by omega) (by omega)), f_X4_isToldKite, bbr, isKt_nI (by omega)]
    unfold q_X4_shareOf_36
    simp (disch := omega) only [all_eq, nI_add, ncl, vin]
    refine ⟨fun c => ?_, fun c => ⟨by omega, ?_⟩⟩
    · rw [e, if_neg c] at h; exact h
    · rw [e, if_pos c] at h; exact h
theorem X_sh82 {a : Nat} (ha : a < 6) (hx : ¬ x = nI 0) (hK : (n - flS SX n x 6 ≤ ahS SX n x r (nI a) 6 → P (flV SX n x a)) ∧ (¬ n - flS SX n x 6 ≤ ahS SX n x r (nI a) 6 → P (flV SX n x a + nI 1))) :
    ∀ m k, k + m = 6 → q_X4_shareOf_82 n (nI a) SX P (m + 1) x r (n - flS SX n x k) (ahS SX n x r (nI a) k) (nI k) := by
  intro m
  induction m with
  | zero =>
    intro k hk
    rw [q_X4_shareOf_82_s, show k = 6 by omega, and_if (by decide), ncl _ (by omega), a0]
    exact ⟨vp_in_nI ha (by omega), hx, hK⟩
  | succ m ih =>
    intro k hk
    have h := ih (k + 1) (by omega)
    have e1 : flS SX n x (k + 1) = @ite Int32 (tK SX k) (Classical.propDecidable _) (flS SX n x k + flV SX n x k) (flS SX n x k) := rfl
    have e2 : ahS SX n x r (nI a) (k + 1) = @ite Int32 (tK SX k) (Classical.propDecidable _) (ahS SX n x r (nI a) k + bI (ahP SX n x r (nI a) k)) (ahS SX n x r (nI a) k) := rfl
    rw [q_X4_shareOf_82_s, and_nif (nI_ge (show k < 6 by omega) (by omega)), f_X4_isToldKite, bbr, isKt_nI (by omega)]
    refine ⟨fun c => ?_, fun c => ?_⟩
    · unfold q_X4_shareOf_163
      rw [all_eq, nI_add]
      rw [e1, e2, if_neg c, if_neg c] at h
      exact h
    · rw [e1, e2, if_pos c, if_pos c, sub_add1] at h
      rw [ncl _ (by omega), all_eq, all_eq]
      refine ⟨vp_in_nI (by omega) (by omega), hx, vp_in_nI (by omega) (by omega), hx, ?_⟩
      refine ah_br (S := SX) (n := n) (x := x) (r := r) (a2 := nI a) (k := k) (A := fun v => q_X4_shareOf_160 n (nI a) SX P (q_X4_shareOf_82 n (nI a) SX P (m + 1)) x r (n - flS SX n x k - flV SX n x k) (nI k) v (ahS SX n x r (nI a) k)) ?_
      unfold q_X4_shareOf_160 q_X4_shareOf_163
      rw [all_eq, all_eq, nI_add]
      exact h
theorem M_sh33 {a : Nat} (R : RS SX SM) (ha : a < 6) (hT : tK SX a) (X : XR SX) (hK : ∃ f, q_X9_share_114 n (nI a) SM P f (shT SX 6) (nI 0) (flV SX n (shT SX 6) a) (rsV SX n (shT SX 6) a) (nI 0) (nI 0)) :
    ∀ m k, k + m = 6 → q_X9_share_33 n (nI a) SM P (m + 1) (shT SX k) (nI 0) (nI k) := by
  have er : ∀ j, j < 6 → SM.1 2 (5 * j + 2) = SX.1 (9 + j) 3 := fun j hj => R.2.1 j 2 hj (by omega)
  intro m
  induction m with
  | zero =>
    intro k hk
    have hp := (shT_rg X 6 (by omega)).2.2 a ha hT
    have h2 : ¬ shT SX 6 = nI 0 := by rw [tI_eq, nI_toInt (by omega)]; omega
    rw [q_X9_share_33_s, show k = 6 by omega, and_if (by decide)]
    simp (disch := omega) only [all_eq, pk_mul, nI_add, ncl, vin, er a ha]
    exact ⟨by omega, h2, by omega, h2, hK⟩
  | succ m ih =>
    intro k hk
    have h := ih (k + 1) (by omega)
    have e : shT SX (k + 1) = shT SX k + @ite Int32 (tK SX k) (Classical.propDecidable _) (SX.1 (9 + k) 3) (nI 0) := rfl
    rw [q_X9_share_33_s, and_nif (nI_ge (show k < 6 by omega) (by omega)), f_X9_has, bbr, R.kite (by omega)]
    unfold q_X9_share_68
    simp (disch := omega) only [all_eq, pk_mul, nI_add, ncl, vin, er k (show k < 6 by omega)]
    refine ⟨fun c => ?_, fun c => ⟨by omega, ?_⟩⟩
    · rw [e, if_neg c] at h; exact h
    · rw [e, if_pos c] at h; exact h
theorem M_sh114 {a : Nat} (R : RS SX SM) (ha : a < 6) (hx : ¬ x = nI 0) (hK : (n - flS SX n x 6 ≤ ahS SX n x r (nI a) 6 → P (flV SX n x a)) ∧ (¬ n - flS SX n x 6 ≤ ahS SX n x r (nI a) 6 → P (flV SX n x a + nI 1))) :
    ∀ m k, k + m = 6 → q_X9_share_114 n (nI a) SM P (m + 1) x (flS SX n x k) (flV SX n x a) r (ahS SX n x r (nI a) k) (nI k) := by
  have er : ∀ j, j < 6 → SM.1 2 (5 * j + 2) = SX.1 (9 + j) 3 := fun j hj => R.2.1 j 2 hj (by omega)
  intro m
  induction m with
  | zero =>
    intro k hk
    rw [q_X9_share_114_s, show k = 6 by omega, and_if (by decide)]
    exact hK
  | succ m ih =>
    intro k hk
    have h := ih (k + 1) (by omega)
    have e1 : flS SX n x (k + 1) = @ite Int32 (tK SX k) (Classical.propDecidable _) (flS SX n x k + flV SX n x k) (flS SX n x k) := rfl
    have e2 : ahS SX n x r (nI a) (k + 1) = @ite Int32 (tK SX k) (Classical.propDecidable _) (ahS SX n x r (nI a) k + bI (ahP SX n x r (nI a) k)) (ahS SX n x r (nI a) k) := rfl
    rw [q_X9_share_114_s, and_nif (nI_ge (show k < 6 by omega) (by omega)), f_X9_has, bbr, R.kite (by omega)]
    refine ⟨fun c => ?_, fun c => ?_⟩
    · unfold q_X9_share_200
      rw [all_eq, nI_add]
      rw [e1, e2, if_neg c, if_neg c] at h
      exact h
    · rw [e1, e2, if_pos c, if_pos c] at h
      simp (disch := omega) only [all_eq, pk_mul, nI_add, ncl, vin, er k (show k < 6 by omega)]
      refine ⟨by omega, hx, by omega, hx, ?_⟩
      refine ah_br (S := SX) (n := n) (x := x) (r := r) (a2 := nI a) (k := k) (A := fun v => q_X9_share_197 n (nI a) SM P (q_X9_share_114 n (nI a) SM P (m + 1)) x (flS SX n x k + flV SX n x k) (flV SX n x a) r (nI k) v (ahS SX n x r (nI a) k)) ?_
      unfold q_X9_share_197 q_X9_share_200
      rw [all_eq, all_eq, nI_add]
      exact h
theorem o_share : ob_share Rel := by
  intro SX SM R a1 a2
  unfold q_X8_share q_X9_share
  simp only [f_X4_isToldKite, f_X9_isKt R, f_X9_in, bbr]
  by_cases c1 : isKt SX a2
  · simp only [pif_t c1]
    obtain ⟨a, ha, rfl, hT⟩ := c1
    by_cases c2 : inR a1 (nI 0) (nI 999)
    · simp only [pif_t c2]
      have c3 : a1 ≤ nI 999 := by
        obtain ⟨j, hj, rfl⟩ := inR_ex (by omega) c2
        rw [nle _ _ (by omega) (by omega)]; omega
      simp only [and_nif c2.1, and_if c3]
      have hp := (shT_rg R.xr 6 (by omega)).2.2 a ha hT
      have hx : ¬ shT SX 6 = nI 0 := by rw [tI_eq, nI_toInt (by omega)]; omega
      refine ⟨7, X_sh5 ha hT R.xr ⟨7, ?_⟩ 6 0 (by omega)⟩
      have h := X_sh82 (SX := SX) (n := a1) (x := shT SX 6) (r := rsV SX a1 (shT SX 6) a) (P := fun v => ∃ f, q_X9_share_33 a1 (nI a) SM (fun r' => v = r' ∧ Rel SX SM) f (nI 0) (nI 0) (nI 0)) ha hx ?_ 6 0 (by omega)
      · have e1 : flS SX a1 (shT SX 6) 0 = nI 0 := rfl
        rw [e1, s0] at h
        exact h
      · refine ⟨fun c => ⟨7, M_sh33 R.rs ha hT R.xr ⟨7, M_sh114 R.rs ha hx ⟨fun _ => ⟨rfl, R⟩, fun q => absurd c q⟩ 6 0 (by omega)⟩ 6 0 (by omega)⟩, fun c => ⟨7, M_sh33 R.rs ha hT R.xr ⟨7, M_sh114 R.rs ha hx ⟨fun q => absurd q c, fun _ => ⟨rfl, R⟩⟩ 6 0 (by omega)⟩ 6 0 (by omega)⟩⟩
    · simp only [pif_f c2]
      refine ⟨fun _ => ⟨trivial, R⟩, fun q1 => ⟨fun q2 => ?_, fun _ => ⟨trivial, R⟩⟩⟩
      exact absurd ⟨q1, by rw [tI_lt, nI_toInt (by omega)]; rw [tI_le, nI_toInt (by omega)] at q2; omega⟩ c2
  · simp only [pif_f c1]
    exact ⟨trivial, R⟩
end SH
