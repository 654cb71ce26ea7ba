/-! ===== an hour, as a function of the reference's row 'now'; T: the class's state, for what is told ===== -/
theorem bbr {p A B : Prop} : ((bI p = nI 0 → A) ∧ (¬ bI p = nI 0 → B)) ↔ ((¬ p → A) ∧ (p → B)) := by
  rw [bI_0, Classical.not_not]
theorem bbr1 {p A B : Prop} : ((bI p = nI 1 → A) ∧ (¬ bI p = nI 1 → B)) ↔ ((p → A) ∧ (¬ p → B)) := by
  rw [bI_1]
theorem br_1 {A B : Prop} : ((nI 1 = nI 0 → A) ∧ (¬ nI 1 = nI 0 → B)) ↔ B := and_nif (by decide)
theorem br_0 {A B : Prop} : ((nI 0 = nI 0 → A) ∧ (¬ nI 0 = nI 0 → B)) ↔ A := and_if rfl
theorem a0 (x : Int32) : x + nI 0 = x := by rw [show nI 0 = 0 from rfl, Int32.add_zero]
theorem z0 (x : Int32) : nI 0 + x = x := by rw [show nI 0 = 0 from rfl, Int32.zero_add]
theorem pif_t {p A B : Prop} (h : p) : ((¬ p → A) ∧ (p → B)) ↔ B := by simp [h]
theorem pif_f {p A B : Prop} (h : ¬ p) : ((¬ p → A) ∧ (p → B)) ↔ A := by simp [h]
theorem sF6_0 (S : St) (f : Nat → Int32) : (sF S 6 f).1 0 = S.1 0 := sF_ne S 6 f (by omega)
theorem sF6_1 (S : St) (f : Nat → Int32) : (sF S 6 f).1 1 = S.1 1 := sF_ne S 6 f (by omega)
theorem sF6_2 (S : St) (f : Nat → Int32) : (sF S 6 f).1 2 = S.1 2 := sF_ne S 6 f (by omega)
theorem sF6_3 (S : St) (f : Nat → Int32) : (sF S 6 f).1 3 = S.1 3 := sF_ne S 6 f (by omega)
theorem sF6_4 (S : St) (f : Nat → Int32) : (sF S 6 f).1 4 = S.1 4 := sF_ne S 6 f (by omega)
theorem sF6_5 (S : St) (f : Nat → Int32) : (sF S 6 f).1 5 = S.1 5 := sF_ne S 6 f (by omega)
theorem RS_sF {T SM : St} (R : RS T SM) (f : Nat → Int32) : RS T (sF SM 6 f) := by
  unfold RS
  rw [sF_ne SM 6 f (a := 0) (by omega), sF_ne SM 6 f (a := 1) (by omega), sF_ne SM 6 f (a := 2) (by omega), sF_ne SM 6 f (a := 3) (by omega)]
  exact R
def hgt (now : Nat → Int32) (k : Nat) : Nat := (now (7 + k)).toNatClampNeg
def askOK (now : Nat → Int32) : Prop := ∀ k, k < 6 → ∃ h, h ≤ 3 ∧ now (7 + k) = nI h
theorem askOK.eq {now : Nat → Int32} (h : askOK now) {k : Nat} (hk : k < 6) : now (7 + k) = nI (hgt now k) ∧ hgt now k ≤ 3 := by
  obtain ⟨j, hj, e⟩ := h k hk
  unfold hgt
  rw [e, ncl _ (by omega)]
  exact ⟨rfl, hj⟩
def rC (T : St) (now : Nat → Int32) (t k : Nat) : Prop := tK T k ∧ 1 ≤ hgt now k ∧ lfX T k (hgt now k) t ∧ seaX T k (hgt now k) t ∧ (hasB (T.1 4 6) t → now (1 + k) = nI 1)
noncomputable def rStr (T : St) (now : Nat → Int32) (t : Nat) : Nat → Int32
  | 0 => nI 0
  | k + 1 => @ite Int32 (rC T now t k ∧ ¬ T.1 4 5 < rStr T now t k + T.1 (9 + k) 3) (Classical.propDecidable _) (rStr T now t k + T.1 (9 + k) 3) (rStr T now t k)
def rU (T : St) (now : Nat → Int32) (t k : Nat) : Prop := rC T now t k ∧ ¬ T.1 4 5 < rStr T now t k + T.1 (9 + k) 3
noncomputable def upTo (now : Nat → Int32) (u : Nat → Prop) (n : Nat) : Nat → Int32 := fun j => if 1 ≤ j ∧ j ≤ n then bI (u (j - 1)) else now j
theorem upTo_0 (now : Nat → Int32) (u : Nat → Prop) : upTo now u 0 = now := by
  funext j; unfold upTo; rw [if_neg (by omega)]
theorem upTo_s (now : Nat → Int32) (u : Nat → Prop) (k : Nat) : upd (upTo now u k) (1 + k) (bI (u k)) = upTo now u (k + 1) := by
  funext j
  unfold upd upTo
  by_cases h : j = 1 + k
  · rw [if_pos h, if_pos (by omega), h, show 1 + k - 1 = k by omega]
  · rw [if_neg h]
    by_cases h2 : 1 ≤ j ∧ j ≤ k
    · rw [if_pos h2, if_pos (by omega)]
    · rw [if_neg h2, if_neg (by omega)]
theorem upTo_hi (now : Nat → Int32) (u : Nat → Prop) {k j : Nat} (h : k < j) : upTo now u k j = now j := by
  unfold upTo; rw [if_neg (by omega)]
theorem upTo_at (now : Nat → Int32) (u : Nat → Prop) {k j : Nat} (h : j < k) : upTo now u k (1 + j) = bI (u j) := by
  unfold upTo; rw [if_pos (by omega), show 1 + j - 1 = j by omega]
section RI
variable {T SM : St} {now : Nat → Int32} {t : Nat} {K : St → Prop}
theorem M_118 (R : RS T SM) {f : Nat → Int32} {k : Nat} (hk : k < 6) (e : St → Int32 → Int32 → Prop) (x2 : Int32) (p : Prop) :
    q_X9_findUp_118 (nI t) K e (sF SM 6 f) x2 (nI k) (bI p) ↔ e (sF SM 6 (upd f (1 + k) (bI p))) (@ite Int32 p (Classical.propDecidable _) (x2 + T.1 (9 + k) 3) x2) (nI (k + 1)) := by
  unfold q_X9_findUp_118 q_X9_findUp_137 q_X9_findUp_158
  simp (disch := omega) only [nI_add, pk_mul, ncl, vin, sI_sF, all_eq, bbr, sF6_2]
  rw [R.2.1 k 2 hk (by omega)]
  by_cases h : p
  · rw [pif_t h, pif_t h, if_pos h, bI_t h, and_t (by omega), and_t (by omega)]
  · rw [pif_f h, pif_f h, if_neg h, bI_f h, and_t (by omega), a0]
theorem M_94 (R : RS T SM) {f : Nat → Int32} {k : Nat} (hk : k < 6) (e : St → Int32 → Int32 → Prop) (x2 : Int32) (p : Prop) (hp : p ↔ ¬ T.1 4 5 < x2 + T.1 (9 + k) 3) :
    q_X9_findUp_94 (nI t) K e (sF SM 6 f) x2 (nI k) ↔ e (sF SM 6 (upd f (1 + k) (bI p))) (@ite Int32 p (Classical.propDecidable _) (x2 + T.1 (9 + k) 3) x2) (nI (k + 1)) := by
  rw [← M_118 (t := t) (K := K) R hk e x2]
  unfold q_X9_findUp_94 q_X9_findUp_117
  simp (disch := omega) only [nI_add, pk_mul, ncl, vin, sF6_2, sF6_0]
  rw [R.2.1 k 2 hk (by omega), R.2.2.2.2.2.2.1, and_t (by omega)]
  by_cases c : T.1 4 5 < x2 + T.1 (9 + k) (2 + 1)
  · rw [and_if c, bI_f (fun h => hp.mp h c)]
  · rw [and_nif c, bI_t (hp.mpr c)]
theorem M_117 (R : RS T SM) {f : Nat → Int32} {k : Nat} (hk : k < 6) (e : St → Int32 → Int32 → Prop) (x2 : Int32) (p : Prop) (hp : ¬ p) :
    q_X9_findUp_117 (nI t) K e (sF SM 6 f) x2 (nI k) ↔ e (sF SM 6 (upd f (1 + k) (bI p))) (@ite Int32 p (Classical.propDecidable _) (x2 + T.1 (9 + k) 3) x2) (nI (k + 1)) := by
  rw [← M_118 (t := t) (K := K) R hk e x2, bI_f hp]
  rfl
theorem M_64 (R : RS T SM) {f : Nat → Int32} {k : Nat} (hk : k < 6) (ht : t < 12) (e : St → Int32 → Int32 → Prop) (x2 : Int32) (p q : Prop) (hf : f (1 + k) = now (1 + k)) (hq : q ↔ (p ∧ (hasB (T.1 4 6) t → now (1 + k) = nI 1)) ∧ ¬ T.1 4 5 < x2 + T.1 (9 + k) 3) :
    q_X9_findUp_64 (nI t) K e (sF SM 6 f) x2 (nI k) (bI p) ↔ e (sF SM 6 (upd f (1 + k) (bI q))) (@ite Int32 q (Classical.propDecidable _) (x2 + T.1 (9 + k) 3) x2) (nI (k + 1)) := by
  unfold q_X9_findUp_64
  simp (disch := omega) only [bbr, f_X9_has, nI_add, vin, ncl, sF_self, sF6_0, hf, R.2.2.2.2.2.2.2.1]
  by_cases hp : p
  · rw [pif_t hp]
    by_cases hg : hasB (T.1 4 6) t
    · rw [pif_t hg, and_t (by omega)]
      by_cases hn : now (1 + k) = nI 1
      · rw [and_if hn]
        exact M_94 R hk e x2 q (hq.trans ⟨fun h => h.2, fun h => ⟨⟨hp, fun _ => hn⟩, h⟩⟩)
      · rw [and_nif hn]
        exact M_117 R hk e x2 q (fun h => hn ((hq.mp h).1.2 hg))
    · rw [pif_f hg]
      exact M_94 R hk e x2 q (hq.trans ⟨fun h => h.2, fun h => ⟨⟨hp, fun h2 => absurd h2 hg⟩, h⟩⟩)
  · rw [pif_f hp]
    exact M_117 R hk e x2 q (fun h => hp (hq.mp h).1.1)
/-- the reference's first loop: who is up ahead of tangles -/
theorem M_rise (R : RS T SM) (ha : askOK now) (ht : t < 12) (hK : ∃ f, q_X9_findUp_168 (nI t) K f (sF SM 6 (upTo now (rU T now t) 6)) (nI 0)) :
    ∀ m k, k + m = 6 → q_X9_findUp_4 (nI t) K (m + 1) (sF SM 6 (upTo now (rU T now t) k)) (rStr T now t k) (nI k) := by
  intro m
  induction m with
  | zero =>
    intro k hk
    rw [q_X9_findUp_4_s, show k = 6 by omega, and_if (by decide)]
    exact hK
  | succ m ih =>
    intro k hk
    have hk6 : k < 6 := by omega
    rw [q_X9_findUp_4_s, and_nif (nI_ge hk6 (by omega))]
    obtain ⟨e7, h3⟩ := ha.eq hk6
    have R' := RS_sF R (upTo now (rU T now t) k)
    have step : ∀ p : Prop, (p ↔ tK T k ∧ 1 ≤ hgt now k ∧ lfX T k (hgt now k) t ∧ seaX T k (hgt now k) t) → q_X9_findUp_64 (nI t) K (q_X9_findUp_4 (nI t) K (m + 1)) (sF SM 6 (upTo now (rU T now t) k)) (rStr T now t k) (nI k) (bI p) := by
      intro p hp
      rw [M_64 (now := now) R hk6 ht _ _ p (rU T now t k) (upTo_hi _ _ (by omega)) (by
        unfold rU rC
        constructor
        · rintro ⟨⟨a, b, c, d, e⟩, f⟩
          exact ⟨⟨hp.mpr ⟨a, b, c, d⟩, e⟩, f⟩
        · rintro ⟨⟨a, e⟩, f⟩
          obtain ⟨a, b, c, d⟩ := hp.mp a
          exact ⟨⟨a, b, c, d, e⟩, f⟩), upTo_s]
      exact ih (k + 1) (by omega)
    have s63 : ¬ (tK T k ∧ 1 ≤ hgt now k ∧ lfX T k (hgt now k) t ∧ seaX T k (hgt now k) t) → q_X9_findUp_63 (nI t) K (q_X9_findUp_4 (nI t) K (m + 1)) (sF SM 6 (upTo now (rU T now t) k)) (rStr T now t k) (nI k) := by
      intro hn
      have := step False ⟨fun h => h.elim, hn⟩
      rw [bI_f not_false] at this
      exact this
    simp (disch := omega) only [nI_add, vin, ncl, sF_self, all_eq, upTo_hi, e7, f_X9_has, bbr, sF6_0]
    rw [and_t (by omega)]
    refine ⟨fun h1 => s63 (fun q => h1 ((R.kite hk6).mpr q.1)), fun h1 => ?_⟩
    have h1 := (R.kite hk6).mp h1
    rw [nle _ _ (by omega) (by omega)]
    refine ⟨fun h2 => s63 (fun q => absurd q.2.1 (by omega)), fun h2 => ?_⟩
    have h2 : 1 ≤ hgt now k := by omega
    rw [f_X9_hasLift R' hk6 h2 h3 ht, bbr]
    refine ⟨fun h4 => s63 (fun q => h4 q.2.2.1), fun h4 => ?_⟩
    rw [f_X9_isInSea R' hk6 h2 h3 ht, bbr]
    refine ⟨fun h5 => s63 (fun q => h5 q.2.2.2), fun h5 => ?_⟩
    have := step True ⟨fun _ => ⟨h1, h2, h4, h5⟩, fun _ => trivial⟩
    rw [bI_t trivial] at this
    exact this
end RI
