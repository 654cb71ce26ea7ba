/-! ===== the class's hour: its chart, who rises ===== -/
def frP (T : St) (k h t : Nat) : Prop := 1 ≤ h ∧ tK T k ∧ seaX T k h t ∧ lfX T k h t
def cIx (k h t : Nat) : Nat := (4 * k + h) * 12 + t
def RC (T : St) : Prop := ∀ k h, k < 6 → h ≤ 3 →
  (∃ m, m < 4096 ∧ T.1 20 (4 * k + h) = nI m ∧ ∀ t, t < 12 → (m.testBit t = true ↔ frP T k h t)) ∧
  ∀ t, t < 12 → (∃ m, m < 16 ∧ T.1 21 (cIx k h t) = nI m ∧ ∀ s, s < 4 → (m.testBit s = true ↔ frP T k h t ∧ tS T s ∧ sxX T s t = kxX T k h t ∧ syX T s t = kyX T k h)) ∧
    (∃ m, m < 64 ∧ T.1 22 (cIx k h t) = nI m ∧ ∀ b, b < 6 → (m.testBit b = true ↔ frP T k h t ∧ k < b ∧ tK T b ∧ crX T k b h t))
def SeaEq (S T : St) : Prop := ∀ c, 4 ≤ c → c < 23 → S.1 c = T.1 c
theorem cIx_lt {k h t : Nat} (hk : k < 6) (hh : h ≤ 3) (ht : t < 12) : cIx k h t < 288 := by unfold cIx; omega
theorem cIx_e {k h t : Nat} : ((nI k * nI 4 + nI h) * nI 12) + nI t = nI (cIx k h t) := by
  rw [pk_mul, nI_add, pk_mul, nI_add]; unfold cIx; rw [Nat.mul_comm k 4]
section CH
variable {S T : St}
theorem SeaEq.sI {c k : Nat} {v : Int32} (h : SeaEq S T) (hc : 23 ≤ c) : SeaEq (sI S c k v) T := fun j h1 h2 => by rw [sI_ne _ _ _ _ (by omega)]; exact h j h1 h2
theorem f_X0_isFree (E : SeaEq S T) (C : RC T) {k h t : Nat} (hk : k < 6) (hh : h ≤ 3) (ht : t < 12) (P : Int32 → Prop) : q_X0_isFree S (nI k) (nI h) (nI t) P ↔ P (bI (frP T k h t)) := by
  obtain ⟨⟨m, hm, e, hb⟩, -⟩ := C k h hk hh
  unfold q_X0_isFree
  simp (disch := omega) only [pk_mul, nI_add, all_eq, nlt, nle, vin, ncl, f_X8_isIn, bbr]
  rw [and_nif (by omega), and_nif (by omega), and_t (by omega), E 20 (by omega) (by omega), show k * 4 + h = 4 * k + h by omega, e]
  have hb := (hasB_nI (n := m) (k := t) (by omega) (by omega)).trans (hb t ht)
  by_cases c : frP T k h t
  · rw [pif_t (hb.mpr c), bI_t c]
  · rw [pif_f (fun q => c (hb.mp q)), bI_f c]
theorem f_X0_met (E : SeaEq S T) {k h t : Nat} (hk : k < 6) (hh : h ≤ 3) (ht : t < 12) (P : Int32 → Prop) : q_X0_met S (nI k) (nI h) (nI t) P ↔ P (T.1 21 (cIx k h t)) := by
  have := cIx_lt hk hh ht
  unfold q_X0_met
  rw [all_eq, cIx_e]
  simp (disch := omega) only [nlt, nle, vin, ncl]
  rw [and_nif (by omega), and_nif (by omega), and_t (by omega), E 21 (by omega) (by omega)]
theorem f_X0_crossed (E : SeaEq S T) {k h t : Nat} (hk : k < 6) (hh : h ≤ 3) (ht : t < 12) (P : Int32 → Prop) : q_X0_crossed S (nI k) (nI h) (nI t) P ↔ P (T.1 22 (cIx k h t)) := by
  have := cIx_lt hk hh ht
  unfold q_X0_crossed
  rw [all_eq, cIx_e]
  simp (disch := omega) only [nlt, nle, vin, ncl]
  rw [and_nif (by omega), and_nif (by omega), and_t (by omega), E 22 (by omega) (by omega)]
theorem f_X4_isFoggy {t : Nat} (P : Int32 → Prop) : q_X4_isFoggy S (nI t) P ↔ P (bI (hasB (S.1 4 6) t)) := by
  unfold q_X4_isFoggy; rw [f_X8_isIn]
end CH
/-- what of a day the hours to come depend on -/
def CD (T S : St) (d t ub : Nat) (now : Nat → Int32) : Prop :=
  SeaEq S T ∧ S.1 (33 + 7 * d) 0 = nI t ∧ now 0 = nI t ∧ ub < 64 ∧ (∀ k, k < 6 → now (1 + k) = bI (ub.testBit k = true)) ∧ askOK now ∧
  (∀ k, k < 6 → S.1 (33 + 7 * d + 1) k = now (7 + k)) ∧ (∀ s, s < 4 → S.1 (33 + 7 * d + 5) s = now (39 + s) ∧ rg (now (39 + s)) 0 99) ∧
  (∀ s, s < 4 → now (31 + s) = sxX T s t ∧ now (35 + s) = syX T s t) ∧ ∃ n, n ≤ 288 ∧ S.1 (33 + 7 * d) 4 = nI n
noncomputable def rB (u : Nat → Prop) : Nat → Nat
  | 0 => 0
  | k + 1 => @ite Nat (u k) (Classical.propDecidable _) (rB u k ||| 2 ^ k) (rB u k)
theorem rB_lt (u : Nat → Prop) : ∀ k, rB u k < 2 ^ k := by
  intro k
  induction k with
  | zero => show 0 < 1; omega
  | succ k ih =>
    show @ite Nat (u k) (Classical.propDecidable _) (rB u k ||| 2 ^ k) (rB u k) < 2 ^ (k + 1)
    by_cases h : u k
    · rw [if_pos h]
      exact Nat.or_lt_two_pow (by rw [Nat.pow_succ]; omega) (Nat.pow_lt_pow_right (by omega) (by omega))
    · rw [if_neg h, Nat.pow_succ]; omega
theorem rB_bit (u : Nat → Prop) : ∀ k j, (rB u k).testBit j = true ↔ j < k ∧ u j := by
  intro k
  induction k with
  | zero => intro j; show (0 : Nat).testBit j = true ↔ _; simp
  | succ k ih =>
    intro j
    show (@ite Nat (u k) (Classical.propDecidable _) (rB u k ||| 2 ^ k) (rB u k)).testBit j = true ↔ _
    by_cases h : u k
    · rw [if_pos h, Nat.testBit_or, Bool.or_eq_true, ih j, Nat.testBit_two_pow, decide_eq_true_eq]
      constructor
      · rintro (⟨a, b⟩ | a)
        · exact ⟨by omega, b⟩
        · subst a; exact ⟨by omega, h⟩
      · rintro ⟨a, b⟩
        by_cases e : k = j
        · exact Or.inr e
        · exact Or.inl ⟨by omega, b⟩
    · rw [if_neg h, ih j]
      constructor
      · rintro ⟨a, b⟩; exact ⟨by omega, b⟩
      · rintro ⟨a, b⟩
        refine ⟨?_, b⟩
        by_cases e : j = k
        · subst e; exact absurd b h
        · omega
section RX
variable {T S : St} {d t ub : Nat} {now : Nat → Int32} {K : Int32 → Prop}
theorem X_risenL (D : CD T S d t ub now) (hup : S.1 (33 + 7 * d) 1 = nI ub) (C : RC T) (ht : t < 12) (hK : K (nI (rB (rU T now t) 6))) : ∀ m k, k + m = 6 → q_X1_risen_18 d S K (m + 1) (bI (hasB (T.1 4 6) t)) (nI (rB (rU T now t) k)) (rStr T now t k) (nI k) := by
  obtain ⟨E, e0, n0, hub, hu, ha, hask, hleft, hpos, -⟩ := D
  intro m
  induction m with
  | zero =>
    intro k hk
    rw [q_X1_risen_18_s, show k = 6 by omega, and_if (by decide)]
    exact hK
  | succ m ih =>
    intro k hk
    have hk6 : k < 6 := by omega
    obtain ⟨e7, h3⟩ := ha.eq hk6
    rw [q_X1_risen_18_s, and_nif (nI_ge hk6 (by omega)), and_t (vp_in_nI hk6 (by omega)), ncl _ (by omega), hask k hk6, e7, e0, f_X0_isFree E C hk6 h3 ht, bbr]
    have nx : ∀ x y, x = nI (rB (rU T now t) (k + 1)) → y = rStr T now t (k + 1) → q_X1_risen_101 d S K (q_X1_risen_18 d S K (m + 1)) (bI (hasB (T.1 4 6) t)) x y (nI k) := by
      intro x y ex ey
      unfold q_X1_risen_101
      rw [all_eq, nI_add, ex, ey]
      exact ih (k + 1) (by omega)
    have no : ¬ rU T now t k → q_X1_risen_101 d S K (q_X1_risen_18 d S K (m + 1)) (bI (hasB (T.1 4 6) t)) (nI (rB (rU T now t) k)) (rStr T now t k) (nI k) := by
      intro h
      refine nx _ _ ?_ ?_
      · show _ = nI (@ite Nat (rU T now t k) (Classical.propDecidable _) _ _); rw [if_neg h]
      · show _ = @ite Int32 (rU T now t k) (Classical.propDecidable _) _ _; rw [if_neg h]
    have h64 : rC T now t k → q_X1_risen_64 d S K (q_X1_risen_18 d S K (m + 1)) (bI (hasB (T.1 4 6) t)) (nI (rB (rU T now t) k)) (rStr T now t k) (nI k) := by
      intro hc
      unfold q_X1_risen_64
      rw [and_t (vp_in_nI hk6 (by omega)), ncl _ (by omega), all_eq, E (9 + k) (by omega) (by omega), E 4 (by omega) (by omega)]
      refine ⟨fun c => no (fun q => q.2 c), fun c => ?_⟩
      have hr : rU T now t k := ⟨hc, c⟩
      rw [all_eq, shl1 k (by omega), nI_or]
      refine nx _ _ ?_ ?_
      · show _ = nI (@ite Nat (rU T now t k) (Classical.propDecidable _) _ _); rw [if_pos hr]
      · show _ = @ite Int32 (rU T now t k) (Classical.propDecidable _) _ _; rw [if_pos hr]
    refine ⟨fun c => no (fun q => c ⟨q.1.2.1, q.1.1, q.1.2.2.2.1, q.1.2.2.1⟩), fun c => ?_⟩
    rw [bbr]
    refine ⟨fun c2 => h64 ⟨c.2.1, c.1, c.2.2.2, c.2.2.1, fun h => absurd h c2⟩, fun c2 => ?_⟩
    rw [hup, f_X8_isIn, bbr, hasB_nI (by omega) (by omega)]
    have hu1 : ub.testBit k = true ↔ now (1 + k) = nI 1 := by rw [hu k hk6, bI_1]
    exact ⟨fun c3 => no (fun q => c3 (hu1.mpr (q.1.2.2.2.2 c2))), fun c3 => h64 ⟨c.2.1, c.1, c.2.2.2, c.2.2.1, fun _ => hu1.mp c3⟩⟩
theorem X_risen (D : CD T S d t ub now) (hup : S.1 (33 + 7 * d) 1 = nI ub) (C : RC T) (ht : t < 12) (hK : K (nI (rB (rU T now t) 6))) : q_X1_risen d S K := by
  unfold q_X1_risen
  rw [D.2.1, f_X4_isFoggy, D.1 4 (by omega) (by omega)]
  exact ⟨7, X_risenL D hup C ht hK 6 0 (by omega)⟩
end RX
