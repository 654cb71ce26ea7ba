/-! ===== hours one behind another ===== -/
noncomputable def nHs (T : St) (law : Int32) : Nat → Nat → (Nat → Int32) → (Nat → Int32)
  | 0, _, f => f
  | m + 1, t, f => nHs T law m (t + 1) (nHour T law t f)
theorem nK_44 {T : St} {t : Nat} : ∀ (m k : Nat) (f : Nat → Int32) (n : Nat), k + m ≤ 6 → f 44 = nI n → ∃ n', n ≤ n' ∧ n' ≤ n + 4 * m ∧ nK T t m k f 44 = nI n' := by
  intro m
  induction m with
  | zero => intro k f n _ h; exact ⟨n, by omega, by omega, h⟩
  | succ m ih =>
    intro k f n hk h
    obtain ⟨n1, a, b, c⟩ := nK1_44 (T := T) (t := t) (show k < 6 by omega) h
    obtain ⟨n2, a2, b2, c2⟩ := ih (k + 1) _ n1 (by omega) c
    exact ⟨n2, by omega, by omega, c2⟩
theorem nHour_44 {T : St} {law : Int32} {t n : Nat} {now : Nat → Int32} (h : now 44 = nI n) : ∃ n', n ≤ n' ∧ n' ≤ n + 24 ∧ nHour T law t now 44 = nI n' := by
  obtain ⟨n', a, b, c⟩ := nK_44 (T := T) (t := t) 6 0 (nFind T law t now) n (by omega) (by rw [nFind_n (by omega) (by omega)]; exact h)
  refine ⟨n', a, by omega, ?_⟩
  unfold nHour
  rw [upd_n _ _ (by omega), nMv_o (by omega), c]
theorem nK_n {T : St} {t : Nat} : ∀ (m k : Nat) (f : Nat → Int32) (j : Nat), k + m ≤ 6 → j < 39 → (j < 13 ∨ 24 < j) → nK T t m k f j = f j := by
  intro m
  induction m with
  | zero => intro k f j _ _ _; rfl
  | succ m ih =>
    intro k f j hk h1 h2
    show nK T t m (k + 1) (nK1 T t k f) j = f j
    rw [ih (k + 1) _ j (by omega) h1 h2, nK1_n (by omega) h1 (by omega) (by omega)]
theorem nHour_0 {T : St} {law : Int32} {t : Nat} {now : Nat → Int32} (h : now 0 = nI t) : nHour T law t now 0 = nI (t + 1) := by
  unfold nHour
  rw [upd_s, nMv_o (by omega), nK_n 6 0 _ 0 (by omega) (by omega) (by omega), nFind_n (by omega) (by omega), h, nI_add]
theorem nHour_ask {T : St} {law : Int32} {t : Nat} {now : Nat → Int32} (h : askOK now) : askOK (nHour T law t now) := h.of (fun k hk => by
  unfold nHour
  rw [upd_n _ _ (by omega), nMv_o (by omega), nK_n 6 0 _ _ (by omega) (by omega) (by omega), nFind_n (by omega) (by omega)])
section PA
variable {T S0 : St} {d : Nat} {full : Prop} {base law : Int32}
theorem X_passL {K : St → Prop} {n : Nat} (X : XR T) (C : RC T) (hn : n < 2 ^ 30) :
    ∀ (m i t u : Nat) (S : St) (now : Nat → Int32), i ≤ n → t ≤ 12 → n - i ≤ m → PK T S0 d t full base S u now → S.1 (33 + 7 * d) 1 = nI u → (full → ∃ n, now 44 = nI n ∧ n ≤ 24 * t) →
      (∀ S' u', PK T S0 d (t + min (n - i) (12 - t)) full base S' u' (nHs T law (min (n - i) (12 - t)) t now) → S'.1 (33 + 7 * d) 1 = nI u' → K S') → q_X1_pass_3 d (nI n) law K (m + 1) S (nI i) := by
  intro m
  induction m with
  | zero =>
    intro i t u S now hi ht hm p hup hN hK
    rw [q_X1_pass_3_s, nle _ _ (by omega) (by omega), and_if (by omega)]
    refine hK S u ?_ hup
    rw [show min (n - i) (12 - t) = 0 by omega]
    exact p
  | succ m ih =>
    intro i t u S now hi ht hm p hup hN hK
    rw [q_X1_pass_3_s, nle _ _ (by omega) (by omega), p.2.1.2.1, nle _ _ (by omega) (by omega)]
    refine ⟨fun c => ?_, fun c => ⟨fun c2 => ?_, fun c2 => ?_⟩⟩
    · refine hK S u ?_ hup
      rw [show min (n - i) (12 - t) = 0 by omega]
      exact p
    · refine hK S u ?_ hup
      rw [show min (n - i) (12 - t) = 0 by omega]
      exact p
    · refine X_hour X C (by omega) p hup (fun hf => ?_) (fun S' u' p' hup' => ?_)
      · obtain ⟨k, e1, e2⟩ := hN hf
        exact ⟨k, e1, by omega⟩
      · rw [nI_add]
        refine ih (i + 1) (t + 1) u' S' _ (by omega) (by omega) (by omega) p' hup' (fun hf => ?_) (fun S2 u2 p2 h2 => hK S2 u2 ?_ h2)
        · obtain ⟨k, e1, e2⟩ := hN hf
          obtain ⟨k', a, b, c⟩ := nHour_44 (T := T) (law := law) (t := t) e1
          exact ⟨k', c, by omega⟩
        · have e : min (n - i) (12 - t) = min (n - (i + 1)) (12 - (t + 1)) + 1 := by omega
          rw [e, show t + (min (n - (i + 1)) (12 - (t + 1)) + 1) = t + 1 + min (n - (i + 1)) (12 - (t + 1)) by omega]
          exact p2
theorem X_pass {K : St → Prop} {n t u : Nat} {S : St} {now : Nat → Int32} (X : XR T) (C : RC T) (hn : n < 2 ^ 30) (ht : t ≤ 12) (p : PK T S0 d t full base S u now) (hup : S.1 (33 + 7 * d) 1 = nI u) (hN : full → ∃ n, now 44 = nI n ∧ n ≤ 24 * t)
    (hK : ∀ S' u', PK T S0 d (t + min n (12 - t)) full base S' u' (nHs T law (min n (12 - t)) t now) → S'.1 (33 + 7 * d) 1 = nI u' → K S') : q_X1_pass d S (nI n) law K :=
  ⟨n + 1, X_passL X C hn n 0 t u S now (by omega) ht (by omega) p hup hN hK⟩
end PA
