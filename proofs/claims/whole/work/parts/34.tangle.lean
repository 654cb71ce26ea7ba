/-! ===== tangles ===== -/
theorem upd_s (f : Nat → Int32) (k : Nat) (x : Int32) : upd f k x k = x := by unfold upd; rw [if_pos rfl]
theorem upd_n (f : Nat → Int32) {k j : Nat} (x : Int32) (h : j ≠ k) : upd f k x j = f j := by unfold upd; rw [if_neg h]
noncomputable def tg1 (T : St) (law : Int32) (t a b : Nat) (f : Nat → Int32) : Nat → Int32 :=
  @ite (Nat → Int32) (f (1 + a) = nI 1 ∧ f (1 + b) = nI 1 ∧ f (7 + a) = f (7 + b) ∧ crX T a b (hgt f a) t) (Classical.propDecidable _)
    (upd (upd f (1 + gvX T law a b) (nI 0)) (25 + gvX T law a b) (f (25 + gvX T law a b) + nI 1)) f
noncomputable def tgR (T : St) (law : Int32) (t a : Nat) : Nat → Nat → (Nat → Int32) → (Nat → Int32)
  | 0, _, f => f
  | m + 1, b, f => tgR T law t a m (b + 1) (tg1 T law t a b f)
noncomputable def tgQ (T : St) (law : Int32) (t : Nat) : Nat → Nat → (Nat → Int32) → (Nat → Int32)
  | 0, _, f => f
  | m + 1, a, f => tgQ T law t m (a + 1) (tgR T law t a (5 - a) (a + 1) f)
def upOK (f : Nat → Int32) : Prop := ∀ k, k < 6 → f (1 + k) = nI 1 → 1 ≤ hgt f k
theorem gvX_or (T : St) (law : Int32) (a b : Nat) : gvX T law a b = a ∨ gvX T law a b = b := by
  unfold gvX
  by_cases h : gwX T law a b
  · rw [if_pos h]; exact Or.inl rfl
  · rw [if_neg h]; exact Or.inr rfl
theorem gvX_lt {T : St} {law : Int32} {a b : Nat} (ha : a < 6) (hb : b < 6) : gvX T law a b < 6 := by
  rcases gvX_or T law a b with h | h <;> rw [h] <;> assumption
/-- what a tangle leaves as it is -/
theorem tg1_n {T : St} {law : Int32} {t a b : Nat} {f : Nat → Int32} (ha : a < 6) (hb : b < 6) {j : Nat} (h1 : j < 1 ∨ 6 < j) (h2 : j < 25 ∨ 30 < j) : tg1 T law t a b f j = f j := by
  have hg := gvX_lt (T := T) (law := law) ha hb
  unfold tg1
  by_cases c : f (1 + a) = nI 1 ∧ f (1 + b) = nI 1 ∧ f (7 + a) = f (7 + b) ∧ crX T a b (hgt f a) t
  · rw [if_pos c, upd_n _ _ (by omega), upd_n _ _ (by omega)]
  · rw [if_neg c]
theorem tg1_up {T : St} {law : Int32} {t a b : Nat} {f : Nat → Int32} (ha : a < 6) (hb : b < 6) {k : Nat} (hk : k < 6) (h : tg1 T law t a b f (1 + k) = nI 1) : f (1 + k) = nI 1 := by
  have hg := gvX_lt (T := T) (law := law) ha hb
  unfold tg1 at h
  by_cases c : f (1 + a) = nI 1 ∧ f (1 + b) = nI 1 ∧ f (7 + a) = f (7 + b) ∧ crX T a b (hgt f a) t
  · rw [if_pos c, upd_n _ _ (by omega)] at h
    by_cases e : k = gvX T law a b
    · rw [e, upd_s] at h; exact absurd h (by decide)
    · rwa [upd_n _ _ (by omega)] at h
  · rwa [if_neg c] at h
theorem askOK.of {f g : Nat → Int32} (h : askOK f) (e : ∀ k, k < 6 → g (7 + k) = f (7 + k)) : askOK g := fun k hk => by rw [e k hk]; exact h k hk
theorem tg1_ask {T : St} {law : Int32} {t a b : Nat} {f : Nat → Int32} (ha : a < 6) (hb : b < 6) (h : askOK f) : askOK (tg1 T law t a b f) := h.of (fun k hk => tg1_n ha hb (by omega) (by omega))
theorem tg1_ok {T : St} {law : Int32} {t a b : Nat} {f : Nat → Int32} (ha : a < 6) (hb : b < 6) (h : upOK f) : upOK (tg1 T law t a b f) := fun k hk hu => by
  unfold hgt
  rw [tg1_n ha hb (by omega) (by omega)]
  exact h k hk (tg1_up ha hb hk hu)
section TA
variable {T SM : St} {t : Nat} {law : Int32} {K : St → Prop}
theorem M_tB (R : RS T SM) (X : XR T) (hl : SM.1 0 5 = law) (ht : t < 12) {a : Nat} (ha : a < 6) (e : St → Int32 → Prop) :
    ∀ m b f, b + m = 6 → askOK f → upOK f → e (sF SM 6 (tgR T law t a m b f)) (nI (a + 1)) → q_X9_findUp_179 (nI t) K e (m + 1) (sF SM 6 f) (nI a) (nI b) := by
  intro m
  induction m with
  | zero =>
    intro b f hb _ _ he
    rw [q_X9_findUp_179_s, show b = 6 by omega, and_if (by decide), all_eq, nI_add]
    exact he
  | succ m ih =>
    intro b f hb h1 h2 he
    have hb6 : b < 6 := by omega
    have R' := RS_sF R f
    have hg := gvX_lt (T := T) (law := law) ha hb6
    obtain ⟨ea, ha3⟩ := h1.eq ha
    obtain ⟨eb, hb3⟩ := h1.eq hb6
    rw [q_X9_findUp_179_s, and_nif (nI_ge hb6 (by omega))]
    have next : ∀ g, g = tg1 T law t a b f → q_X9_findUp_283 (nI t) K e (q_X9_findUp_179 (nI t) K e (m + 1)) (sF SM 6 g) (nI a) (nI b) := by
      intro g hgq
      unfold q_X9_findUp_283
      rw [all_eq, nI_add, hgq]
      exact ih (b + 1) _ (by omega) (tg1_ask ha hb6 h1) (tg1_ok ha hb6 h2) he
    have same : ¬ (f (1 + a) = nI 1 ∧ f (1 + b) = nI 1 ∧ f (7 + a) = f (7 + b) ∧ crX T a b (hgt f a) t) → q_X9_findUp_283 (nI t) K e (q_X9_findUp_179 (nI t) K e (m + 1)) (sF SM 6 f) (nI a) (nI b) := by
      intro hn
      exact next f (by unfold tg1; rw [if_neg hn])
    simp (disch := omega) only [nI_add, vin, ncl, sF_self, all_eq, sI_sF]
    refine ⟨by omega, by omega, fun c1 => ⟨by omega, fun c2 => ⟨by omega, fun c3 => ?_, fun c3 => same (fun q => c3 q.2.2.1)⟩, fun c2 => same (fun q => c2 q.2.1)⟩, fun c1 => same (fun q => c1 q.1)⟩
    rw [ea, f_X9_doTangle R' ha hb6 (h2 a ha c1) ha3 ht, bbr]
    refine ⟨fun c4 => same (fun q => c4 q.2.2.2), fun c4 => ?_⟩
    rw [f_X9_givesWay (law := law) R' X (by rw [sF6_0]; exact hl) ha hb6]
    simp (disch := omega) only [nI_add, vin, ncl]
    refine ⟨by omega, by omega, by omega, next _ ?_⟩
    unfold tg1
    rw [if_pos ⟨c1, c2, c3, c4⟩, upd_n _ _ (show 25 + gvX T law a b ≠ 1 + gvX T law a b by omega)]
theorem M_tA (R : RS T SM) (X : XR T) (hl : SM.1 0 5 = law) (ht : t < 12) :
    ∀ m a f, a + m = 6 → askOK f → upOK f → K (sF SM 6 (tgQ T law t m a f)) → q_X9_findUp_168 (nI t) K (m + 1) (sF SM 6 f) (nI a) := by
  intro m
  induction m with
  | zero =>
    intro a f hb _ _ he
    rw [q_X9_findUp_168_s, show a = 6 by omega, and_if (by decide)]
    exact he
  | succ m ih =>
    intro a f hb h1 h2 he
    have ha : a < 6 := by omega
    rw [q_X9_findUp_168_s, and_nif (nI_ge ha (by omega)), all_eq, nI_add]
    have inv : ∀ m b f, b + m = 6 → askOK f → upOK f → askOK (tgR T law t a m b f) ∧ upOK (tgR T law t a m b f) := by
      intro m
      induction m with
      | zero => intro b f _ h1 h2; exact ⟨h1, h2⟩
      | succ m ih => intro b f hb h1 h2; exact ih (b + 1) _ (by omega) (tg1_ask ha (by omega) h1) (tg1_ok ha (by omega) h2)
    obtain ⟨i1, i2⟩ := inv (5 - a) (a + 1) f (by omega) h1 h2
    exact ⟨5 - a + 1, M_tB R X hl ht ha _ (5 - a) (a + 1) f (by omega) h1 h2 (ih (a + 1) _ (by omega) i1 i2 he)⟩
end TA
/-- who is up in an hour, and who gave way -/
noncomputable def nFind (T : St) (law : Int32) (t : Nat) (now : Nat → Int32) : Nat → Int32 := tgQ T law t 6 0 (upTo now (rU T now t) 6)
theorem M_findUp {T SM : St} {t : Nat} {law : Int32} {now : Nat → Int32} {K : St → Prop} (R : RS T SM) (X : XR T) (hl : SM.1 0 5 = law) (ht : t < 12) (ha : askOK now) (hK : K (sF SM 6 (nFind T law t now))) : q_X9_findUp (sF SM 6 now) (nI t) K := by
  have h1 : askOK (upTo now (rU T now t) 6) := ha.of (fun k hk => upTo_hi _ _ (by omega))
  have h2 : upOK (upTo now (rU T now t) 6) := fun k hk hu => by
    rw [upTo_at _ _ hk, bI_1] at hu
    unfold hgt
    rw [upTo_hi _ _ (by omega)]
    exact hu.1.2.1
  refine ⟨7, ?_⟩
  have := M_rise (K := K) R ha ht ⟨7, M_tA R X hl ht 6 0 _ (by omega) h1 h2 hK⟩ 6 0 (by omega)
  rw [upTo_0] at this
  exact this
