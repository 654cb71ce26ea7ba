/-! ===== kites that are never up: their heights do not matter ===== -/
def EZ (Z : Nat → Prop) (f g : Nat → Int32) : Prop := ∀ j, j < 45 → (j < 7 ∨ 12 < j ∨ ¬ Z (j - 7)) → g j = f j
section EZS
variable {Z : Nat → Prop} {T : St} {law : Int32} {t : Nat} {f g : Nat → Int32}
theorem EZ_upd (h : EZ Z f g) (j : Nat) {v w : Int32} (hv : w = v) : EZ Z (upd f j v) (upd g j w) := fun i hi hz => by
  by_cases c : i = j
  · rw [c, upd_s, upd_s, hv]
  · rw [upd_n _ _ c, upd_n _ _ c]; exact h i hi hz
theorem EZ_hi (h : EZ Z f g) {j j' : Nat} (hj : 45 ≤ j) (hj' : 45 ≤ j') (v w : Int32) : EZ Z (upd f j v) (upd g j' w) := fun i hi hz => by
  rw [upd_n _ _ (by omega), upd_n _ _ (by omega)]; exact h i hi hz
theorem EZ_lo (h : EZ Z f g) {j : Nat} (hj : j < 7) : g j = f j := h j (by omega) (Or.inl hj)
theorem EZ_up (h : EZ Z f g) {j : Nat} (hj : 12 < j) (h2 : j < 45) : g j = f j := h j h2 (Or.inr (Or.inl hj))
theorem EZ_at (h : EZ Z f g) {k : Nat} (hk : k < 6) (hz : ¬ Z k) : g (7 + k) = f (7 + k) := h (7 + k) (by omega) (Or.inr (Or.inr (by rw [show 7 + k - 7 = k by omega]; exact hz)))
theorem hgt_z (h : EZ Z f g) {k : Nat} (hk : k < 6) (hz : ¬ Z k) : hgt g k = hgt f k := by unfold hgt; rw [EZ_at h hk hz]
theorem rC_z (h : EZ Z f g) {k : Nat} (hk : k < 6) (hz : ¬ Z k) : rC T g t k = rC T f t k := by unfold rC; rw [hgt_z h hk hz, EZ_lo h (by omega)]
theorem rStr_t {now : Nat → Int32} {k : Nat} (h : rU T now t k) : rStr T now t (k + 1) = rStr T now t k + T.1 (9 + k) 3 := if_pos h
theorem rStr_f {now : Nat → Int32} {k : Nat} (h : ¬ rU T now t k) : rStr T now t (k + 1) = rStr T now t k := if_neg h
theorem rStr_z (h : EZ Z f g) (hf : ∀ k, k < 6 → Z k → ¬ rU T f t k) (hg : ∀ k, k < 6 → Z k → ¬ rU T g t k) : ∀ k, k ≤ 6 → rStr T g t k = rStr T f t k := by
  intro k
  induction k with
  | zero => intro _; rfl
  | succ k ih =>
    intro hk
    have e := ih (by omega)
    by_cases hz : Z k
    · rw [rStr_f (hf k (by omega) hz), rStr_f (hg k (by omega) hz), e]
    · have e3 : rU T g t k = rU T f t k := by unfold rU; rw [rC_z h (by omega) hz, e]
      by_cases c : rU T f t k
      · rw [rStr_t c, rStr_t (by rw [e3]; exact c), e]
      · rw [rStr_f c, rStr_f (by rw [e3]; exact c), e]
theorem rU_z (h : EZ Z f g) (hf : ∀ k, k < 6 → Z k → ¬ rU T f t k) (hg : ∀ k, k < 6 → Z k → ¬ rU T g t k) {k : Nat} (hk : k < 6) : rU T g t k = rU T f t k := by
  by_cases hz : Z k
  · exact propext ⟨fun q => absurd q (hg k hk hz), fun q => absurd q (hf k hk hz)⟩
  · unfold rU; rw [rC_z h hk hz, rStr_z h hf hg k (by omega)]
/-- besides: the kites of Z are not up -/
def ZR (Z : Nat → Prop) (f g : Nat → Int32) : Prop := EZ Z f g ∧ ∀ k, k < 6 → Z k → ¬ f (1 + k) = nI 1
theorem upTo_z (h : EZ Z f g) (hf : ∀ k, k < 6 → Z k → ¬ rU T f t k) (hg : ∀ k, k < 6 → Z k → ¬ rU T g t k) : ZR Z (upTo f (rU T f t) 6) (upTo g (rU T g t) 6) := by
  refine ⟨fun j hj hz => ?_, fun k hk hz q => ?_⟩
  · unfold upTo
    by_cases c : 1 ≤ j ∧ j ≤ 6
    · rw [if_pos c, if_pos c, rU_z h hf hg (by omega)]
    · rw [if_neg c, if_neg c]; exact h j hj hz
  · rw [upTo_at _ _ hk, bI_1] at q
    exact hf k hk hz q
theorem ZR_no {k : Nat} (h : ZR Z f g) (hk : k < 6) (hu : f (1 + k) = nI 1) : ¬ Z k := fun q => h.2 k hk q hu
theorem tg1_z (h : ZR Z f g) {a b : Nat} (ha : a < 6) (hb : b < 6) : ZR Z (tg1 T law t a b f) (tg1 T law t a b g) := by
  have e : tgC T t a b g = tgC T t a b f := by
    unfold tgC
    rw [EZ_lo h.1 (show 1 + a < 7 by omega), EZ_lo h.1 (show 1 + b < 7 by omega)]
    by_cases c1 : f (1 + a) = nI 1
    · by_cases c2 : f (1 + b) = nI 1
      · rw [hgt_z h.1 ha (ZR_no h ha c1), EZ_at h.1 ha (ZR_no h ha c1), EZ_at h.1 hb (ZR_no h hb c2)]
      · exact propext ⟨fun q => absurd q.2.1 c2, fun q => absurd q.2.1 c2⟩
    · exact propext ⟨fun q => absurd q.1 c1, fun q => absurd q.1 c1⟩
  refine ⟨?_, fun k hk hz q => h.2 k hk hz (tg1_up ha hb hk q)⟩
  by_cases c : tgC T t a b f
  · have hg := gvX_lt (T := T) (law := law) ha hb
    rw [tg1_t c, tg1_t (by rw [e]; exact c)]
    exact EZ_upd (EZ_upd h.1 _ rfl) _ (by rw [EZ_up h.1 (by omega) (by omega)])
  · rw [tg1_f c, tg1_f (by rw [e]; exact c)]; exact h.1
theorem tgR_z {a : Nat} (ha : a < 6) : ∀ (m b : Nat) (f g : Nat → Int32), b + m ≤ 6 → ZR Z f g → ZR Z (tgR T law t a m b f) (tgR T law t a m b g) := by
  intro m
  induction m with
  | zero => intro b f g _ h; exact h
  | succ m ih => intro b f g hb h; exact ih (b + 1) _ _ (by omega) (tg1_z h ha (by omega))
theorem tgQ_z : ∀ (m a : Nat) (f g : Nat → Int32), a + m ≤ 6 → ZR Z f g → ZR Z (tgQ T law t m a f) (tgQ T law t m a g) := by
  intro m
  induction m with
  | zero => intro a f g _ h; exact h
  | succ m ih => intro a f g ha h; exact ih (a + 1) _ _ (by omega) (tgR_z (by omega) _ _ _ _ (by omega) h)
theorem nFind_z (h : EZ Z f g) (hf : ∀ k, k < 6 → Z k → ¬ rU T f t k) (hg : ∀ k, k < 6 → Z k → ¬ rU T g t k) : ZR Z (nFind T law t f) (nFind T law t g) := tgQ_z 6 0 _ _ (by omega) (upTo_z h hf hg)
theorem fsV_z (h : EZ Z f g) {k s : Nat} (hk : k < 6) (hz : ¬ Z k) (hs : s < 4) (l : Int32) : fsV T k t s g l = fsV T k t s f l := by
  unfold fsV atV
  rw [hgt_z h hk hz, EZ_up h (show 12 < 31 + s by omega) (by omega), EZ_up h (show 12 < 35 + s by omega) (by omega), EZ_up h (show 12 < 39 + s by omega) (by omega)]
theorem wrT_z (h : EZ Z f g) {k s : Nat} (hs : s < 4) (v : Int32) : EZ Z (wrT k s t v f) (wrT k s t v g) := by
  unfold wrT
  rw [EZ_up h (show 12 < 44 by omega) (by omega), EZ_up h (show 12 < 39 + s by omega) (by omega)]
  have h1 := EZ_hi h (show 45 ≤ 45 + 4 * (f 44).toNatClampNeg by omega) (show 45 ≤ 45 + 4 * (f 44).toNatClampNeg by omega) (nI k) (nI k)
  have h2 := EZ_hi h1 (show 45 ≤ 45 + 4 * (f 44).toNatClampNeg + 1 by omega) (show 45 ≤ 45 + 4 * (f 44).toNatClampNeg + 1 by omega) (nI s) (nI s)
  have h3 := EZ_hi h2 (show 45 ≤ 45 + 4 * (f 44).toNatClampNeg + 2 by omega) (show 45 ≤ 45 + 4 * (f 44).toNatClampNeg + 2 by omega) (nI t) (nI t)
  have h4 := EZ_hi h3 (show 45 ≤ 45 + 4 * (f 44).toNatClampNeg + 3 by omega) (show 45 ≤ 45 + 4 * (f 44).toNatClampNeg + 3 by omega) v v
  exact EZ_upd (EZ_upd h4 _ rfl) _ rfl
theorem tk1_z {k s : Nat} (hk : k < 6) (hz : ¬ Z k) (hs : s < 4) {q p : TQ} (h : EZ Z q.1 p.1) (h2 : p.2 = q.2) : EZ Z (tk1 T k t s q).1 (tk1 T k t s p).1 ∧ (tk1 T k t s p).2 = (tk1 T k t s q).2 := by
  have e := fsV_z (T := T) (t := t) h hk hz hs q.2.1
  unfold tk1
  rw [h2, e]
  by_cases c : fsV T k t s q.1 q.2.1 ≤ nI 0
  · rw [if_pos c, if_pos c]; exact ⟨h, h2⟩
  · rw [if_neg c, if_neg c]; exact ⟨wrT_z h hs _, rfl⟩
theorem tkN_z {k : Nat} (hk : k < 6) (hz : ¬ Z k) : ∀ (m s : Nat) (q p : TQ), s + m ≤ 4 → EZ Z q.1 p.1 → p.2 = q.2 → EZ Z (tkN T k t m s q).1 (tkN T k t m s p).1 ∧ (tkN T k t m s p).2 = (tkN T k t m s q).2 := by
  intro m
  induction m with
  | zero => intro s q p _ h h2; exact ⟨h, h2⟩
  | succ m ih =>
    intro s q p hs h h2
    obtain ⟨a, b⟩ := tk1_z (T := T) (t := t) hk hz (show s < 4 by omega) h h2
    exact ih (s + 1) _ _ (by omega) a b
theorem nTake_z (h : EZ Z f g) {k : Nat} (hk : k < 6) (hz : ¬ Z k) : EZ Z (nTake T k t f) (nTake T k t g) := by
  obtain ⟨a, b⟩ := tkN_z (T := T) (t := t) hk hz 4 0 (f, nI 3 * T.1 (9 + k) 4, nI 0) (g, nI 3 * T.1 (9 + k) 4, nI 0) (by omega) h rfl
  rw [nTake_e, nTake_e]
  unfold nEnd
  rw [b]
  exact EZ_upd (EZ_upd a _ (by rw [EZ_up a (by omega) (by omega)])) _ (by rw [EZ_up a (show 12 < 13 + k by omega) (by omega)])
theorem nK1_z (h : ZR Z f g) {k : Nat} (hk : k < 6) : ZR Z (nK1 T t k f) (nK1 T t k g) := by
  refine ⟨?_, fun i hi hz q => h.2 i hi hz (by rw [nK1_n hk (by omega) (by omega) (by omega)] at q; exact q)⟩
  unfold nK1
  rw [EZ_lo h.1 (show 1 + k < 7 by omega)]
  by_cases c : f (1 + k) = nI 1
  · rw [if_pos c, if_pos c]; exact nTake_z (EZ_upd h.1 _ (by rw [EZ_up h.1 (show 12 < 19 + k by omega) (by omega)])) hk (ZR_no h hk c)
  · rw [if_neg c, if_neg c]; exact h.1
theorem nK_z : ∀ (m k : Nat) (f g : Nat → Int32), k + m ≤ 6 → ZR Z f g → ZR Z (nK T t m k f) (nK T t m k g) := by
  intro m
  induction m with
  | zero => intro k f g _ h; exact h
  | succ m ih => intro k f g hk h; exact ih (k + 1) _ _ (by omega) (nK1_z h (by omega))
theorem nMv_z : ∀ (m s : Nat) (f g : Nat → Int32), s + m ≤ 4 → EZ Z f g → EZ Z (nMv T m s f) (nMv T m s g) := by
  intro m
  induction m with
  | zero => intro s f g _ h; exact h
  | succ m ih =>
    intro s f g hs h
    refine ih (s + 1) _ _ (by omega) ?_
    unfold nM1
    exact EZ_upd (EZ_upd h _ (by rw [EZ_up h (show 12 < 31 + s by omega) (by omega)])) _ (by rw [EZ_up h (show 12 < 35 + s by omega) (by omega)])
theorem nHour_z (h : EZ Z f g) (hf : ∀ k, k < 6 → Z k → ¬ rU T f t k) (hg : ∀ k, k < 6 → Z k → ¬ rU T g t k) : EZ Z (nHour T law t f) (nHour T law t g) := by
  have e := nMv_z (T := T) 4 0 _ _ (by omega) (nK_z (T := T) (t := t) 6 0 _ _ (by omega) (nFind_z (T := T) (law := law) (t := t) h hf hg)).1
  unfold nHour
  exact EZ_upd e _ (by rw [EZ_lo e (by omega)])
theorem nHs_z (h : EZ Z f g) : ∀ m, (∀ i, i < m → ∀ k, k < 6 → Z k → ¬ rU T (nHs T law i t f) (t + i) k) → (∀ i, i < m → ∀ k, k < 6 → Z k → ¬ rU T (nHs T law i t g) (t + i) k) → EZ Z (nHs T law m t f) (nHs T law m t g) := by
  intro m
  induction m with
  | zero => intro _ _; exact h
  | succ m ih =>
    intro hf hg
    rw [nHs_s, nHs_s]
    exact nHour_z (ih (fun i hi => hf i (by omega)) (fun i hi => hg i (by omega))) (hf m (by omega)) (hg m (by omega))
theorem sm6_z (h : EZ Z f g) : sm6 g = sm6 f := sm6_eq (fun j h1 h2 => EZ_up h (by omega) (by omega))
/-- what is asked stays, along the hours -/
theorem nHs_ask : ∀ (m : Nat) {k : Nat}, k < 6 → nHs T law m t f (7 + k) = f (7 + k) := by
  intro m k hk
  induction m with
  | zero => rfl
  | succ m ih =>
    rw [nHs_s, nHour_hi (by omega) (by omega), nK_n 6 0 _ _ (by omega) (by omega) (by omega), nFind_n (by omega) (by omega), ih]
theorem rU_told {k : Nat} (h : ¬ tK T k) : ¬ rU T f t k := fun q => h q.1.1
theorem rU_zero {k : Nat} (h : f (7 + k) = nI 0) : ¬ rU T f t k := fun q => by
  have h1 := q.1.2.1
  unfold hgt at h1
  rw [h, ncl _ (by omega)] at h1
  omega
end EZS
/-! heights in a plan -/
theorem hOf_lt (P k : Nat) : hOf P k < 4 := Nat.mod_lt _ (by omega)
theorem setA_at {f : Nat → Int32} {P k : Nat} (hk : k < 6) : setA f P (7 + k) = nI (hOf P k) := by
  unfold setA
  rw [if_pos (by omega), show 7 + k - 7 = k by omega]
theorem setA_n {f : Nat → Int32} {P j : Nat} (h : j < 7 ∨ 12 < j) : setA f P j = f j := by
  unfold setA
  rw [if_neg (by omega)]
theorem setA_ok {f : Nat → Int32} {P : Nat} : askOK (setA f P) := fun k hk => ⟨hOf P k, by have := hOf_lt P k; omega, setA_at hk⟩
theorem setA_z {f : Nat → Int32} {P Q : Nat} {Z : Nat → Prop} (h : ∀ k, k < 6 → ¬ Z k → hOf Q k = hOf P k) : EZ Z (setA f P) (setA f Q) := fun j hj hz => by
  by_cases c : 7 ≤ j ∧ j < 13
  · rw [show j = 7 + (j - 7) by omega, setA_at (by omega), setA_at (by omega)]
    rcases hz with hz | hz | hz
    · omega
    · omega
    · rw [h (j - 7) (by omega) hz]
  · rw [setA_n (by omega), setA_n (by omega)]
