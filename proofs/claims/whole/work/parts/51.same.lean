/-! ===== what lies behind place 44 does not matter ===== -/
def E45 (f g : Nat → Int32) : Prop := ∀ j, j < 45 → g j = f j
section E4
variable {T : St} {law : Int32} {t : Nat} {f g : Nat → Int32}
theorem E45_upd (h : E45 f g) (j : Nat) {v w : Int32} (hv : w = v) : E45 (upd f j v) (upd g j w) := fun i hi => by
  by_cases c : i = j
  · rw [c, upd_s, upd_s, hv]
  · rw [upd_n _ _ c, upd_n _ _ c]; exact h i hi
theorem E45_hi (h : E45 f g) {j j' : Nat} (hj : 45 ≤ j) (hj' : 45 ≤ j') (v w : Int32) : E45 (upd f j v) (upd g j' w) := fun i hi => by
  rw [upd_n _ _ (by omega), upd_n _ _ (by omega)]; exact h i hi
theorem hgt_c (h : E45 f g) {k : Nat} (hk : k < 6) : hgt g k = hgt f k := by unfold hgt; rw [h _ (by omega)]
theorem rC_c (h : E45 f g) {k : Nat} (hk : k < 6) : rC T g t k = rC T f t k := by unfold rC; rw [hgt_c h hk, h (1 + k) (by omega)]
theorem rStr_c (h : E45 f g) : ∀ k, k ≤ 6 → rStr T g t k = rStr T f t k := by
  intro k
  induction k with
  | zero => intro _; rfl
  | succ k ih =>
    intro hk
    have e := ih (by omega)
    have e2 := rC_c (T := T) (t := t) h (show k < 6 by omega)
    show @ite Int32 (rC T g t k ∧ ¬ T.1 4 5 < rStr T g t k + T.1 (9 + k) 3) (Classical.propDecidable _) (rStr T g t k + T.1 (9 + k) 3) (rStr T g t k) = @ite Int32 (rC T f t k ∧ ¬ T.1 4 5 < rStr T f t k + T.1 (9 + k) 3) (Classical.propDecidable _) (rStr T f t k + T.1 (9 + k) 3) (rStr T f t k)
    have e3 : (rC T g t k ∧ ¬ T.1 4 5 < rStr T g t k + T.1 (9 + k) 3) = (rC T f t k ∧ ¬ T.1 4 5 < rStr T f t k + T.1 (9 + k) 3) := by rw [e, e2]
    by_cases c : rC T f t k ∧ ¬ T.1 4 5 < rStr T f t k + T.1 (9 + k) 3
    · rw [if_pos c, if_pos (by rw [e3]; exact c), e]
    · rw [if_neg c, if_neg (by rw [e3]; exact c), e]
theorem rU_c (h : E45 f g) {k : Nat} (hk : k < 6) : rU T g t k = rU T f t k := by unfold rU; rw [rC_c h hk, rStr_c h k (by omega)]
theorem upTo_c (h : E45 f g) : E45 (upTo f (rU T f t) 6) (upTo g (rU T g t) 6) := fun j hj => by
  unfold upTo
  by_cases c : 1 ≤ j ∧ j ≤ 6
  · rw [if_pos c, if_pos c, rU_c h (by omega)]
  · rw [if_neg c, if_neg c]; exact h j hj
theorem tg1_c (h : E45 f g) {a b : Nat} (ha : a < 6) (hb : b < 6) : E45 (tg1 T law t a b f) (tg1 T law t a b g) := by
  have e : tgC T t a b g = tgC T t a b f := by
    unfold tgC; rw [hgt_c h ha, h (1 + a) (by omega), h (1 + b) (by omega), h (7 + a) (by omega), h (7 + b) (by omega)]
  by_cases c : tgC T t a b f
  · have hg := gvX_lt (T := T) (law := law) ha hb
    rw [tg1_t c, tg1_t (by rw [e]; exact c)]
    exact E45_upd (E45_upd h _ rfl) _ (by rw [h _ (by omega)])
  · rw [tg1_f c, tg1_f (by rw [e]; exact c)]; exact h
theorem tgR_c {a : Nat} (ha : a < 6) : ∀ (m b : Nat) (f g : Nat → Int32), b + m ≤ 6 → E45 f g → E45 (tgR T law t a m b f) (tgR T law t a m b g) := by
  intro m
  induction m with
  | zero => intro b f g _ h; exact h
  | succ m ih => intro b f g hb h; exact ih (b + 1) _ _ (by omega) (tg1_c h ha (by omega))
theorem tgQ_c : ∀ (m a : Nat) (f g : Nat → Int32), a + m ≤ 6 → E45 f g → E45 (tgQ T law t m a f) (tgQ T law t m a g) := by
  intro m
  induction m with
  | zero => intro a f g _ h; exact h
  | succ m ih => intro a f g ha h; exact ih (a + 1) _ _ (by omega) (tgR_c (by omega) _ _ _ _ (by omega) h)
theorem nFind_c (h : E45 f g) : E45 (nFind T law t f) (nFind T law t g) := tgQ_c 6 0 _ _ (by omega) (upTo_c h)
theorem fsV_c (h : E45 f g) {k s : Nat} (hk : k < 6) (hs : s < 4) (l : Int32) : fsV T k t s g l = fsV T k t s f l := by
  unfold fsV atV
  rw [hgt_c h hk, h (31 + s) (by omega), h (35 + s) (by omega), h (39 + s) (by omega)]
theorem wrT_c (h : E45 f g) {k s : Nat} (hs : s < 4) (v : Int32) : E45 (wrT k s t v f) (wrT k s t v g) := by
  unfold wrT
  rw [h 44 (by omega), h (39 + s) (by omega)]
  have h1 := E45_hi h (show 45 ≤ 45 + 4 * (f 44).toNatClampNeg by omega) (show 45 ≤ 45 + 4 * (f 44).toNatClampNeg by omega) (nI k) (nI k)
  have h2 := E45_hi h1 (show 45 ≤ 45 + 4 * (f 44).toNatClampNeg + 1 by omega) (show 45 ≤ 45 + 4 * (f 44).toNatClampNeg + 1 by omega) (nI s) (nI s)
  have h3 := E45_hi h2 (show 45 ≤ 45 + 4 * (f 44).toNatClampNeg + 2 by omega) (show 45 ≤ 45 + 4 * (f 44).toNatClampNeg + 2 by omega) (nI t) (nI t)
  have h4 := E45_hi h3 (show 45 ≤ 45 + 4 * (f 44).toNatClampNeg + 3 by omega) (show 45 ≤ 45 + 4 * (f 44).toNatClampNeg + 3 by omega) v v
  exact E45_upd (E45_upd h4 _ rfl) _ rfl
theorem tk1_c {k s : Nat} (hk : k < 6) (hs : s < 4) {q p : TQ} (h : E45 q.1 p.1) (h2 : p.2 = q.2) : E45 (tk1 T k t s q).1 (tk1 T k t s p).1 ∧ (tk1 T k t s p).2 = (tk1 T k t s q).2 := by
  have e := fsV_c (T := T) (t := t) h hk hs q.2.1
  unfold tk1
  rw [h2, e]
  by_cases c : fsV T k t s q.1 q.2.1 ≤ nI 0
  · rw [if_pos c, if_pos c]; exact ⟨h, h2⟩
  · rw [if_neg c, if_neg c]; exact ⟨wrT_c h hs _, rfl⟩
theorem tkN_c {k : Nat} (hk : k < 6) : ∀ (m s : Nat) (q p : TQ), s + m ≤ 4 → E45 q.1 p.1 → p.2 = q.2 → E45 (tkN T k t m s q).1 (tkN T k t m s p).1 ∧ (tkN T k t m s p).2 = (tkN T k t m s q).2 := by
  intro m
  induction m with
  | zero => intro s q p _ h h2; exact ⟨h, h2⟩
  | succ m ih =>
    intro s q p hs h h2
    obtain ⟨a, b⟩ := tk1_c (T := T) (t := t) hk (show s < 4 by omega) h h2
    exact ih (s + 1) _ _ (by omega) a b
theorem nTake_c (h : E45 f g) {k : Nat} (hk : k < 6) : E45 (nTake T k t f) (nTake T k t g) := by
  obtain ⟨a, b⟩ := tkN_c (T := T) (t := t) hk 4 0 (f, nI 3 * T.1 (9 + k) 4, nI 0) (g, nI 3 * T.1 (9 + k) 4, nI 0) (by omega) h rfl
  rw [nTake_e, nTake_e]
  unfold nEnd
  rw [b]
  exact E45_upd (E45_upd a _ (by rw [a 43 (by omega)])) _ (by rw [a (13 + k) (by omega)])
theorem nK1_c (h : E45 f g) {k : Nat} (hk : k < 6) : E45 (nK1 T t k f) (nK1 T t k g) := by
  unfold nK1
  rw [h (1 + k) (by omega)]
  by_cases c : f (1 + k) = nI 1
  · rw [if_pos c, if_pos c]; exact nTake_c (E45_upd h _ (by rw [h (19 + k) (by omega)])) hk
  · rw [if_neg c, if_neg c]; exact h
theorem nK_c : ∀ (m k : Nat) (f g : Nat → Int32), k + m ≤ 6 → E45 f g → E45 (nK T t m k f) (nK T t m k g) := by
  intro m
  induction m with
  | zero => intro k f g _ h; exact h
  | succ m ih => intro k f g hk h; exact ih (k + 1) _ _ (by omega) (nK1_c h (by omega))
theorem nMv_c : ∀ (m s : Nat) (f g : Nat → Int32), s + m ≤ 4 → E45 f g → E45 (nMv T m s f) (nMv T m s g) := by
  intro m
  induction m with
  | zero => intro s f g _ h; exact h
  | succ m ih =>
    intro s f g hs h
    refine ih (s + 1) _ _ (by omega) ?_
    unfold nM1
    exact E45_upd (E45_upd h _ (by rw [h (31 + s) (by omega)])) _ (by rw [h (35 + s) (by omega)])
theorem nHour_c (h : E45 f g) : E45 (nHour T law t f) (nHour T law t g) := by
  have e := nMv_c (T := T) 4 0 _ _ (by omega) (nK_c (T := T) (t := t) 6 0 _ _ (by omega) (nFind_c (T := T) (law := law) (t := t) h))
  unfold nHour
  exact E45_upd e _ (by rw [e 0 (by omega)])
theorem nHs_c : ∀ (m t : Nat) (f g : Nat → Int32), E45 f g → E45 (nHs T law m t f) (nHs T law m t g) := by
  intro m
  induction m with
  | zero => intro t f g h; exact h
  | succ m ih => intro t f g h; exact ih (t + 1) _ _ (nHour_c h)
theorem sm6_c (h : E45 f g) : sm6 g = sm6 f := sm6_eq (fun j h1 h2 => h j (by omega))
end E4
