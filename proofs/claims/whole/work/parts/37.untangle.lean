/-! ===== the class's tangles ===== -/
def clrB (u g : Nat) : Nat := u &&& (63 - 2 ^ g)
theorem clrB_all : ∀ u, u < 64 → ∀ g, g < 6 → (nI u &&& ((nI 1 <<< (nI g &&& 31)) ^^^ (-1))) = nI (clrB u g) ∧ clrB u g < 64 ∧ ∀ k, k < 6 → (clrB u g).testBit k = (u.testBit k && !(decide (k = g))) := by decide +kernel
def sm6 (f : Nat → Int32) : Int32 := f 13 + f 14 + f 15 + f 16 + f 17 + f 18
def DayOnly (S S' : St) (d : Nat) : Prop := (∀ c, c < 33 + 7 * d ∨ 33 + 7 * d + 6 < c → S'.1 c = S.1 c) ∧ S'.2 = S.2 ∧ S'.1 (33 + 7 * d + 1) = S.1 (33 + 7 * d + 1)
def noteP (v : Int32) (f : Nat → Int32) (i : Nat) : Prop := ∃ k s u w, k < 6 ∧ s < 4 ∧ u < 12 ∧ w < 100 ∧ v = nI (((w * 16 + u) * 16 + s) * 16 + k) ∧ f (45 + 4 * i) = nI k ∧ f (45 + 4 * i + 1) = nI s ∧ f (45 + 4 * i + 2) = nI u ∧ f (45 + 4 * i + 3) = nI w
def FX (S : St) (d : Nat) (f : Nat → Int32) : Prop :=
  (∀ k, k < 6 → S.1 (33 + 7 * d + 2) k = f (13 + k) ∧ S.1 (33 + 7 * d + 3) k = f (19 + k) ∧ S.1 (33 + 7 * d + 4) k = f (25 + k)) ∧ S.1 (33 + 7 * d) 3 = f 43 ∧
  ∃ n, n ≤ 288 ∧ S.1 (33 + 7 * d) 4 = nI n ∧ f 44 = nI n ∧ ∀ i, i < n → noteP (S.1 (33 + 7 * d + 6) i) f i
/-- all that is known of a day while an hour goes; S0: the state ahead; full: not only what is caught matters -/
def PK (T S0 : St) (d t : Nat) (full : Prop) (base : Int32) (S : St) (u : Nat) (f : Nat → Int32) : Prop :=
  DayOnly S0 S d ∧ CD T S d t u f ∧ S.1 (33 + 7 * d) 2 = sm6 f - base ∧ (full → FX S d f)
def upF (T : St) (t : Nat) (f : Nat → Int32) : Prop := ∀ k, k < 6 → f (1 + k) = nI 1 → frP T k (hgt f k) t
def tgC (T : St) (t a b : Nat) (f : Nat → Int32) : Prop := f (1 + a) = nI 1 ∧ f (1 + b) = nI 1 ∧ f (7 + a) = f (7 + b) ∧ crX T a b (hgt f a) t
theorem tg1_t {T : St} {law : Int32} {t a b : Nat} {f : Nat → Int32} (h : tgC T t a b f) : tg1 T law t a b f = upd (upd f (1 + gvX T law a b) (nI 0)) (25 + gvX T law a b) (f (25 + gvX T law a b) + nI 1) := if_pos h
theorem tg1_f {T : St} {law : Int32} {t a b : Nat} {f : Nat → Int32} (h : ¬ tgC T t a b f) : tg1 T law t a b f = f := if_neg h
theorem tgR_id {T : St} {law : Int32} {t a : Nat} : ∀ (m b : Nat) (f : Nat → Int32), (∀ j, b ≤ j → j < b + m → ¬ tgC T t a j f) → tgR T law t a m b f = f := by
  intro m
  induction m with
  | zero => intro b f _; rfl
  | succ m ih =>
    intro b f h
    show tgR T law t a m (b + 1) (tg1 T law t a b f) = f
    rw [tg1_f (h b (by omega) (by omega))]
    exact ih (b + 1) f (fun j h1 h2 => h j (by omega) (by omega))
theorem upF_tg {T : St} {law : Int32} {t a b : Nat} {f : Nat → Int32} (ha : a < 6) (hb : b < 6) (h : upF T t f) : upF T t (tg1 T law t a b f) := fun k hk hu => by
  unfold hgt
  rw [tg1_n ha hb (by omega) (by omega)]
  exact h k hk (tg1_up ha hb hk hu)
section UN
variable {T S0 S : St} {d t u : Nat} {full : Prop} {base law : Int32} {f : Nat → Int32}
theorem DayOnly.sI {c k : Nat} {v : Int32} (h : DayOnly S0 S d) (h1 : 33 + 7 * d ≤ c) (h2 : c ≤ 33 + 7 * d + 6) (h3 : c ≠ 33 + 7 * d + 1) : DayOnly S0 (sI S c k v) d :=
  ⟨fun j hj => by rw [sI_ne _ _ _ _ (by omega)]; exact h.1 j hj, h.2.1, by rw [sI_ne _ _ _ _ (by omega)]; exact h.2.2⟩
theorem PK_tg (p : PK T S0 d t full base S u f) {a b : Nat} (ha : a < 6) (hb : b < 6) (hc : tgC T t a b f) :
    PK T S0 d t full base (sI S (33 + 7 * d + 4) (gvX T law a b) (S.1 (33 + 7 * d + 4) (gvX T law a b) + nI 1)) (clrB u (gvX T law a b)) (tg1 T law t a b f) := by
  have hg := gvX_lt (T := T) (law := law) ha hb
  obtain ⟨p1, ⟨E, c0, n0, hub, hu, hask, hask2, hleft, hpos, hn⟩, p3, p4⟩ := p
  obtain ⟨-, cl2, cl3⟩ := clrB_all u hub _ hg
  generalize hge : gvX T law a b = g at *
  have hn1 : ∀ j, (j < 1 ∨ 6 < j) → (j < 25 ∨ 30 < j) → tg1 T law t a b f j = f j := fun j h1 h2 => tg1_n ha hb h1 h2
  refine ⟨p1.sI (by omega) (by omega) (by omega), ⟨E.sI (by omega), ?_, ?_, cl2, ?_, tg1_ask ha hb hask, ?_, ?_, ?_, ?_⟩, ?_, fun hf => ?_⟩
  · rw [sI_ne _ _ _ _ (by omega)]; exact c0
  · rw [hn1 0 (by omega) (by omega)]; exact n0
  · intro k hk
    rw [tg1_t hc, hge, upd_n _ _ (by omega), cl3 k hk]
    by_cases e : k = g
    · rw [e, upd_s]; simp [bI_f]
    · rw [upd_n _ _ (by omega), hu k hk]; simp [e]
  · intro k hk
    rw [sI_ne _ _ _ _ (by omega), hn1 (7 + k) (by omega) (by omega)]; exact hask2 k hk
  · intro s hs
    rw [sI_ne _ _ _ _ (by omega), hn1 (39 + s) (by omega) (by omega)]; exact hleft s hs
  · intro s hs
    rw [hn1 (31 + s) (by omega) (by omega), hn1 (35 + s) (by omega) (by omega)]; exact hpos s hs
  · rw [sI_ne _ _ _ _ (by omega)]; exact hn
  · rw [sI_ne _ _ _ _ (by omega), p3]
    unfold sm6
    rw [hn1 13 (by omega) (by omega), hn1 14 (by omega) (by omega), hn1 15 (by omega) (by omega), hn1 16 (by omega) (by omega), hn1 17 (by omega) (by omega), hn1 18 (by omega) (by omega)]
  · obtain ⟨f1, f2, n, f3, f4, f5, f6⟩ := p4 hf
    refine ⟨fun k hk => ?_, ?_, n, f3, ?_, ?_, fun i hi => ?_⟩
    · rw [sI_ne _ _ _ _ (by omega), sI_ne _ _ _ _ (by omega), hn1 (13 + k) (by omega) (by omega), hn1 (19 + k) (by omega) (by omega)]
      refine ⟨(f1 k hk).1, (f1 k hk).2.1, ?_⟩
      rw [sI_1, if_pos rfl, tg1_t hc, hge]
      by_cases e : k = g
      · rw [if_pos e, e, upd_s, (f1 g hg).2.2]
      · rw [if_neg e, upd_n _ _ (by omega), upd_n _ _ (by omega)]; exact (f1 k hk).2.2
    · rw [sI_ne _ _ _ _ (by omega), hn1 43 (by omega) (by omega)]; exact f2
    · rw [sI_ne _ _ _ _ (by omega)]; exact f4
    · rw [hn1 44 (by omega) (by omega)]; exact f5
    · rw [sI_ne _ _ _ _ (by omega)]
      obtain ⟨k, s, w, v, q1, q2, q3, q4, q5, q6, q7, q8, q9⟩ := f6 i hi
      exact ⟨k, s, w, v, q1, q2, q3, q4, q5, by rw [hn1 _ (by omega) (by omega)]; exact q6, by rw [hn1 _ (by omega) (by omega)]; exact q7, by rw [hn1 _ (by omega) (by omega)]; exact q8, by rw [hn1 _ (by omega) (by omega)]; exact q9⟩
theorem PK.up (p : PK T S0 d t full base S u f) {k : Nat} (hk : k < 6) : hasB (nI u) k ↔ f (1 + k) = nI 1 := by
  obtain ⟨-, ⟨-, -, -, hub, hu, -⟩, -⟩ := p
  rw [hasB_nI (by omega) (by omega), hu k hk, bI_1]
theorem X_tB {a1 : Int32} {K : Int32 → St → Prop} {a m0 : Nat} (ha : a < 6) (hm : m0 < 64) (e6 : St → Int32 → Int32 → Prop) (up0 : Prop)
    (hQ : ∀ b, a < b → b < 6 → ∀ h, (m0.testBit b = true → up0 ∧ tK T b) ∧ (up0 → tK T b → h = hgt f a → (m0.testBit b = true ↔ crX T a b h t))) :
    ∀ m b S u g, b + m = 6 → a < b → PK T S0 d t full base S u g → upF T t g → (∀ j, j < 6 → g (7 + j) = f (7 + j)) → (g (1 + a) = nI 1 → up0) →
      (∀ S' u', PK T S0 d t full base S' u' (tgR T law t a m b g) → e6 S' (nI u') (nI (a + 1))) → q_X1_untangled_52 d a1 law K e6 (m + 1) S (nI u) (nI a) (nI m0) (nI b) := by
  intro m
  induction m with
  | zero =>
    intro b S u g hb hab p _ _ _ he
    rw [q_X1_untangled_52_s, show b = 6 by omega, and_if (by decide)]
    unfold q_X1_untangled_166
    rw [all_eq, nI_add]
    exact he S u p
  | succ m ih =>
    intro b S u g hb hab p hF hA h0 he
    have hb6 : b < 6 := by omega
    have hhg : hgt g a = hgt f a := by unfold hgt; rw [hA a ha]
    obtain ⟨q1, q2⟩ := hQ b hab hb6 (hgt g a)
    rw [q_X1_untangled_52_s, and_nif (nI_ge hb6 (by omega)), pk_shrN (by omega) _ b (bt_sm b (by omega)), neq _ _ (Nat.lt_of_le_of_lt (Nat.div_le_self _ _) (by omega)) (by omega)]
    refine ⟨fun c => ?_, fun c => ?_⟩
    · unfold q_X1_untangled_166
      rw [all_eq, nI_add]
      refine he S u ?_
      rw [tgR_id]
      · exact p
      · intro j h1 h2 hc
        have hj6 : j < 6 := by omega
        have hj := hF j hj6 hc.2.1
        have := ((hQ j (by omega) hj6 (hgt g a)).2 (h0 hc.1) hj.2.1 hhg).mpr hc.2.2.2
        have hlt : m0 < 2 ^ b := by
          rcases Nat.lt_or_ge m0 (2 ^ b) with h | h
          · exact h
          · have := Nat.div_pos h (Nat.two_pow_pos b); omega
        have hlt2 : m0 < 2 ^ j := Nat.lt_of_lt_of_le hlt (Nat.pow_le_pow_right (by omega) h1)
        rw [Nat.testBit_lt_two_pow hlt2] at this
        exact absurd this (by decide)
    · have nx : ∀ S' u', PK T S0 d t full base S' u' (tg1 T law t a b g) → q_X1_untangled_160 d a1 law K e6 (q_X1_untangled_52 d a1 law K e6 (m + 1)) S' (nI u') (nI a) (nI m0) (nI b) := by
        intro S' u' p'
        unfold q_X1_untangled_160
        rw [all_eq, nI_add]
        exact ih (b + 1) S' u' _ (by omega) (by omega) p' (upF_tg ha hb6 hF) (fun j hj => by rw [tg1_n ha hb6 (by omega) (by omega)]; exact hA j hj) (fun h => h0 (tg1_up ha hb6 ha h)) he
      have no : ¬ tgC T t a b g → q_X1_untangled_160 d a1 law K e6 (q_X1_untangled_52 d a1 law K e6 (m + 1)) S (nI u) (nI a) (nI m0) (nI b) := by
        intro h
        exact nx S u (by rw [tg1_f h]; exact p)
      have h91 : ¬ tgC T t a b g → q_X1_untangled_91 d a1 law K e6 (q_X1_untangled_52 d a1 law K e6 (m + 1)) S (nI u) (nI a) (nI m0) (nI b) := by
        intro h
        unfold q_X1_untangled_91 q_X1_untangled_92
        rw [br_0]
        exact no h
      rw [f_X8_isIn, bbr, p.up ha]
      refine ⟨fun c1 => h91 (fun q => c1 q.1), fun c1 => ?_⟩
      rw [f_X8_isIn, bbr, p.up hb6]
      refine ⟨fun c2 => h91 (fun q => c2 q.2.1), fun c2 => ?_⟩
      unfold q_X1_untangled_92
      rw [br_1, f_X8_isIn, bbr, hasB_nI (by omega) (by omega)]
      have tb := (hF b hb6 c2).2.1
      have ta := (hF a ha c1).2.1
      have q3 := q2 (h0 c1) tb hhg
      refine ⟨fun c3 => no (fun q => c3 (q3.mpr q.2.2.2)), fun c3 => ?_⟩
      obtain ⟨E, -, -, hub, -, -, hask2, -⟩ := p.2.1
      rw [and_t (vp_in_nI ha (by omega)), and_t (vp_in_nI hb6 (by omega)), ncl _ (by omega), ncl _ (by omega), hask2 a ha, hask2 b hb6]
      refine ⟨fun c4 => ?_, fun c4 => no (fun q => c4 q.2.2.1)⟩
      have hc : tgC T t a b g := ⟨c1, c2, c4, q3.mp c3⟩
      have hg := gvX_lt (T := T) (law := law) ha hb6
      have gS : gvX S law a b = gvX T law a b := by unfold gvX gwX; rw [E (9 + a) (by omega) (by omega), E (9 + b) (by omega) (by omega)]
      have tS1 : tK S a := by show ¬ S.1 (9 + a) 0 = nI 0; rw [E (9 + a) (by omega) (by omega)]; exact ta
      have tS2 : tK S b := by show ¬ S.1 (9 + b) 0 = nI 0; rw [E (9 + b) (by omega) (by omega)]; exact tb
      rw [f_X4_givingWay law ha hb6 tS1 tS2, gS, all_eq, and_t (vp_in_nI hg (by omega)), and_t (vp_in_nI hg (by omega)), all_eq, ncl _ (by omega), (clrB_all u hub _ hg).1]
      exact nx _ _ (PK_tg p ha hb6 hc)
theorem X_tA {a1 : Int32} {K : Int32 → St → Prop} (C : RC T) (ht : t < 12) :
    ∀ m a S u g, a + m = 6 → PK T S0 d t full base S u g → upF T t g → (∀ S' u', PK T S0 d t full base S' u' (tgQ T law t m a g) → K (nI u') S') → q_X1_untangled_6 d a1 law K (m + 1) S (nI u) (nI a) := by
  intro m
  induction m with
  | zero =>
    intro a S u g ha p _ he
    rw [q_X1_untangled_6_s, show a = 6 by omega, and_if (by decide)]
    exact he S u p
  | succ m ih =>
    intro a S u g ha p hF he
    have ha6 : a < 6 := by omega
    obtain ⟨E, c0, -, hub, -, hask, hask2, -⟩ := p.2.1
    obtain ⟨e7, h3⟩ := hask.eq ha6
    rw [q_X1_untangled_6_s, and_nif (nI_ge ha6 (by omega)), f_X8_isIn, bbr, p.up ha6]
    have hFR : ∀ m b g, b + m ≤ 6 → upF T t g → upF T t (tgR T law t a m b g) := by
      intro m
      induction m with
      | zero => intro b g _ h; exact h
      | succ m ih => intro b g hb h; exact ih (b + 1) _ (by omega) (upF_tg ha6 (by omega) h)
    have row : ∀ m0, m0 < 64 → (∀ b, a < b → b < 6 → ∀ h, (m0.testBit b = true → (g (1 + a) = nI 1) ∧ tK T b) ∧ ((g (1 + a) = nI 1) → tK T b → h = hgt g a → (m0.testBit b = true ↔ crX T a b h t))) → q_X1_untangled_44 d a1 law K (q_X1_untangled_6 d a1 law K (m + 1)) S (nI u) (nI a) (nI m0) := by
      intro m0 hm0 hQ
      unfold q_X1_untangled_44
      rw [all_eq, nI_add]
      exact ⟨5 - a + 1, X_tB (f := g) ha6 hm0 _ (g (1 + a) = nI 1) hQ (5 - a) (a + 1) S u g (by omega) (by omega) p hF (fun _ _ => rfl) (fun h => h) (fun S' u' p' => ih (a + 1) S' u' _ (by omega) p' (hFR _ _ _ (by omega) hF) he)⟩
    refine ⟨fun c => row 0 (by omega) (fun b _ _ h => ⟨fun q => by simp at q, fun q => absurd q c⟩), fun c => ?_⟩
    rw [and_t (vp_in_nI ha6 (by omega)), ncl _ (by omega), hask2 a ha6, e7, c0, f_X0_crossed E ha6 h3 ht]
    obtain ⟨-, hC⟩ := C a (hgt g a) ha6 h3
    obtain ⟨-, m0, hm0, e0, hb0⟩ := hC t ht
    rw [e0]
    refine row m0 hm0 (fun b hab hb h => ⟨fun q => ⟨c, ((hb0 b hb).mp q).2.2.1⟩, fun _ htb hh => ?_⟩)
    rw [hb0 b hb, hh]
    exact ⟨fun q => q.2.2.2, fun q => ⟨hF a ha6 c, hab, htb, q⟩⟩
theorem X_untangled {K : Int32 → St → Prop} (C : RC T) (ht : t < 12) (p : PK T S0 d t full base S u f) (hF : upF T t f) (hK : ∀ S' u', PK T S0 d t full base S' u' (tgQ T law t 6 0 f) → K (nI u') S') : q_X1_untangled d S (nI u) law K :=
  ⟨7, X_tA C ht 6 0 S u f (by omega) p hF hK⟩
end UN
