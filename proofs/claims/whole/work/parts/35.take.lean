/-! ===== taking, an hour ===== -/
def atV (T : St) (k t s : Nat) (f : Nat → Int32) : Prop := tS T s ∧ f (31 + s) = kxX T k (hgt f k) t ∧ f (35 + s) = kyX T k (hgt f k)
noncomputable def fsV (T : St) (k t s : Nat) (f : Nat → Int32) (l : Int32) : Int32 := @ite Int32 (atV T k t s f) (Classical.propDecidable _) (if l ≤ f (39 + s) then l else f (39 + s)) (nI 0)
def wrT (k s t : Nat) (v : Int32) (f : Nat → Int32) : Nat → Int32 :=
  upd (upd (upd (upd (upd (upd f (45 + 4 * (f 44).toNatClampNeg) (nI k)) (45 + 4 * (f 44).toNatClampNeg + 1) (nI s)) (45 + 4 * (f 44).toNatClampNeg + 2) (nI t)) (45 + 4 * (f 44).toNatClampNeg + 3) v) 44 (f 44 + nI 1)) (39 + s) (f (39 + s) - v)
abbrev TQ : Type := (Nat → Int32) × Int32 × Int32
noncomputable def tk1 (T : St) (k t s : Nat) (q : TQ) : TQ := if fsV T k t s q.1 q.2.1 ≤ nI 0 then q else (wrT k s t (fsV T k t s q.1 q.2.1) q.1, q.2.1 - fsV T k t s q.1 q.2.1, q.2.2 + fsV T k t s q.1 q.2.1)
noncomputable def tkN (T : St) (k t : Nat) : Nat → Nat → TQ → TQ
  | 0, _, q => q
  | m + 1, s, q => tkN T k t m (s + 1) (tk1 T k t s q)
def thV (T : St) (w : Int32) : Int32 := if T.1 4 7 = nI 0 then nI 0 else w / T.1 4 7
noncomputable def nTake (T : St) (k t : Nat) (f : Nat → Int32) : Nat → Int32 :=
  upd (upd (tkN T k t 4 0 (f, nI 3 * T.1 (9 + k) 4, nI 0)).1 43 ((tkN T k t 4 0 (f, nI 3 * T.1 (9 + k) 4, nI 0)).1 43 + thV T (tkN T k t 4 0 (f, nI 3 * T.1 (9 + k) 4, nI 0)).2.2)) (13 + k)
    ((tkN T k t 4 0 (f, nI 3 * T.1 (9 + k) 4, nI 0)).1 (13 + k) + ((tkN T k t 4 0 (f, nI 3 * T.1 (9 + k) 4, nI 0)).2.2 - thV T (tkN T k t 4 0 (f, nI 3 * T.1 (9 + k) 4, nI 0)).2.2))
noncomputable def nK1 (T : St) (t k : Nat) (f : Nat → Int32) : Nat → Int32 := if f (1 + k) = nI 1 then nTake T k t (upd f (19 + k) (f (19 + k) + nI 1)) else f
noncomputable def nK (T : St) (t : Nat) : Nat → Nat → (Nat → Int32) → (Nat → Int32)
  | 0, _, f => f
  | m + 1, k, f => nK T t m (k + 1) (nK1 T t k f)
def nM1 (T : St) (s : Nat) (f : Nat → Int32) : Nat → Int32 := upd (upd f (31 + s) (f (31 + s) + T.1 (15 + s) 3)) (35 + s) (f (35 + s) + T.1 (15 + s) 4)
def nMv (T : St) : Nat → Nat → (Nat → Int32) → (Nat → Int32)
  | 0, _, f => f
  | m + 1, s, f => nMv T m (s + 1) (nM1 T s f)
noncomputable def nHour (T : St) (law : Int32) (t : Nat) (now : Nat → Int32) : Nat → Int32 :=
  upd (nMv T 4 0 (nK T t 6 0 (nFind T law t now))) 0 (nMv T 4 0 (nK T t 6 0 (nFind T law t now)) 0 + nI 1)
/-- places below the takings' rows that a step leaves as they are -/
theorem wrT_n {k s t : Nat} {v : Int32} {f : Nat → Int32} {j : Nat} (h1 : j < 44) (h2 : j ≠ 39 + s) : wrT k s t v f j = f j := by
  unfold wrT
  rw [upd_n _ _ h2, upd_n _ _ (by omega), upd_n _ _ (by omega), upd_n _ _ (by omega), upd_n _ _ (by omega), upd_n _ _ (by omega)]
theorem wrT_44 {k s t : Nat} {v : Int32} {f : Nat → Int32} (hs : s < 4) : wrT k s t v f 44 = f 44 + nI 1 := by
  unfold wrT
  rw [upd_n _ _ (by omega), upd_s]
theorem tk1_n {T : St} {k t s : Nat} {q : TQ} {j : Nat} (h1 : j < 44) (h2 : j ≠ 39 + s) : (tk1 T k t s q).1 j = q.1 j := by
  unfold tk1
  by_cases c : fsV T k t s q.1 q.2.1 ≤ nI 0
  · rw [if_pos c]
  · rw [if_neg c]; exact wrT_n h1 h2
theorem tk1_44 {T : St} {k t s : Nat} {q : TQ} {n : Nat} (hs : s < 4) (h : q.1 44 = nI n) : (tk1 T k t s q).1 44 = nI n ∨ (tk1 T k t s q).1 44 = nI (n + 1) := by
  unfold tk1
  by_cases c : fsV T k t s q.1 q.2.1 ≤ nI 0
  · rw [if_pos c]; exact Or.inl h
  · rw [if_neg c]; refine Or.inr ?_; show wrT k s t _ q.1 44 = _; rw [wrT_44 hs, h, nI_add]
theorem askOK_tk1 {T : St} {k t s : Nat} {q : TQ} (hs : s < 4) (h : askOK q.1) : askOK (tk1 T k t s q).1 := h.of (fun k hk => tk1_n (by omega) (by omega))
theorem tkN_n {T : St} {k t : Nat} : ∀ (m s : Nat) (q : TQ) (j : Nat), s + m ≤ 4 → j < 39 ∨ j = 43 → (tkN T k t m s q).1 j = q.1 j := by
  intro m
  induction m with
  | zero => intro s q j _ _; rfl
  | succ m ih =>
    intro s q j hs hj
    show (tkN T k t m (s + 1) (tk1 T k t s q)).1 j = q.1 j
    rw [ih (s + 1) _ j (by omega) hj, tk1_n (by omega) (by omega)]
theorem tkN_44 {T : St} {k t : Nat} : ∀ (m s n : Nat) (q : TQ), s + m ≤ 4 → q.1 44 = nI n → ∃ n', n ≤ n' ∧ n' ≤ n + m ∧ (tkN T k t m s q).1 44 = nI n' := by
  intro m
  induction m with
  | zero => intro s n q _ h; exact ⟨n, by omega, by omega, h⟩
  | succ m ih =>
    intro s n q hs h
    rcases tk1_44 (T := T) (k := k) (t := t) (s := s) (by omega) h with h | h
    · obtain ⟨n', a, b, c⟩ := ih (s + 1) n _ (by omega) h
      exact ⟨n', a, by omega, c⟩
    · obtain ⟨n', a, b, c⟩ := ih (s + 1) (n + 1) _ (by omega) h
      exact ⟨n', by omega, by omega, c⟩
section TK
variable {T SM : St} {t : Nat} {K : St → Prop}
theorem M_takeL (R : RS T SM) {k : Nat} (hk : k < 6) (ht : t < 12) :
    ∀ (m s : Nat) (q : TQ) (n : Nat), s + m = 4 → askOK q.1 → 1 ≤ hgt q.1 k → q.1 44 = nI n → n + m ≤ 288 →
      K (sF SM 6 (upd (upd (tkN T k t m s q).1 43 ((tkN T k t m s q).1 43 + thV T (tkN T k t m s q).2.2)) (13 + k) ((tkN T k t m s q).1 (13 + k) + ((tkN T k t m s q).2.2 - thV T (tkN T k t m s q).2.2)))) →
      q_X9_take_19 (nI k) (nI t) K (m + 1) (sF SM 6 q.1) q.2.1 q.2.2 (nI s) := by
  intro m
  induction m with
  | zero =>
    intro s q n hs ha h1 hn hN hK
    have e4 : s = 4 := by omega
    subst e4
    rw [q_X9_take_19_s, and_if (by decide), sF6_0, R.2.2.2.2.2.2.2.2]
    have fin : ∀ v, v = thV T q.2.2 → q_X9_take_259 (nI k) (nI t) K (sF SM 6 q.1) q.2.2 v := by
      intro v hv
      unfold q_X9_take_259
      simp (disch := omega) only [nI_add, vin, ncl, sF_self, all_eq, sI_sF]
      refine ⟨by omega, by omega, ?_⟩
      rw [upd_n _ _ (show 13 + k ≠ 43 by omega), hv]
      exact hK
    refine ⟨fun c => fin _ ?_, fun c => ⟨c, fin _ ?_⟩⟩
    · unfold thV; rw [if_pos c]
    · unfold thV; rw [if_neg c]
  | succ m ih =>
    intro s q n hs ha h1 hn hN hK
    have hs4 : s < 4 := by omega
    have R' := RS_sF R q.1
    obtain ⟨e7, h3⟩ := ha.eq hk
    rw [q_X9_take_19_s, and_nif (nI_ge hs4 (by omega))]
    have hh : hgt (tk1 T k t s q).1 k = hgt q.1 k := by unfold hgt; rw [tk1_n (by omega) (by omega)]
    have go : ∀ q', q' = tk1 T k t s q → ∀ S x y, S = sF SM 6 q'.1 → x = q'.2.1 → y = q'.2.2 → q_X9_take_235 (nI k) (nI t) K (q_X9_take_19 (nI k) (nI t) K (m + 1)) S x y (nI s) := by
      intro q' hq S x y e1 e2 e3
      unfold q_X9_take_235
      rw [all_eq, nI_add, e1, e2, e3, hq]
      rcases tk1_44 (T := T) (k := k) (t := t) (s := s) hs4 hn with h | h
      · exact ih (s + 1) _ n (by omega) (askOK_tk1 hs4 ha) (by rw [hh]; exact h1) h (by omega) hK
      · exact ih (s + 1) _ (n + 1) (by omega) (askOK_tk1 hs4 ha) (by rw [hh]; exact h1) h (by omega) hK
    have h136 : ∀ v, v = fsV T k t s q.1 q.2.1 → q_X9_take_136 (nI k) (nI t) K (q_X9_take_19 (nI k) (nI t) K (m + 1)) (sF SM 6 q.1) q.2.1 q.2.2 (nI s) v := by
      intro v hv
      unfold q_X9_take_136
      refine ⟨fun c => ?_, fun c => ?_⟩
      · refine go q ?_ _ _ _ rfl rfl rfl
        unfold tk1
        rw [← hv, if_pos c]
      · have e44 : (q.1 44).toNatClampNeg = n := by rw [hn, ncl _ (by omega)]
        simp (disch := omega) only [sF_self, ncl, hn, pk_mul, nI_add, vin, all_eq, sI_sF]
        refine ⟨by omega, by omega, by omega, by omega, by omega, by omega, ?_⟩
        refine go (tk1 T k t s q) rfl _ _ _ ?_ ?_ ?_
        · unfold tk1
          rw [← hv, if_neg c]
          unfold wrT
          rw [e44]
          congr 1
          rw [upd_n _ _ (show (44 : Nat) ≠ 45 + 4 * n + 3 by omega), upd_n _ _ (show (44 : Nat) ≠ 45 + 4 * n + 2 by omega), upd_n _ _ (show (44 : Nat) ≠ 45 + 4 * n + 1 by omega), upd_n _ _ (show (44 : Nat) ≠ 45 + 4 * n by omega)]
          rw [upd_n _ _ (show 39 + s ≠ 44 by omega), upd_n _ _ (show 39 + s ≠ 45 + 4 * n + 3 by omega), upd_n _ _ (show 39 + s ≠ 45 + 4 * n + 2 by omega), upd_n _ _ (show 39 + s ≠ 45 + 4 * n + 1 by omega), upd_n _ _ (show 39 + s ≠ 45 + 4 * n by omega)]
        · unfold tk1; rw [← hv, if_neg c]
        · unfold tk1; rw [← hv, if_neg c]
    have h97 : ∀ p : Prop, (p ↔ atV T k t s q.1) → q_X9_take_97 (nI k) (nI t) K (q_X9_take_19 (nI k) (nI t) K (m + 1)) (sF SM 6 q.1) q.2.1 q.2.2 (nI s) (bI p) := by
      intro p hp
      unfold q_X9_take_97
      simp (disch := omega) only [bbr, sF_self, ncl, nI_add, vin]
      refine ⟨fun c => h136 _ ?_, fun c => ⟨by omega, fun c2 => h136 _ ?_, fun c2 => ⟨by omega, h136 _ ?_⟩⟩⟩
      · unfold fsV; rw [if_neg (fun h => c (hp.mpr h))]
      · unfold fsV; rw [if_pos (hp.mp c), if_pos c2]
      · unfold fsV; rw [if_pos (hp.mp c), if_neg c2]
    have h96 : ¬ atV T k t s q.1 → q_X9_take_96 (nI k) (nI t) K (q_X9_take_19 (nI k) (nI t) K (m + 1)) (sF SM 6 q.1) q.2.1 q.2.2 (nI s) := by
      intro h
      have := h97 False ⟨fun h => h.elim, h⟩
      rw [bI_f not_false] at this
      exact this
    simp (disch := omega) only [sF_self, ncl, nI_add, vin, f_X9_has, sF6_0, bbr, e7]
    refine ⟨fun c => h96 (fun h => c ((R.shoal hs4).mpr h.1)), fun c => ⟨by omega, by omega, ?_⟩⟩
    rw [f_X9_xOf R' hk h1 h3 ht]
    refine ⟨fun c2 => ⟨by omega, by omega, ?_⟩, fun c2 => h96 (fun h => c2 h.2.1)⟩
    rw [f_X9_yOf R' hk]
    refine ⟨fun c3 => ?_, fun c3 => h96 (fun h => c3 h.2.2)⟩
    have := h97 True ⟨fun _ => ⟨(R.shoal hs4).mp c, c2, c3⟩, fun _ => trivial⟩
    rw [bI_t trivial] at this
    exact this
theorem M_take (R : RS T SM) {k : Nat} (hk : k < 6) (ht : t < 12) {f : Nat → Int32} {n : Nat} (ha : askOK f) (h1 : 1 ≤ hgt f k) (hn : f 44 = nI n) (hN : n + 4 ≤ 288) (hK : K (sF SM 6 (nTake T k t f))) : q_X9_take (sF SM 6 f) (nI k) (nI t) K := by
  unfold q_X9_take
  simp (disch := omega) only [pk_mul, nI_add, vin, ncl, sF6_2, all_eq]
  rw [R.2.1 k 3 hk (by omega)]
  exact ⟨by omega, 5, M_takeL R hk ht 4 0 (f, nI 3 * T.1 (9 + k) 4, nI 0) n (by omega) ha h1 hn hN hK⟩
theorem nTake_n {k : Nat} (hk : k < 6) {f : Nat → Int32} {j : Nat} (h1 : j < 39) (h2 : j ≠ 13 + k) : nTake T k t f j = f j := by
  unfold nTake
  rw [upd_n _ _ h2, upd_n _ _ (by omega), tkN_n 4 0 _ j (by omega) (by omega)]
theorem nTake_44 {k : Nat} (hk : k < 6) {f : Nat → Int32} {n : Nat} (h : f 44 = nI n) : ∃ n', n ≤ n' ∧ n' ≤ n + 4 ∧ nTake T k t f 44 = nI n' := by
  obtain ⟨n', a, b, c⟩ := tkN_44 (T := T) (k := k) (t := t) 4 0 n (f, nI 3 * T.1 (9 + k) 4, nI 0) (by omega) h
  refine ⟨n', a, b, ?_⟩
  unfold nTake
  rw [upd_n _ _ (by omega), upd_n _ _ (by omega), c]
theorem nK1_n {k : Nat} (hk : k < 6) {f : Nat → Int32} {j : Nat} (h1 : j < 39) (h2 : j ≠ 13 + k) (h3 : j ≠ 19 + k) : nK1 T t k f j = f j := by
  unfold nK1
  by_cases c : f (1 + k) = nI 1
  · rw [if_pos c, nTake_n hk h1 h2, upd_n _ _ h3]
  · rw [if_neg c]
theorem nK1_44 {k : Nat} (hk : k < 6) {f : Nat → Int32} {n : Nat} (h : f 44 = nI n) : ∃ n', n ≤ n' ∧ n' ≤ n + 4 ∧ nK1 T t k f 44 = nI n' := by
  unfold nK1
  by_cases c : f (1 + k) = nI 1
  · rw [if_pos c]
    exact nTake_44 hk (by rw [upd_n _ _ (by omega)]; exact h)
  · rw [if_neg c]
    exact ⟨n, by omega, by omega, h⟩
theorem nK1_ask {k : Nat} (hk : k < 6) {f : Nat → Int32} (h : askOK f) : askOK (nK1 T t k f) := h.of (fun j hj => nK1_n hk (by omega) (by omega) (by omega))
theorem nK1_up {k : Nat} (hk : k < 6) {f : Nat → Int32} (h : upOK f) : upOK (nK1 T t k f) := fun j hj hu => by
  rw [nK1_n hk (by omega) (by omega) (by omega)] at hu
  unfold hgt
  rw [nK1_n hk (by omega) (by omega) (by omega)]
  exact h j hj hu
theorem M_mv (R : RS T SM) : ∀ (m s : Nat) (f : Nat → Int32), s + m = 4 → K (sF SM 6 (upd (nMv T m s f) 0 (nMv T m s f 0 + nI 1))) → q_X9_goHour_59 K (m + 1) (sF SM 6 f) (nI s) := by
  intro m
  induction m with
  | zero =>
    intro s f hs hK
    rw [q_X9_goHour_59_s, show s = 4 by omega, and_if (by decide)]
    simp (disch := omega) only [sF_self, ncl, all_eq, sI_sF]
    exact hK
  | succ m ih =>
    intro s f hs hK
    have hs4 : s < 4 := by omega
    rw [q_X9_goHour_59_s, and_nif (nI_ge hs4 (by omega))]
    simp (disch := omega) only [sF_self, ncl, all_eq, sI_sF, nI_add, vin, pk_mul, sF6_3]
    refine ⟨by omega, by omega, by omega, by omega, by omega, by omega, ?_⟩
    rw [R.2.2.2.1 s 2 hs4 (by omega), R.2.2.2.1 s 3 hs4 (by omega), upd_n _ _ (show 35 + s ≠ 31 + s by omega)]
    exact ih (s + 1) _ (by omega) hK
theorem M_kites (R : RS T SM) (ht : t < 12) : ∀ (m k : Nat) (f : Nat → Int32) (n : Nat), k + m = 6 → askOK f → upOK f → f 44 = nI n → n + 4 * m ≤ 288 →
    K (sF SM 6 (upd (nMv T 4 0 (nK T t m k f)) 0 (nMv T 4 0 (nK T t m k f) 0 + nI 1))) → q_X9_goHour_14 K (m + 1) (sF SM 6 f) (nI t) (nI k) := by
  intro m
  induction m with
  | zero =>
    intro k f n hk ha hu hn hN hK
    rw [q_X9_goHour_14_s, show k = 6 by omega, and_if (by decide)]
    exact ⟨5, M_mv R 4 0 f (by omega) hK⟩
  | succ m ih =>
    intro k f n hk ha hu hn hN hK
    have hk6 : k < 6 := by omega
    rw [q_X9_goHour_14_s, and_nif (nI_ge hk6 (by omega))]
    have nx : ∀ g, g = nK1 T t k f → q_X9_goHour_51 K (q_X9_goHour_14 K (m + 1)) (sF SM 6 g) (nI t) (nI k) := by
      intro g hg
      unfold q_X9_goHour_51
      rw [all_eq, nI_add, hg]
      obtain ⟨n', a, b, c⟩ := nK1_44 (T := T) (t := t) hk6 hn
      exact ih (k + 1) _ n' (by omega) (nK1_ask hk6 ha) (nK1_up hk6 hu) c (by omega) hK
    simp (disch := omega) only [sF_self, ncl, all_eq, sI_sF, nI_add, vin]
    refine ⟨by omega, fun c => ⟨by omega, by omega, ?_⟩, fun c => nx f (by unfold nK1; rw [if_neg c])⟩
    have hh : hgt (upd f (19 + k) (f (19 + k) + nI 1)) k = hgt f k := by unfold hgt; rw [upd_n _ _ (by omega)]
    refine M_take R hk6 ht (ha.of (fun j hj => upd_n _ _ (by omega))) (by rw [hh]; exact hu k hk6 c) (n := n) (by rw [upd_n _ _ (by omega)]; exact hn) (by omega) ?_
    exact nx _ (by unfold nK1; rw [if_pos c])
theorem tgR_44 {law : Int32} {a : Nat} (ha : a < 6) : ∀ (m b : Nat) (f : Nat → Int32) (j : Nat), b + m ≤ 6 → (j < 1 ∨ 6 < j) → (j < 25 ∨ 30 < j) → tgR T law t a m b f j = f j := by
  intro m
  induction m with
  | zero => intro b f j _ _ _; rfl
  | succ m ih =>
    intro b f j hb h1 h2
    show tgR T law t a m (b + 1) (tg1 T law t a b f) j = f j
    rw [ih (b + 1) _ j (by omega) h1 h2, tg1_n ha (by omega) h1 h2]
theorem tgQ_n {law : Int32} : ∀ (m a : Nat) (f : Nat → Int32) (j : Nat), a + m ≤ 6 → (j < 1 ∨ 6 < j) → (j < 25 ∨ 30 < j) → tgQ T law t m a f j = f j := by
  intro m
  induction m with
  | zero => intro a f j _ _ _; rfl
  | succ m ih =>
    intro a f j hb h1 h2
    show tgQ T law t m (a + 1) (tgR T law t a (5 - a) (a + 1) f) j = f j
    rw [ih (a + 1) _ j (by omega) h1 h2, tgR_44 (by omega) _ _ _ j (by omega) h1 h2]
theorem tgR_up {law : Int32} {a : Nat} (ha : a < 6) : ∀ (m b : Nat) (f : Nat → Int32), b + m ≤ 6 → upOK f → upOK (tgR T law t a m b f) := by
  intro m
  induction m with
  | zero => intro b f _ h; exact h
  | succ m ih => intro b f hb h; exact ih (b + 1) _ (by omega) (tg1_ok ha (by omega) h)
theorem tgQ_up {law : Int32} : ∀ (m a : Nat) (f : Nat → Int32), a + m ≤ 6 → upOK f → upOK (tgQ T law t m a f) := by
  intro m
  induction m with
  | zero => intro a f _ h; exact h
  | succ m ih => intro a f hb h; exact ih (a + 1) _ (by omega) (tgR_up (by omega) _ _ _ (by omega) h)
theorem nFind_n {law : Int32} {now : Nat → Int32} {j : Nat} (h1 : j < 1 ∨ 6 < j) (h2 : j < 25 ∨ 30 < j) : nFind T law t now j = now j := by
  unfold nFind
  rw [tgQ_n 6 0 _ j (by omega) h1 h2]
  unfold upTo
  rw [if_neg (by omega)]
theorem nFind_ask {law : Int32} {now : Nat → Int32} (h : askOK now) : askOK (nFind T law t now) := h.of (fun k hk => nFind_n (by omega) (by omega))
theorem nFind_up {law : Int32} {now : Nat → Int32} : upOK (nFind T law t now) := by
  refine tgQ_up 6 0 _ (by omega) (fun k hk hu => ?_)
  rw [upTo_at _ _ hk, bI_1] at hu
  unfold hgt
  rw [upTo_hi _ _ (by omega)]
  exact hu.1.2.1
/-- the reference's hour -/
theorem M_goHour {law : Int32} {now : Nat → Int32} {n : Nat} (R : RS T SM) (X : XR T) (hl : SM.1 0 5 = law) (ht : t < 12) (h0 : now 0 = nI t) (ha : askOK now) (hn : now 44 = nI n) (hN : n ≤ 264) (hK : K (sF SM 6 (nHour T law t now))) : q_X9_goHour (sF SM 6 now) K := by
  unfold q_X9_goHour
  rw [all_eq, sF_self, ncl _ (by omega), h0]
  exact M_findUp R X hl ht ha ⟨7, M_kites R ht 6 0 _ n (by omega) (nFind_ask ha) nFind_up (by rw [nFind_n (by omega) (by omega)]; exact hn) (by omega) hK⟩
end TK
