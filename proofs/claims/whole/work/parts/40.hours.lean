/-! ===== hours of the class ===== -/
theorem tgR_up1 {T : St} {law : Int32} {t a : Nat} (ha : a < 6) {k : Nat} (hk : k < 6) : ∀ (m b : Nat) (f : Nat → Int32), b + m ≤ 6 → tgR T law t a m b f (1 + k) = nI 1 → f (1 + k) = nI 1 := by
  intro m
  induction m with
  | zero => intro b f _ h; exact h
  | succ m ih => intro b f hb h; exact tg1_up ha (by omega) hk (ih (b + 1) _ (by omega) h)
theorem tgQ_up1 {T : St} {law : Int32} {t : Nat} {k : Nat} (hk : k < 6) : ∀ (m a : Nat) (f : Nat → Int32), a + m ≤ 6 → tgQ T law t m a f (1 + k) = nI 1 → f (1 + k) = nI 1 := by
  intro m
  induction m with
  | zero => intro a f _ h; exact h
  | succ m ih => intro a f hb h; exact tgR_up1 (by omega) hk _ _ _ (by omega) (ih (a + 1) _ (by omega) h)
theorem nFind_F {T : St} {law : Int32} {t : Nat} {now : Nat → Int32} : upF T t (nFind T law t now) := fun k hk hu => by
  have h := tgQ_up1 hk 6 0 _ (by omega) hu
  rw [upTo_at _ _ hk, bI_1] at h
  have e : hgt (nFind T law t now) k = hgt now k := by unfold hgt; rw [nFind_n (by omega) (by omega)]
  rw [e]
  exact ⟨h.1.2.1, h.1.1, h.1.2.2.2.1, h.1.2.2.1⟩
/-- the moves of shoals, place by place -/
theorem nMv_n {T : St} : ∀ (m s : Nat) (f : Nat → Int32) (j : Nat), s + m ≤ 4 → (j < 31 + s ∨ 38 < j) → nMv T m s f j = f j ∨ (31 ≤ j ∧ j ≤ 38) := by
  intro m s f j h1 h2
  by_cases h : 31 ≤ j ∧ j ≤ 38
  · exact Or.inr h
  refine Or.inl ?_
  induction m generalizing s f with
  | zero => rfl
  | succ m ih =>
    show nMv T m (s + 1) (nM1 T s f) j = f j
    rw [ih (s + 1) _ (by omega) (by omega)]
    unfold nM1
    rw [upd_n _ _ (by omega), upd_n _ _ (by omega)]
theorem nMv_o {T : St} {f : Nat → Int32} {j : Nat} (h : j < 31 ∨ 38 < j) : nMv T 4 0 f j = f j := by
  rcases nMv_n (T := T) 4 0 f j (by omega) (by omega) with h2 | h2
  · exact h2
  · omega
theorem nMv_x {T : St} {f : Nat → Int32} {s : Nat} (hs : s < 4) : nMv T 4 0 f (31 + s) = f (31 + s) + T.1 (15 + s) 3 ∧ nMv T 4 0 f (35 + s) = f (35 + s) + T.1 (15 + s) 4 := by
  show (nM1 T 3 (nM1 T 2 (nM1 T 1 (nM1 T 0 f)))) _ = _ ∧ (nM1 T 3 (nM1 T 2 (nM1 T 1 (nM1 T 0 f)))) _ = _
  rcases (show s = 0 ∨ s = 1 ∨ s = 2 ∨ s = 3 by omega) with rfl | rfl | rfl | rfl <;> simp [nM1, upd]
theorem sx_s (T : St) (s t : Nat) : sxX T s t + T.1 (15 + s) 3 = sxX T s (t + 1) := by
  unfold sxX
  rw [nI_succ, Int32.add_mul, Int32.one_mul, Int32.add_assoc]
theorem sy_s (T : St) (s t : Nat) : syX T s t + T.1 (15 + s) 4 = syX T s (t + 1) := by
  unfold syX
  rw [nI_succ, Int32.add_mul, Int32.one_mul, Int32.add_assoc]
section HO
variable {T S0 S : St} {d t u : Nat} {full : Prop} {base law : Int32}
/-- a kite that is up counts its hour -/
theorem PK_hr {f : Nat → Int32} {k : Nat} (p : PK T S0 d t full base S u f) (hk : k < 6) : PK T S0 d t full base (sI S (33 + 7 * d + 3) k (S.1 (33 + 7 * d + 3) k + nI 1)) u (upd f (19 + k) (f (19 + k) + nI 1)) := by
  obtain ⟨p1, ⟨E, c0, n0, hub, hu, hask, hask2, hleft, hpos, hn⟩, p3, p4⟩ := p
  have un : ∀ j, j ≠ 19 + k → upd f (19 + k) (f (19 + k) + nI 1) j = f j := fun j h => upd_n _ _ h
  refine ⟨p1.sI (by omega) (by omega) (by omega), ⟨E.sI (by omega), by rw [sI_ne _ _ _ _ (by omega)]; exact c0, by rw [un 0 (by omega)]; exact n0, hub, fun j hj => by rw [un _ (by omega)]; exact hu j hj, hask.of (fun j hj => un _ (by omega)), fun j hj => by rw [sI_ne _ _ _ _ (by omega), un _ (by omega)]; exact hask2 j hj, fun j hj => by rw [sI_ne _ _ _ _ (by omega), un _ (by omega)]; exact hleft j hj, fun j hj => by rw [un _ (by omega), un _ (by omega)]; exact hpos j hj, by rw [sI_ne _ _ _ _ (by omega)]; exact hn⟩, ?_, fun hf => ?_⟩
  · rw [sI_ne _ _ _ _ (by omega), p3, sm6_eq (fun j h1 h2 => un j (by omega))]
  · obtain ⟨f1, f2, n, f3, f4, f5, f6⟩ := p4 hf
    refine ⟨fun j hj => ?_, ?_, n, f3, ?_, ?_, fun i hi => ?_⟩
    · rw [sI_ne _ _ _ _ (by omega), sI_ne _ _ _ _ (show 33 + 7 * d + 4 ≠ 33 + 7 * d + 3 by omega), un (13 + j) (by omega), un (25 + j) (by omega)]
      refine ⟨(f1 j hj).1, ?_, (f1 j hj).2.2⟩
      rw [sI_1, if_pos rfl]
      by_cases e : j = k
      · rw [if_pos e, e, upd_s, (f1 k hk).2.1]
      · rw [if_neg e, un _ (by omega)]; exact (f1 j hj).2.1
    · rw [sI_ne _ _ _ _ (by omega), un 43 (by omega)]; exact f2
    · rw [sI_ne _ _ _ _ (by omega)]; exact f4
    · rw [un 44 (by omega)]; exact f5
    · rw [sI_ne _ _ _ _ (by omega)]
      exact noteP_of (f6 i hi) (fun j h1 h2 => un j (by omega))
/-- the hour's end: shoals move, the hour counts -/
theorem PK_mv {f : Nat → Int32} (p : PK T S0 d t full base S u f) : PK T S0 d (t + 1) full base (sI S (33 + 7 * d) 0 (nI (t + 1))) u (upd (nMv T 4 0 f) 0 (nMv T 4 0 f 0 + nI 1)) := by
  obtain ⟨p1, ⟨E, c0, n0, hub, hu, hask, hask2, hleft, hpos, hn⟩, p3, p4⟩ := p
  have mn : ∀ j, j ≠ 0 → (j < 31 ∨ 38 < j) → upd (nMv T 4 0 f) 0 (nMv T 4 0 f 0 + nI 1) j = f j := fun j h1 h2 => by rw [upd_n _ _ h1, nMv_o h2]
  have sd : ∀ j, j ≠ 0 → (sI S (33 + 7 * d) 0 (nI (t + 1))).1 (33 + 7 * d) j = S.1 (33 + 7 * d) j := fun j h => by rw [sI_1, if_pos rfl, if_neg h]
  refine ⟨p1.sI (by omega) (by omega) (by omega), ⟨E.sI (by omega), by rw [sI_1, if_pos rfl, if_pos rfl], by rw [upd_s, nMv_o (by omega), n0, nI_add], hub, fun j hj => by rw [mn _ (by omega) (by omega)]; exact hu j hj, hask.of (fun j hj => mn _ (by omega) (by omega)), fun j hj => by rw [sI_ne _ _ _ _ (by omega), mn _ (by omega) (by omega)]; exact hask2 j hj, fun j hj => by rw [sI_ne _ _ _ _ (by omega), mn _ (by omega) (by omega)]; exact hleft j hj, fun j hj => ?_, by rw [sd 4 (by omega)]; exact hn⟩, ?_, fun hf => ?_⟩
  · rw [upd_n _ _ (by omega), upd_n _ _ (by omega), (nMv_x hj).1, (nMv_x hj).2, (hpos j hj).1, (hpos j hj).2, sx_s, sy_s]
    exact ⟨rfl, rfl⟩
  · rw [sd 2 (by omega), p3, sm6_eq (fun j h1 h2 => mn j (by omega) (by omega))]
  · obtain ⟨f1, f2, n, f3, f4, f5, f6⟩ := p4 hf
    refine ⟨fun j hj => ?_, ?_, n, f3, ?_, ?_, fun i hi => ?_⟩
    · rw [sI_ne _ _ _ _ (by omega), sI_ne _ _ _ _ (by omega), sI_ne _ _ _ _ (by omega), mn _ (by omega) (by omega), mn _ (by omega) (by omega), mn _ (by omega) (by omega)]; exact f1 j hj
    · rw [sd 3 (by omega), mn 43 (by omega) (by omega)]; exact f2
    · rw [sd 4 (by omega)]; exact f4
    · rw [mn 44 (by omega) (by omega)]; exact f5
    · rw [sI_ne _ _ _ _ (by omega)]
      exact noteP_of (f6 i hi) (fun j h1 h2 => mn j (by omega) (by omega))
theorem X_kites {a1 : Int32} {K : St → Prop} {e3 : St → Int32 → Prop} {x5 : Int32} (X : XR T) (C : RC T) (ht : t < 12) :
    ∀ (m k : Nat) (S : St) (f : Nat → Int32), k + m = 6 → PK T S0 d t full base S u f → upF T t f → S.1 (33 + 7 * d) 1 = nI u → (full → ∃ n, f 44 = nI n ∧ n + 4 * m ≤ 288) →
      (∀ S', PK T S0 d (t + 1) full base S' u (upd (nMv T 4 0 (nK T t m k f)) 0 (nMv T 4 0 (nK T t m k f) 0 + nI 1)) → S'.1 (33 + 7 * d) 1 = nI u → e3 S' (x5 + nI 1)) → q_X1_pass_39 d a1 law K e3 (m + 1) S x5 (nI k) := by
  intro m
  induction m with
  | zero =>
    intro k S f hk p hF hup hN hK
    rw [q_X1_pass_39_s, show k = 6 by omega, and_if (by decide), all_eq, all_eq, p.2.1.2.1, nI_add]
    exact hK _ (PK_mv p) (by rw [sI_1, if_pos rfl, if_neg (by omega)]; exact hup)
  | succ m ih =>
    intro k S f hk p hF hup hN hK
    have hk6 : k < 6 := by omega
    have nx : ∀ S', PK T S0 d t full base S' u (nK1 T t k f) → S'.1 (33 + 7 * d) 1 = nI u → q_X1_pass_77 d a1 law K e3 (q_X1_pass_39 d a1 law K e3 (m + 1)) S' x5 (nI k) := by
      intro S' p' hu'
      unfold q_X1_pass_77
      rw [all_eq, nI_add]
      refine ih (k + 1) S' _ (by omega) p' (fun j hj hu => ?_) hu' (fun hf => ?_) hK
      · rw [nK1_n hk6 (by omega) (by omega) (by omega)] at hu
        have e : hgt (nK1 T t k f) j = hgt f j := by unfold hgt; rw [nK1_n hk6 (by omega) (by omega) (by omega)]
        rw [e]
        exact hF j hj hu
      · obtain ⟨n, e1, e2⟩ := hN hf
        obtain ⟨n', a, b, c⟩ := nK1_44 (T := T) (t := t) hk6 e1
        exact ⟨n', c, by omega⟩
    rw [q_X1_pass_39_s, and_nif (nI_ge hk6 (by omega)), hup, f_X8_isIn, bbr, p.up hk6]
    refine ⟨fun c => nx S (by unfold nK1; rw [if_neg c]; exact p) hup, fun c => ?_⟩
    rw [and_t (vp_in_nI hk6 (by omega)), and_t (vp_in_nI hk6 (by omega)), all_eq, ncl _ (by omega)]
    have eh : hgt (upd f (19 + k) (f (19 + k) + nI 1)) k = hgt f k := by unfold hgt; rw [upd_n _ _ (by omega)]
    refine X_fish X C hk6 ht (PK_hr p hk6) (by rw [eh]; exact hF k hk6 c) (fun hf => ?_) (fun S' p' h' => nx S' ?_ ?_)
    · obtain ⟨n, e1, e2⟩ := hN hf
      exact ⟨n, by rw [upd_n _ _ (by omega)]; exact e1, by omega⟩
    · unfold nK1; rw [if_pos c]; exact p'
    · rw [h', sI_ne _ _ _ _ (by omega)]; exact hup
theorem PK_up {f g : Nat → Int32} {v : Nat} (p : PK T S0 d t full base S u f) (hv : v < 64) (hg : ∀ j, j < 6 → g (1 + j) = bI (v.testBit j = true)) (ho : ∀ j, (j < 1 ∨ 6 < j) → g j = f j) : PK T S0 d t full base S v g := by
  obtain ⟨p1, ⟨E, c0, n0, hub, hu, hask, hask2, hleft, hpos, hn⟩, p3, p4⟩ := p
  refine ⟨p1, ⟨E, c0, by rw [ho 0 (by omega)]; exact n0, hv, hg, hask.of (fun j hj => ho _ (by omega)), fun j hj => by rw [ho _ (by omega)]; exact hask2 j hj, fun j hj => by rw [ho _ (by omega)]; exact hleft j hj, fun j hj => by rw [ho _ (by omega), ho _ (by omega)]; exact hpos j hj, hn⟩, ?_, fun hf => ?_⟩
  · rw [p3, sm6_eq (fun j h1 h2 => ho j (by omega))]
  · obtain ⟨f1, f2, n, f3, f4, f5, f6⟩ := p4 hf
    refine ⟨fun j hj => by rw [ho _ (by omega), ho _ (by omega), ho _ (by omega)]; exact f1 j hj, by rw [ho 43 (by omega)]; exact f2, n, f3, f4, by rw [ho 44 (by omega)]; exact f5, fun i hi => noteP_of (f6 i hi) (fun j h1 h2 => ho j (by omega))⟩
theorem PK_sup {f : Nat → Int32} {v : Int32} (p : PK T S0 d t full base S u f) : PK T S0 d t full base (sI S (33 + 7 * d) 1 v) u f := by
  obtain ⟨p1, ⟨E, c0, n0, hub, hu, hask, hask2, hleft, hpos, hn⟩, p3, p4⟩ := p
  have sd : ∀ j, j ≠ 1 → (sI S (33 + 7 * d) 1 v).1 (33 + 7 * d) j = S.1 (33 + 7 * d) j := fun j h => by rw [sI_1, if_pos rfl, if_neg h]
  refine ⟨p1.sI (by omega) (by omega) (by omega), ⟨E.sI (by omega), by rw [sd 0 (by omega)]; exact c0, n0, hub, hu, hask, fun j hj => by rw [sI_ne _ _ _ _ (by omega)]; exact hask2 j hj, fun j hj => by rw [sI_ne _ _ _ _ (by omega)]; exact hleft j hj, hpos, by rw [sd 4 (by omega)]; exact hn⟩, by rw [sd 2 (by omega)]; exact p3, fun hf => ?_⟩
  obtain ⟨f1, f2, n, f3, f4, f5, f6⟩ := p4 hf
  exact ⟨fun j hj => by rw [sI_ne _ _ _ _ (by omega), sI_ne _ _ _ _ (by omega), sI_ne _ _ _ _ (by omega)]; exact f1 j hj, by rw [sd 3 (by omega)]; exact f2, n, f3, by rw [sd 4 (by omega)]; exact f4, f5, fun i hi => by rw [sI_ne _ _ _ _ (by omega)]; exact f6 i hi⟩
/-- how an hour goes in the class -/
theorem X_hour {a1 : Int32} {K : St → Prop} {e3 : St → Int32 → Prop} {x5 : Int32} {now : Nat → Int32} (X : XR T) (C : RC T) (ht : t < 12) (p : PK T S0 d t full base S u now) (hup : S.1 (33 + 7 * d) 1 = nI u) (hN : full → ∃ n, now 44 = nI n ∧ n ≤ 264)
    (hK : ∀ S' u', PK T S0 d (t + 1) full base S' u' (nHour T law t now) → S'.1 (33 + 7 * d) 1 = nI u' → e3 S' (x5 + nI 1)) :
    q_X1_risen d S (fun r_3 => (q_X1_untangled d S r_3 law (fun r_4 S_5 => (∀ S_6 : St, S_6 = sI S_5 (33 + 7 * d) 1 r_4 → (∃ f_39, q_X1_pass_39 d a1 law K e3 f_39 S_6 x5 (nI 0)))))) := by
  refine X_risen p.2.1 hup C ht ?_
  have p1 : PK T S0 d t full base S (rB (rU T now t) 6) (upTo now (rU T now t) 6) := PK_up p (rB_lt _ 6) (fun j hj => by rw [upTo_at _ _ hj, bI_c (show rU T now t j ↔ (rB (rU T now t) 6).testBit j = true by rw [rB_bit]; exact ⟨fun h => ⟨hj, h⟩, fun h => h.2⟩)]) (fun j hj => by unfold upTo; rw [if_neg (by omega)])
  have hF : upF T t (upTo now (rU T now t) 6) := fun k hk hu => by
    rw [upTo_at _ _ hk, bI_1] at hu
    have e : hgt (upTo now (rU T now t) 6) k = hgt now k := by unfold hgt; rw [upTo_hi _ _ (by omega)]
    rw [e]
    exact ⟨hu.1.2.1, hu.1.1, hu.1.2.2.2.1, hu.1.2.2.1⟩
  refine X_untangled C ht p1 hF (fun S' u' p' => ?_)
  rw [all_eq]
  refine ⟨7, X_kites X C ht 6 0 _ _ (by omega) (PK_sup p') nFind_F (by rw [sI_1, if_pos rfl, if_pos rfl]) (fun hf => ?_) (fun S2 p2 h2 => hK S2 u' p2 h2)⟩
  obtain ⟨n, e1, e2⟩ := hN hf
  exact ⟨n, by rw [show tgQ T law t 6 0 (upTo now (rU T now t) 6) = nFind T law t now from rfl, nFind_n (by omega) (by omega)]; exact e1, by omega⟩
end HO
