/-! ===== the class's fishing ===== -/
theorem sub_add1 (a b c : Int32) : a - (b + c) = a - b - c := by simp only [Int32.sub_eq_add_neg, Int32.neg_add, Int32.add_assoc]
theorem sub_sub_s (a b : Int32) : a - (a - b) = b := by
  simp only [Int32.sub_eq_add_neg, Int32.neg_add, Int32.neg_neg]
  rw [← Int32.add_assoc, Int32.add_right_neg, Int32.zero_add]
theorem add_sub_r (a b c : Int32) : a - b + c = a + c - b := by
  rw [Int32.sub_eq_add_neg, Int32.sub_eq_add_neg, Int32.add_assoc, Int32.add_assoc, Int32.add_comm (-b) c]
theorem s0 (x : Int32) : x - nI 0 = x := by rw [show nI 0 = 0 from rfl, Int32.sub_eq_add_neg, Int32.neg_zero, Int32.add_zero]
theorem min_le (l b : Int32) : (if l < b then l else b) = (if l ≤ b then l else b) := by
  by_cases h : l < b
  · rw [if_pos h, if_pos (by rw [tI_le]; rw [tI_lt] at h; omega)]
  · rw [if_neg h]
    by_cases h2 : l ≤ b
    · rw [if_pos h2, tI_eq]; rw [tI_lt] at h; rw [tI_le] at h2; omega
    · rw [if_neg h2]
theorem enc16 {a b : Nat} (hb : b < 16) (ha : a < 2 ^ 20) : (nI a <<< (nI 4 &&& 31)) ||| nI b = nI (a * 16 + b) := by
  rw [pk_shlN _ 4 (bt_sm 4 (by omega)) (by omega), nI_or, Nat.mul_comm a (2 ^ 4), ← Nat.two_pow_add_eq_or_of_lt (i := 4) hb a]
theorem sm6_upd {f : Nat → Int32} {k : Nat} (hk : k < 6) (r : Int32) : sm6 (upd f (13 + k) (f (13 + k) + r)) = sm6 f + r := by
  unfold sm6 upd
  rcases (show k = 0 ∨ k = 1 ∨ k = 2 ∨ k = 3 ∨ k = 4 ∨ k = 5 by omega) with rfl | rfl | rfl | rfl | rfl | rfl <;> simp <;> ac_rfl
theorem sm6_eq {f g : Nat → Int32} (h : ∀ j, 13 ≤ j → j ≤ 18 → g j = f j) : sm6 g = sm6 f := by
  unfold sm6
  rw [h 13 (by omega) (by omega), h 14 (by omega) (by omega), h 15 (by omega) (by omega), h 16 (by omega) (by omega), h 17 (by omega) (by omega), h 18 (by omega) (by omega)]
/-- how much is taken: between 1 and what is left -/
theorem fs_rng {T : St} {k t s : Nat} {f : Nat → Int32} {l : Int32} (h : ¬ fsV T k t s f l ≤ nI 0) (hr : rg (f (39 + s)) 0 99) : ∃ w, 1 ≤ w ∧ w < 100 ∧ fsV T k t s f l = nI w ∧ (w : Int) ≤ (f (39 + s)).toInt := by
  have key : (fsV T k t s f l).toInt ≤ (f (39 + s)).toInt := by
    unfold fsV at h ⊢
    by_cases c : atV T k t s f
    · rw [if_pos c]
      by_cases c2 : l ≤ f (39 + s)
      · rw [if_pos c2]; rw [tI_le] at c2; exact c2
      · rw [if_neg c2]; exact Int.le_refl _
    · rw [if_neg c] at h; exact absurd (by decide) h
  rw [tI_le, show (nI 0).toInt = 0 from rfl] at h
  obtain ⟨h1, h2⟩ := hr
  obtain ⟨w, hw, e⟩ := nI_ex (x := fsV T k t s f l) (n := 100) (by omega) (by omega) (by omega)
  rw [e, nI_toInt (by omega)] at key h
  exact ⟨w, by omega, hw, e, key⟩
section FI
variable {T S0 S : St} {d t u : Nat} {full : Prop} {base : Int32}
theorem noteP_of {v : Int32} {f g : Nat → Int32} {i : Nat} (h : noteP v f i) (e : ∀ j, 45 + 4 * i ≤ j → j ≤ 45 + 4 * i + 3 → g j = f j) : noteP v g i := by
  obtain ⟨k, s, w, x, q1, q2, q3, q4, q5, q6, q7, q8, q9⟩ := h
  exact ⟨k, s, w, x, q1, q2, q3, q4, q5, by rw [e _ (by omega) (by omega)]; exact q6, by rw [e _ (by omega) (by omega)]; exact q7, by rw [e _ (by omega) (by omega)]; exact q8, by rw [e _ (by omega) (by omega)]; exact q9⟩
/-- a taking is done and noted -/
theorem PK_wr {f : Nat → Int32} {k s w : Nat} {K : St → Prop} (p : PK T S0 d t full base S u f) (hk : k < 6) (hs : s < 4) (ht : t < 12) (h1 : 1 ≤ w) (h2 : w < 100) (h3 : (w : Int) ≤ (f (39 + s)).toInt) (hN : full → ∃ n, f 44 = nI n ∧ n < 288)
    (hK : ∀ S', PK T S0 d t full base S' u (wrT k s t (nI w) f) → S'.1 (33 + 7 * d) 1 = S.1 (33 + 7 * d) 1 → K S') : q_X1_note d (sI S (33 + 7 * d + 5) s (S.1 (33 + 7 * d + 5) s - nI w)) (nI k) (nI s) (nI w) K := by
  obtain ⟨p1, ⟨E, c0, n0, hub, hu, hask, hask2, hleft, hpos, n, hn1, hn2⟩, p3, p4⟩ := p
  have wn : ∀ j, j < 44 → j ≠ 39 + s → wrT k s t (nI w) f j = f j := fun j a b => wrT_n a b
  have ws : wrT k s t (nI w) f (39 + s) = f (39 + s) - nI w := by unfold wrT; rw [upd_s]
  have hsub : rg (f (39 + s) - nI w) 0 99 := by
    obtain ⟨-, a, b⟩ := hleft s hs
    unfold rg
    have e : (f (39 + s) - nI w).toInt = (f (39 + s)).toInt - (nI w).toInt := tI_sub (by rw [nI_toInt (by omega)]; omega) (by rw [nI_toInt (by omega)]; omega)
    rw [e, nI_toInt (by omega)]
    omega
  -- the core, for any state that agrees on the day's cells but takings and notes
  have core : ∀ S', DayOnly S0 S' d → (∀ c, c < 33 → S'.1 c = S.1 c) → (∀ j, j ≠ 4 → S'.1 (33 + 7 * d) j = S.1 (33 + 7 * d) j) → (∀ c, 33 + 7 * d + 1 ≤ c → c ≤ 33 + 7 * d + 4 → S'.1 c = S.1 c) → (∀ j, S'.1 (33 + 7 * d + 5) j = if j = s then S.1 (33 + 7 * d + 5) s - nI w else S.1 (33 + 7 * d + 5) j) → (∃ n, n ≤ 288 ∧ S'.1 (33 + 7 * d) 4 = nI n) → (full → ∃ n, n ≤ 288 ∧ S'.1 (33 + 7 * d) 4 = nI n ∧ wrT k s t (nI w) f 44 = nI n ∧ ∀ i, i < n → noteP (S'.1 (33 + 7 * d + 6) i) (wrT k s t (nI w) f) i) → PK T S0 d t full base S' u (wrT k s t (nI w) f) := by
    intro S' a1 a2 a3 a4 a5 a6 a7
    refine ⟨a1, ⟨fun c h1 h2 => by rw [a2 c (by omega)]; exact E c h1 h2, by rw [a3 0 (by omega)]; exact c0, by rw [wn 0 (by omega) (by omega)]; exact n0, hub, fun j hj => by rw [wn _ (by omega) (by omega)]; exact hu j hj, hask.of (fun j hj => wn _ (by omega) (by omega)), fun j hj => by rw [a4 _ (by omega) (by omega), wn _ (by omega) (by omega)]; exact hask2 j hj, fun j hj => ?_, fun j hj => by rw [wn _ (by omega) (by omega), wn _ (by omega) (by omega)]; exact hpos j hj, a6⟩, ?_, fun hf => ?_⟩
    · rw [a5 j]
      by_cases e : j = s
      · rw [if_pos e, e, ws, (hleft s hs).1]; exact ⟨rfl, hsub⟩
      · rw [if_neg e, wn _ (by omega) (by omega)]; exact hleft j hj
    · rw [a3 2 (by omega), p3, sm6_eq (fun j h1 h2 => wn j (by omega) (by omega))]
    · obtain ⟨f1, f2, -⟩ := p4 hf
      refine ⟨fun j hj => ?_, ?_, a7 hf⟩
      · rw [a4 _ (by omega) (by omega), a4 _ (by omega) (by omega), a4 _ (by omega) (by omega), wn _ (by omega) (by omega), wn _ (by omega) (by omega), wn _ (by omega) (by omega)]; exact f1 j hj
      · rw [a3 3 (by omega), wn 43 (by omega) (by omega)]; exact f2
  have D1 : DayOnly S0 (sI S (33 + 7 * d + 5) s (S.1 (33 + 7 * d + 5) s - nI w)) d := p1.sI (by omega) (by omega) (by omega)
  unfold q_X1_note
  rw [sI_ne _ _ _ _ (show 33 + 7 * d ≠ 33 + 7 * d + 5 by omega), hn2, c0]
  simp (disch := omega) only [nle, vin, ncl, all_eq]
  refine ⟨fun c => ?_, fun c => ⟨by omega, ?_⟩⟩
  · refine hK _ (core _ D1 (fun c hc => by rw [sI_ne _ _ _ _ (by omega)]) (fun j _ => by rw [sI_ne _ _ _ _ (by omega)]) (fun c h1 h2 => by rw [sI_ne _ _ _ _ (by omega)]) (fun j => by rw [sI_1, if_pos rfl]) ⟨n, hn1, by rw [sI_ne _ _ _ _ (by omega)]; exact hn2⟩ (fun hf => ?_)) (by rw [sI_ne _ _ _ _ (by omega)])
    obtain ⟨n', e1, e2⟩ := hN hf
    obtain ⟨-, -, n2, g1, g2, g3, -⟩ := p4 hf
    rw [hn2, neq _ _ (by omega) (by omega)] at g2
    rw [e1, neq _ _ (by omega) (by omega)] at g3
    omega
  · rw [enc16 (by omega) (by omega), enc16 (by omega) (by omega), enc16 (by omega) (by omega)]
    rw [sI_ne _ (33 + 7 * d + 6) _ _ (show 33 + 7 * d ≠ 33 + 7 * d + 6 by omega), sI_ne _ _ _ _ (show 33 + 7 * d ≠ 33 + 7 * d + 5 by omega), hn2, nI_add]
    refine hK _ (core _ ((D1.sI (by omega) (by omega) (by omega)).sI (by omega) (by omega) (by omega)) (fun c hc => by rw [sI_ne _ _ _ _ (by omega), sI_ne _ _ _ _ (by omega), sI_ne _ _ _ _ (by omega)]) (fun j hj => ?_) (fun c h1 h2 => by rw [sI_ne _ _ _ _ (by omega), sI_ne _ _ _ _ (by omega), sI_ne _ _ _ _ (by omega)]) (fun j => ?_) ⟨n + 1, by omega, ?_⟩ (fun hf => ?_)) ?_
    · rw [sI_1, if_pos rfl, if_neg hj, sI_ne _ _ _ _ (by omega), sI_ne _ _ _ _ (by omega)]
    · rw [sI_ne _ _ _ _ (by omega), sI_ne _ _ _ _ (by omega), sI_1, if_pos rfl]
    · rw [sI_1, if_pos rfl, if_pos rfl]
    · obtain ⟨-, -, n2, g1, g2, g3, g4⟩ := p4 hf
      rw [hn2, neq _ _ (by omega) (by omega)] at g2
      subst g2
      have e44 : (f 44).toNatClampNeg = n := by rw [g3, ncl _ (by omega)]
      refine ⟨n + 1, by omega, ?_, ?_, fun i hi => ?_⟩
      · rw [sI_1, if_pos rfl, if_pos rfl]
      · rw [wrT_44 hs, g3, nI_add]
      · rw [sI_ne _ _ _ _ (show 33 + 7 * d + 6 ≠ 33 + 7 * d by omega), sI_1, if_pos rfl]
        by_cases e : i = n
        · rw [if_pos e, e]
          refine ⟨k, s, t, w, hk, hs, ht, h2, rfl, ?_, ?_, ?_, ?_⟩ <;> unfold wrT <;> rw [e44]
          · rw [upd_n _ _ (by omega), upd_n _ _ (by omega), upd_n _ _ (by omega), upd_n _ _ (by omega), upd_n _ _ (by omega), upd_s]
          · rw [upd_n _ _ (by omega), upd_n _ _ (by omega), upd_n _ _ (by omega), upd_n _ _ (by omega), upd_s]
          · rw [upd_n _ _ (by omega), upd_n _ _ (by omega), upd_n _ _ (by omega), upd_s]
          · rw [upd_n _ _ (by omega), upd_n _ _ (by omega), upd_s]
        · rw [if_neg e, sI_ne _ _ _ _ (by omega)]
          refine noteP_of (g4 i (by omega)) (fun j h1 h2 => ?_)
          unfold wrT
          rw [e44, upd_n _ _ (by omega), upd_n _ _ (by omega), upd_n _ _ (by omega), upd_n _ _ (by omega), upd_n _ _ (by omega), upd_n _ _ (by omega)]
    · rw [sI_1, if_pos rfl, if_neg (by omega), sI_ne _ _ _ _ (by omega), sI_ne _ _ _ _ (by omega)]
end FI
