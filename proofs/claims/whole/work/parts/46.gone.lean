/-! ===== go ===== -/
theorem nHs_44 {T : St} {law : Int32} : ∀ (m t : Nat) (f : Nat → Int32) (n : Nat), f 44 = nI n → ∃ n', n ≤ n' ∧ n' ≤ n + 24 * m ∧ nHs T law m t f 44 = nI n' := by
  intro m
  induction m with
  | zero => intro t f n h; exact ⟨n, by omega, by omega, h⟩
  | succ m ih =>
    intro t f n h
    obtain ⟨n1, a, b, c⟩ := nHour_44 (T := T) (law := law) (t := t) h
    obtain ⟨n2, a2, b2, c2⟩ := ih (t + 1) _ n1 c
    exact ⟨n2, by omega, by omega, c2⟩
theorem M_go15 {T SM : St} {law : Int32} {n : Nat} {k : Int32 → St → Prop} (R : RS T SM) (X : XR T) (hl : SM.1 0 5 = law) (hn : n < 2 ^ 30) :
    ∀ (m i t : Nat) (now : Nat → Int32) (c : Nat), i ≤ n → t ≤ 12 → n - i ≤ m → now 0 = nI t → askOK now → now 44 = nI c → c ≤ 24 * t →
      k (nHs T law (min (n - i) (12 - t)) t now 0) (sF SM 6 (nHs T law (min (n - i) (12 - t)) t now)) → q_X9_go_15 (nI n) k (m + 1) (sF SM 6 now) (nI i) := by
  have en : ∀ t now, k (now 0) (sF SM 6 now) → ∀ j, j = 0 → k (nHs T law j t now 0) (sF SM 6 (nHs T law j t now)) → q_X9_go_41 (nI n) k (sF SM 6 now) := by
    intro t now h j hj _
    unfold q_X9_go_41
    rw [sF_self, ncl _ (by omega)]
    exact h
  intro m
  induction m with
  | zero =>
    intro i t now c hi ht hm h0 ha h44 hc hK
    rw [q_X9_go_15_s, nle _ _ (by omega) (by omega), and_if (by omega)]
    rw [show min (n - i) (12 - t) = 0 by omega] at hK
    exact en t now hK 0 rfl hK
  | succ m ih =>
    intro i t now c hi ht hm h0 ha h44 hc hK
    rw [q_X9_go_15_s, nle _ _ (by omega) (by omega), sF_self, ncl _ (by omega), h0, nle _ _ (by omega) (by omega)]
    refine ⟨fun q => ?_, fun q => ⟨fun q2 => ?_, fun q2 => ?_⟩⟩
    · rw [show min (n - i) (12 - t) = 0 by omega] at hK
      exact en t now hK 0 rfl hK
    · rw [show min (n - i) (12 - t) = 0 by omega] at hK
      exact en t now hK 0 rfl hK
    · obtain ⟨c', a, b, e⟩ := nHour_44 (T := T) (law := law) (t := t) h44
      refine M_goHour R X hl (by omega) h0 ha h44 (by omega) ?_
      rw [all_eq, nI_add]
      refine ih (i + 1) (t + 1) _ c' (by omega) (by omega) (by omega) (nHour_0 h0) (nHour_ask ha) e (by omega) ?_
      rw [show min (n - i) (12 - t) = min (n - (i + 1)) (12 - (t + 1)) + 1 by omega] at hK
      exact hK
theorem o_go : ob_go Rel := by
  intro SX SM R a1
  unfold q_X8_go q_X9_go
  simp only [f_X9_in, bbr]
  rcases ixN a1 (n := 13) (by omega) with c | c | ⟨n, hn, rfl⟩
  · have c1 : a1 < nI 1 := by
      rw [tI_lt, nI_toInt (by omega)]; rw [tI_lt, nI_toInt (by omega)] at c; omega
    simp only [and_if c1, pif_f (fun q : inR a1 (nI 1) (nI 12) => q.1 c1)]
    exact ⟨trivial, R⟩
  · have c1 : ¬ a1 < nI 1 := by
      rw [tI_lt, nI_toInt (by omega)]; rw [tI_le, nI_toInt (by omega)] at c; omega
    have c2 : ¬ a1 ≤ nI 12 := by
      rw [tI_le, nI_toInt (by omega)]; rw [tI_le, nI_toInt (by omega)] at c; omega
    have c3 : ¬ inR a1 (nI 1) (nI 12) := fun q => by
      apply q.2
      rw [tI_lt, nI_toInt (by omega)]; rw [tI_le, nI_toInt (by omega)] at c; omega
    simp only [and_nif c1, and_nif c2, pif_f c3]
    exact ⟨trivial, R⟩
  · by_cases c0 : n = 0
    · have c1 : nI n < nI 1 := by rw [c0]; decide
      simp only [and_if c1, pif_f (fun q : inR (nI n) (nI 1) (nI 12) => q.1 c1)]
      exact ⟨trivial, R⟩
    · have c1 : ¬ nI n < nI 1 := by rw [nlt _ _ (by omega) (by omega)]; omega
      have c2 : nI n ≤ nI 12 := by rw [nle _ _ (by omega) (by omega)]; omega
      have c3 : inR (nI n) (nI 1) (nI 12) := ⟨c1, by rw [nlt _ _ (by omega) (by omega)]; omega⟩
      simp only [and_nif c1, and_if c2, pif_t c3]
      obtain ⟨T, E, X, C, S, hl, rt, ⟨t, u, c, ht, p, hup, h44, hN⟩, d1, rk, q0, q1⟩ := R
      rw [E 4 (by omega) (by omega)]
      refine X_pass X C (by omega) ht p hup (fun _ => ⟨c, h44, hN⟩) (fun S' u' p' hup' => ?_)
      unfold q_X5_forget
      rw [all_eq]
      refine ⟨13, ?_⟩
      obtain ⟨c', g1, g2, g3⟩ := nHs_44 (T := T) (law := T.1 4 4) (min n (12 - t)) t _ c h44
      obtain ⟨⟨o1, o2, o3⟩, cd, p3, p4⟩ := p'
      have hs := M_go15 (k := fun r' SM' => (sI S' (24 + 3 * 0) 0 (nI 0)).1 (33 + 7 * 0) 0 = r' ∧ Rel (sI S' (24 + 3 * 0) 0 (nI 0)) SM') (n := n) S X hl (by omega) 12 0 t (SM.1 6) c (by omega) ht (by omega) p.2.1.2.2.1 p.2.1.2.2.2.2.2.1 h44 hN
      rw [sF_id] at hs
      refine hs ⟨?_, T, ?_, X, C, ?_, ?_, ?_, ?_, ?_, ?_, ?_, ?_⟩
      · rw [sI_ne _ _ _ _ (by omega)]
        exact cd.2.1.trans cd.2.2.1.symm
      · exact cd.1.sI (by omega)
      · exact RS_sF S _
      · rw [sF_ne _ _ _ (by omega)]; exact hl
      · exact rt.eq (by rw [sI_ne _ _ _ _ (by omega), o1 _ (by omega)]) (by rw [sI_ne _ _ _ _ (by omega), o1 _ (by omega)]) (by rw [sF_ne _ _ _ (by omega)]) (sF_ne _ _ _ (by omega))
      · rw [sF_self]
        have dd : DayR T S' 0 (nHs T (T.1 4 4) (min n (12 - t)) t (SM.1 6)) := ⟨_, u', c', by omega, ⟨DayOnly.refl, cd, p3, p4⟩, hup', g3, by omega⟩
        exact dd.eq (cd.1.sI (by omega)) (fun c h1 h2 => sI_ne _ _ _ _ (by omega))
      · exact d1.eq (cd.1.sI (by omega)) (fun c h1 h2 => by rw [sI_ne _ _ _ _ (by omega), o1 _ (by omega)])
      · exact rk.eq (cd.1.sI (by omega)) (by rw [sI_ne _ _ _ _ (by omega), o1 _ (by omega)]) (fun c h1 h2 => by rw [sI_ne _ _ _ _ (by omega), o1 _ (by omega)]) (sF_ne _ _ _ (by omega)) (sF_ne _ _ _ (by omega))
      · left; rw [sI_1, if_pos rfl, if_pos rfl]
      · exact q1.eq (by rw [sI_ne _ _ _ _ (by omega), o1 _ (by omega)])
