/-! ===== what stays when other cells are written ===== -/
section FR
variable {T S S' SX SM : St} {d : Nat} {f g : Nat → Int32}
theorem DayOnly.refl : DayOnly S S d := ⟨fun _ _ => rfl, rfl, rfl⟩
theorem DayR.eq (h : DayR T S d f) (E : SeaEq S' T) (e : ∀ c, 33 + 7 * d ≤ c → c ≤ 33 + 7 * d + 6 → S'.1 c = S.1 c) : DayR T S' d f := by
  obtain ⟨t, u, n, ht, ⟨-, ⟨-, c0, n0, hub, hu, ha, hask, hleft, hpos, hn⟩, p3, p4⟩, hup, h44, hN⟩ := h
  obtain ⟨f1, f2, n', f3, f4, f5, f6⟩ := p4 trivial
  refine ⟨t, u, n, ht, ⟨DayOnly.refl, ⟨E, ?_, n0, hub, hu, ha, fun k hk => ?_, fun s hs => ?_, hpos, ?_⟩, ?_, fun _ => ⟨fun k hk => ?_, ?_, n', f3, ?_, f5, fun i hi => ?_⟩⟩, ?_, h44, hN⟩
  · rw [e _ (by omega) (by omega)]; exact c0
  · rw [e _ (by omega) (by omega)]; exact hask k hk
  · rw [e _ (by omega) (by omega)]; exact hleft s hs
  · rw [e _ (by omega) (by omega)]; exact hn
  · rw [e _ (by omega) (by omega)]; exact p3
  · rw [e _ (by omega) (by omega), e _ (by omega) (by omega), e _ (by omega) (by omega)]; exact f1 k hk
  · rw [e _ (by omega) (by omega)]; exact f2
  · rw [e _ (by omega) (by omega)]; exact f4
  · rw [e _ (by omega) (by omega)]; exact f6 i hi
  · rw [e _ (by omega) (by omega)]; exact hup
theorem DayR.eqf (h : DayR T S d f) (e : ∀ j, j < 1197 → g j = f j) : DayR T S d g := by
  obtain ⟨t, u, n, ht, ⟨p1, ⟨E, c0, n0, hub, hu, ha, hask, hleft, hpos, hn⟩, p3, p4⟩, hup, h44, hN⟩ := h
  obtain ⟨f1, f2, n', f3, f4, f5, f6⟩ := p4 trivial
  refine ⟨t, u, n, ht, ⟨p1, ⟨E, c0, ?_, hub, fun k hk => ?_, ha.of (fun k hk => e _ (by omega)), fun k hk => ?_, fun s hs => ?_, fun s hs => ?_, hn⟩, ?_, fun _ => ⟨fun k hk => ?_, ?_, n', f3, f4, ?_, fun i hi => ?_⟩⟩, hup, ?_, hN⟩
  · rw [e _ (by omega)]; exact n0
  · rw [e _ (by omega)]; exact hu k hk
  · rw [e _ (by omega)]; exact hask k hk
  · rw [e _ (by omega)]; exact hleft s hs
  · rw [e _ (by omega), e _ (by omega)]; exact hpos s hs
  · rw [sm6_eq (f := f) (fun j h1 h2 => e j (by omega))]; exact p3
  · rw [e _ (by omega), e _ (by omega), e _ (by omega)]; exact f1 k hk
  · rw [e _ (by omega)]; exact f2
  · rw [e _ (by omega)]; exact f5
  · exact noteP_of (f6 i hi) (fun j h1 h2 => e j (by omega))
  · rw [e _ (by omega)]; exact h44
theorem RQ.eq {law : Int32} {q m : Nat} (h : RQ T law S q m f) (e : S'.1 (24 + 3 * q) = S.1 (24 + 3 * q)) : RQ T law S' q m f := by
  unfold RQ; rw [e]; exact h
theorem RK.eq {SM' : St} (h : RK T SX SM) (E : SeaEq S' T) (e0 : S'.1 0 7 = SX.1 0 7) (e : ∀ c, 54 ≤ c → c < 68 → S'.1 c = SX.1 c) (e8 : SM'.1 8 = SM.1 8) (e9 : SM'.1 9 = SM.1 9) : RK T S' SM' := by
  obtain ⟨kb, h1, h2, h3⟩ := h
  refine ⟨kb, h1, by rw [e0]; exact h2, fun k hk => ?_⟩
  rw [e8, e9]
  exact ⟨(h3 k hk).1, fun c => ((h3 k hk).2 c).eq E (fun c h1 h2 => e c (by omega) (by omega))⟩
theorem RT.eq {SM' : St} (h : RT SX SM) (e1 : S'.1 1 2 = SX.1 1 2) (e2 : S'.1 2 = SX.1 2) (e3 : SM'.1 0 9 = SM.1 0 9) (e4 : SM'.1 4 = SM.1 4) : RT S' SM' := by
  unfold RT; rw [e1, e2, e3, e4]; exact h
theorem RS.eq {SM' : St} (h : RS T SM) (e0 : SM'.1 0 1 = SM.1 0 1 ∧ SM'.1 0 3 = SM.1 0 3 ∧ SM'.1 0 6 = SM.1 0 6 ∧ SM'.1 0 7 = SM.1 0 7 ∧ SM'.1 0 8 = SM.1 0 8) (e1 : SM'.1 1 = SM.1 1) (e2 : SM'.1 2 = SM.1 2) (e3 : SM'.1 3 = SM.1 3) : RS T SM' := by
  unfold RS; rw [e0.1, e0.2.1, e0.2.2.1, e0.2.2.2.1, e0.2.2.2.2, e1, e2, e3]; exact h
theorem o_erase : ob_erase Rel := by
  intro SX SM R
  unfold q_X8_erase q_X9_erase
  simp only [all_eq]
  obtain ⟨T, E, X, C, S, hl, ⟨⟨len, l1, l2, l3⟩, t2⟩, d0, d1, rk, q0, q1⟩ := R
  refine ⟨by rw [l2, l3], T, ?_, X, C, ?_, ?_, ?_, ?_, ?_, ?_, ?_, ?_⟩
  · intro c h1 h2; rw [sI_ne _ _ _ _ (by omega)]; exact E c h1 h2
  · refine S.eq ⟨?_, ?_, ?_, ?_, ?_⟩ (sI_ne _ _ _ _ (by omega)) (sI_ne _ _ _ _ (by omega)) (sI_ne _ _ _ _ (by omega)) <;> rw [sI_1, if_pos rfl, if_neg (by omega)]
  · rw [sI_1, if_pos rfl, if_neg (by omega)]; exact hl
  · refine ⟨⟨0, by omega, by rw [sI_1, if_pos rfl, if_pos rfl], by rw [sI_1, if_pos rfl, if_pos rfl]⟩, fun i hi => ?_⟩
    rw [sI_ne _ _ _ _ (by omega), sI_ne _ _ _ _ (by omega)]; exact t2 i hi
  · rw [sI_ne _ _ _ _ (by omega)]
    exact d0.eq (fun c h1 h2 => by rw [sI_ne _ _ _ _ (by omega)]; exact E c h1 h2) (fun c h1 h2 => sI_ne _ _ _ _ (by omega))
  · exact d1.eq (fun c h1 h2 => by rw [sI_ne _ _ _ _ (by omega)]; exact E c h1 h2) (fun c h1 h2 => sI_ne _ _ _ _ (by omega))
  · refine rk.eq (fun c h1 h2 => by rw [sI_ne _ _ _ _ (by omega)]; exact E c h1 h2) (by rw [sI_ne _ _ _ _ (by omega)]) (fun c h1 h2 => sI_ne _ _ _ _ (by omega)) (sI_ne _ _ _ _ (by omega)) (sI_ne _ _ _ _ (by omega))
  · rw [sI_ne SM _ _ _ (by omega)]
    exact q0.eq (sI_ne _ _ _ _ (by omega))
  · exact q1.eq (sI_ne _ _ _ _ (by omega))
theorem setA_ask {P k : Nat} {v : Int32} (hk : k < 6) : setA (upd f (7 + k) v) P = setA f P := by
  funext j
  unfold setA
  by_cases c : 7 ≤ j ∧ j < 13
  · rw [if_pos c, if_pos c]
  · rw [if_neg c, if_neg c, upd_n _ _ (by omega)]
theorem VV_ask {law : Int32} {m P k : Nat} {v : Int32} (hk : k < 6) : VV T law m (upd f (7 + k) v) P = VV T law m f P := by
  unfold VV
  rw [setA_ask hk, upd_n _ _ (by omega), sm6_eq (f := f) (fun j h1 h2 => upd_n _ _ (by omega))]
theorem DayR.ask (h : DayR T S 0 f) {k a : Nat} (hk : k < 6) (ha4 : a ≤ 3) : DayR T (sI S (33 + 7 * 0 + 1) k (nI a)) 0 (upd f (7 + k) (nI a)) := by
  obtain ⟨t, u, n, ht, ⟨-, ⟨E, c0, n0, hub, hu, ha, hask, hleft, hpos, hn⟩, p3, p4⟩, hup, h44, hN⟩ := h
  obtain ⟨f1, f2, n', f3, f4, f5, f6⟩ := p4 trivial
  refine ⟨t, u, n, ht, ⟨DayOnly.refl, ⟨E.sI (by omega), ?_, ?_, hub, fun j hj => ?_, fun j hj => ?_, fun j hj => ?_, fun s hs => ?_, fun s hs => ?_, ?_⟩, ?_, fun _ => ⟨fun j hj => ?_, ?_, n', f3, ?_, ?_, fun i hi => ?_⟩⟩, ?_, ?_, hN⟩
  · rw [sI_ne _ _ _ _ (by omega)]; exact c0
  · rw [upd_n _ _ (by omega)]; exact n0
  · rw [upd_n _ _ (by omega)]; exact hu j hj
  · by_cases c : j = k
    · rw [c, upd_s]; exact ⟨a, ha4, rfl⟩
    · rw [upd_n _ _ (by omega)]; exact ha j hj
  · rw [sI_1, if_pos rfl]
    by_cases c : j = k
    · rw [if_pos c, c, upd_s]
    · rw [if_neg c, upd_n _ _ (by omega)]; exact hask j hj
  · rw [sI_ne _ _ _ _ (by omega), upd_n _ _ (by omega)]; exact hleft s hs
  · rw [upd_n _ _ (by omega), upd_n _ _ (by omega)]; exact hpos s hs
  · rw [sI_ne _ _ _ _ (by omega)]; exact hn
  · rw [sI_ne _ _ _ _ (by omega), sm6_eq (f := f) (fun j h1 h2 => upd_n _ _ (by omega))]; exact p3
  · rw [sI_ne _ _ _ _ (by omega), sI_ne _ _ _ _ (by omega), sI_ne _ _ _ _ (by omega), upd_n _ _ (by omega), upd_n _ _ (by omega), upd_n _ _ (by omega)]; exact f1 j hj
  · rw [sI_ne _ _ _ _ (by omega), upd_n _ _ (by omega)]; exact f2
  · rw [sI_ne _ _ _ _ (by omega)]; exact f4
  · rw [upd_n _ _ (by omega)]; exact f5
  · rw [sI_ne _ _ _ _ (by omega)]; exact noteP_of (f6 i hi) (fun j h1 h2 => upd_n _ _ (by omega))
  · rw [sI_ne _ _ _ _ (by omega)]; exact hup
  · rw [upd_n _ _ (by omega)]; exact h44
theorem sI_row (S : St) (c k : Nat) (v : Int32) : (sI S c k v).1 c = upd (S.1 c) k v := by
  funext j
  rw [sI_1, if_pos rfl]; rfl
theorem o_ask : ob_ask Rel := by
  intro SX SM R a1 a2
  unfold q_X8_ask q_X9_ask
  simp only [f_X4_isToldKite, f_X9_isKt R, f_X9_in, bbr, all_eq]
  by_cases c1 : isKt SX a1
  · simp only [pif_t c1]
    obtain ⟨k, hk, rfl, -⟩ := c1
    rcases ixN a2 (n := 4) (by omega) with c2 | c2 | ⟨a, ha, rfl⟩
    · simp only [and_if c2, pif_f (fun q : inR a2 (nI 0) (nI 3) => q.1 c2)]
      exact ⟨trivial, R⟩
    · have c3 : ¬ a2 < nI 0 := by
        rw [tI_lt, nI_toInt (by omega)]; rw [tI_le, nI_toInt (by omega)] at c2; omega
      have c4 : ¬ a2 < nI 4 := by
        rw [tI_lt, nI_toInt (by omega)]; rw [tI_le, nI_toInt (by omega)] at c2; omega
      have c5 : ¬ inR a2 (nI 0) (nI 3) := fun q => by
        apply q.2
        rw [tI_lt, nI_toInt (by omega)]; rw [tI_le, nI_toInt (by omega)] at c2; omega
      simp only [and_nif c3, and_nif c4, pif_f c5]
      exact ⟨trivial, R⟩
    · simp only [and_nif (nI_p (show a < 2 ^ 31 by omega)), pif_t (inR_nI (show a ≤ 3 by omega) (by omega)), nI_add]
      simp (disch := omega) only [nlt, ncl]
      rw [and_if (by omega)]
      refine ⟨vp_in_nI (by omega) (by omega), vp_in_nI (by omega) (by omega), vp_in_nI (by omega) (by omega), vp_in_nI (by omega) (by omega), ?_⟩
      obtain ⟨T, E, X, C, S, hl, rt, d0, d1, rk, q0, q1⟩ := R
      refine ⟨?_, T, ?_, X, C, ?_, ?_, ?_, ?_, ?_, ?_, ?_, ?_⟩
      · obtain ⟨t, u, n, ht, p, -⟩ := d0
        exact p.2.1.2.2.2.2.2.2.1 k hk
      · exact E.sI (by omega)
      · refine S.eq ⟨?_, ?_, ?_, ?_, ?_⟩ (sI_ne _ _ _ _ (by omega)) (sI_ne _ _ _ _ (by omega)) (sI_ne _ _ _ _ (by omega)) <;> rw [sI_ne _ _ _ _ (by omega)]
      · rw [sI_ne _ _ _ _ (by omega)]; exact hl
      · exact rt.eq (by rw [sI_ne _ _ _ _ (by omega)]) (sI_ne _ _ _ _ (by omega)) (by rw [sI_ne _ _ _ _ (by omega)]) (sI_ne _ _ _ _ (by omega))
      · rw [sI_row]; exact d0.ask hk (by omega)
      · exact d1.eq (E.sI (by omega)) (fun c h1 h2 => sI_ne _ _ _ _ (by omega))
      · exact rk.eq (E.sI (by omega)) (by rw [sI_ne _ _ _ _ (by omega)]) (fun c h1 h2 => sI_ne _ _ _ _ (by omega)) (sI_ne _ _ _ _ (by omega)) (sI_ne _ _ _ _ (by omega))
      · rw [sI_row]
        have := q0.eq (S' := sI SX (33 + 7 * 0 + 1) k (nI a)) (sI_ne _ _ _ _ (by omega))
        unfold RQ at this ⊢
        simp only [VV_ask hk]
        exact this
      · exact q1.eq (sI_ne _ _ _ _ (by omega))
  · simp only [pif_f c1]
    exact ⟨trivial, R⟩
end FR
