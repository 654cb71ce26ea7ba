/-! ===== keep, back ===== -/
theorem cpy_lt {f g : Nat → Int32} {n j : Nat} (h : j < n) : va_cpy f g 0 0 n j = f j := by
  unfold va_cpy; rw [if_pos ⟨Nat.zero_le _, by omega⟩, Nat.sub_zero, Nat.zero_add]
/-- day d is now as day d1 was -/
def CopyD (S S' : St) (d d1 : Nat) : Prop := (∀ c, c < 33 + 7 * d ∨ 33 + 7 * d + 6 < c → S'.1 c = S.1 c) ∧ S'.2 = S.2 ∧
  (∀ j, j < 5 → S'.1 (33 + 7 * d) j = S.1 (33 + 7 * d1) j) ∧ (∀ j, j < 6 → S'.1 (33 + 7 * d + 1) j = S.1 (33 + 7 * d1 + 1) j ∧ S'.1 (33 + 7 * d + 2) j = S.1 (33 + 7 * d1 + 2) j ∧ S'.1 (33 + 7 * d + 3) j = S.1 (33 + 7 * d1 + 3) j ∧ S'.1 (33 + 7 * d + 4) j = S.1 (33 + 7 * d1 + 4) j) ∧
  (∀ j, j < 4 → S'.1 (33 + 7 * d + 5) j = S.1 (33 + 7 * d1 + 5) j) ∧ (∀ j, j < 288 → S'.1 (33 + 7 * d + 6) j = S.1 (33 + 7 * d1 + 6) j)
theorem X_become {d d1 : Nat} {S : St} {K : St → Prop} (hd : d ≠ d1) (h : ∀ S', CopyD S S' d d1 → K S') : q_X1_become d d1 S K := by
  unfold q_X1_become q_X1_resume
  simp only [all_eq]
  apply h
  refine ⟨fun c hc => ?_, rfl, fun j hj => ?_, fun j hj => ⟨?_, ?_, ?_, ?_⟩, fun j hj => ?_, fun j hj => ?_⟩
  · simp (disch := omega) only [sI_ne, sF_ne]
  · simp (disch := omega) only [sI_ne, sF_ne, sI_row]
    rcases (show j = 0 ∨ j = 1 ∨ j = 2 ∨ j = 3 ∨ j = 4 by omega) with rfl | rfl | rfl | rfl | rfl <;> simp (disch := omega) only [upd_n, upd_s]
  · simp (disch := omega) only [sI_ne, sF_ne, sF_self, cpy_lt, ncl]
  · simp (disch := omega) only [sI_ne, sF_ne, sF_self, cpy_lt, ncl]
  · simp (disch := omega) only [sI_ne, sF_ne, sF_self, cpy_lt, ncl]
  · simp (disch := omega) only [sI_ne, sF_ne, sF_self, cpy_lt, ncl]
  · simp (disch := omega) only [sI_ne, sF_ne, sF_self, cpy_lt, ncl]
  · simp (disch := omega) only [sI_ne, sF_ne, sF_self, cpy_lt, ncl]
theorem DayR.copy {T S S' : St} {d d1 : Nat} {f : Nat → Int32} (h : DayR T S d1 f) (k : CopyD S S' d d1) (E : SeaEq S' T) : DayR T S' d f := by
  obtain ⟨t, u, n, ht, ⟨-, ⟨-, c0, n0, hub, hu, ha, hask, hleft, hpos, ⟨m, hm, e4⟩⟩, p3, p4⟩, hup, h44, hN⟩ := h
  obtain ⟨f1, f2, n', f3, f4, f5, f6⟩ := p4 trivial
  obtain ⟨-, -, k3, k4, k5, k6⟩ := k
  refine ⟨t, u, n, ht, ⟨DayOnly.refl, ⟨E, ?_, n0, hub, hu, ha, fun k hk => ?_, fun s hs => ?_, hpos, ⟨m, hm, ?_⟩⟩, ?_, fun _ => ⟨fun k hk => ?_, ?_, n', f3, ?_, f5, fun i hi => ?_⟩⟩, ?_, h44, hN⟩
  · rw [k3 _ (by omega)]; exact c0
  · rw [(k4 k hk).1]; exact hask k hk
  · rw [k5 s hs]; exact hleft s hs
  · rw [k3 _ (by omega)]; exact e4
  · rw [k3 _ (by omega)]; exact p3
  · rw [(k4 k hk).2.1, (k4 k hk).2.2.1, (k4 k hk).2.2.2]; exact f1 k hk
  · rw [k3 _ (by omega)]; exact f2
  · rw [k3 _ (by omega)]; exact f4
  · rw [k6 i (by omega)]; exact f6 i hi
  · rw [k3 _ (by omega)]; exact hup
def cpR (S : St) (cf ct p q i : Nat) : Nat → Int32 := fun j => if q ≤ j ∧ j < q + i then S.1 cf (p + (j - q)) else S.1 ct j
theorem M_copyL {S : St} {cf nf ct nt p q : Nat} {k : St → Prop} (hne : cf ≠ ct) (h1 : p + 1197 ≤ nf) (h2 : q + 1197 ≤ nt) (hf : nf < 2 ^ 30) (ht : nt < 2 ^ 30) (hK : k (sF S ct (cpR S cf ct p q 1197))) :
    ∀ m i, i + m = 1197 → q_X9_copy_3 cf nf ct nt (nI p) (nI q) k (m + 1) (sF S ct (cpR S cf ct p q i)) (nI i) := by
  intro m
  induction m with
  | zero => intro i hi; rw [q_X9_copy_3_s, nle _ _ (by omega) (by omega), and_if (by omega), show i = 1197 by omega]; exact hK
  | succ m ih =>
    intro i hi
    rw [q_X9_copy_3_s, nle _ _ (by omega) (by omega), and_nif (by omega), nI_add, nI_add, all_eq, all_eq, nI_add]
    refine ⟨vp_in_nI (by omega) (by omega), vp_in_nI (by omega) (by omega), ?_⟩
    rw [ncl _ (by omega), ncl _ (by omega), sF_ne _ _ _ hne, sI_sF]
    have e : upd (cpR S cf ct p q i) (q + i) (S.1 cf (p + i)) = cpR S cf ct p q (i + 1) := by
      funext j
      unfold cpR
      by_cases c : j = q + i
      · subst c
        rw [upd_s, if_pos (by omega), show q + i - q = i by omega]
      · rw [upd_n _ _ c]
        by_cases c2 : q ≤ j ∧ j < q + i
        · rw [if_pos c2, if_pos (by omega)]
        · rw [if_neg c2, if_neg (by omega)]
    rw [e]
    exact ih (i + 1) (by omega)
theorem M_copy {S : St} {cf nf ct nt p q : Nat} {k : St → Prop} (hne : cf ≠ ct) (h1 : p + 1197 ≤ nf) (h2 : q + 1197 ≤ nt) (hf : nf < 2 ^ 30) (ht : nt < 2 ^ 30) (hK : k (sF S ct (cpR S cf ct p q 1197))) : q_X9_copy cf nf ct nt S (nI p) (nI q) k := by
  refine ⟨1198, ?_⟩
  have h := M_copyL hne h1 h2 hf ht hK 1197 0 (by omega)
  have e : cpR S cf ct p q 0 = S.1 ct := by funext j; unfold cpR; rw [if_neg (by omega)]
  rw [e, sF_id] at h
  exact h
section KB
variable {SX SM : St}
theorem ix2 (a : Int32) : (a < nI 0) ∨ (¬ a < nI 0 ∧ ¬ a < nI 2 ∧ ¬ inR a (nI 0) (nI 1)) ∨ ∃ k, k < 2 ∧ a = nI k := by
  rcases ixN a (n := 2) (by omega) with c | c | h
  · exact Or.inl c
  · refine Or.inr (Or.inl ⟨?_, ?_, fun q => q.2 ?_⟩) <;> rw [tI_lt, nI_toInt (by omega)] <;> rw [tI_le, nI_toInt (by omega)] at c <;> omega
  · exact Or.inr (Or.inr h)
theorem o_keep : ob_keep Rel := by
  intro SX SM R a1
  unfold q_X8_keep q_X9_keep
  simp only [f_X9_in, bbr, all_eq]
  rcases ix2 a1 with c | ⟨c1, c2, c3⟩ | ⟨k, hk, rfl⟩
  · simp only [and_if c, pif_f (fun q : inR a1 (nI 0) (nI 1) => q.1 c)]
    exact ⟨trivial, R⟩
  · simp only [and_nif c1, and_nif c2, pif_f c3]
    exact ⟨trivial, R⟩
  · have c1 := nI_p (show k < 2 ^ 31 by omega)
    have c2 : nI k < nI 2 := by rw [nlt _ _ (by omega) (by omega)]; exact hk
    have c3 : inR (nI k) (nI 0) (nI 1) := inR_nI (by omega) (by omega)
    simp only [and_nif c1, and_if c2, pif_t c3, pk_mul]
    refine ⟨vp_in_nI hk (by omega), ?_⟩
    rw [ncl _ (by omega)]
    refine X_become (by omega) (fun S' kd => ?_)
    refine M_copy (by omega) (by omega) (by omega) (by omega) (by omega) ?_
    refine ⟨vp_in_nI hk (by omega), ?_⟩
    obtain ⟨T, E, X, C, S, hl, rt, d0, d1, ⟨kb, b1, b2, b3⟩, q0, q1⟩ := R
    have kc := kd.1
    have E1 : SeaEq S' T := fun c h1 h2 => by rw [kc c (by omega)]; exact E c h1 h2
    have E' : SeaEq (sI S' 0 7 (S'.1 0 7 ||| (nI 1 <<< (nI k &&& 31)))) T := fun c h1 h2 => by rw [sI_ne _ _ _ _ (by omega)]; exact E1 c h1 h2
    simp (disch := omega) only [ncl]
    have e6 : ∀ g v, (sI (sF SM 8 g) 9 k v).1 6 = SM.1 6 := fun g v => by rw [sI_ne _ _ _ _ (by omega), sF_ne _ _ _ (by omega)]
    have e8 : ∀ g v, (sI (sF SM 8 g) 9 k v).1 8 = g := fun g v => by rw [sI_ne _ _ _ _ (by omega), sF_self]
    refine ⟨?_, T, E', X, C, ?_, ?_, ?_, ?_, ?_, ?_, ?_, ?_⟩
    · rw [sI_ne _ _ _ _ (by omega), sI_ne _ _ _ _ (by omega), sF_ne _ _ _ (by omega), kc _ (by omega)]
      obtain ⟨t, u, n, ht, p, -⟩ := d0
      rw [p.2.1.2.1, p.2.1.2.2.1]
    · refine S.eq ⟨?_, ?_, ?_, ?_, ?_⟩ ?_ ?_ ?_ <;> rw [sI_ne _ _ _ _ (by omega), sF_ne _ _ _ (by omega)]
    · rw [sI_ne _ _ _ _ (by omega), sF_ne _ _ _ (by omega)]; exact hl
    · refine rt.eq ?_ ?_ ?_ ?_
      · rw [sI_ne _ _ _ _ (by omega), kc _ (by omega)]
      · rw [sI_ne _ _ _ _ (by omega), kc _ (by omega)]
      · rw [sI_ne _ _ _ _ (by omega), sF_ne _ _ _ (by omega)]
      · rw [sI_ne _ _ _ _ (by omega), sF_ne _ _ _ (by omega)]
    · rw [e6]
      exact d0.eq E' (fun c h1 h2 => by rw [sI_ne _ _ _ _ (by omega), kc _ (by omega)])
    · exact d1.eq E' (fun c h1 h2 => by rw [sI_ne _ _ _ _ (by omega), kc _ (by omega)])
    · refine ⟨kb ||| 2 ^ k, ?_, ?_, fun j hj => ?_⟩
      · exact Nat.or_lt_two_pow (n := 2) b1 (Nat.pow_lt_pow_right (by omega) hk)
      · rw [sI_1, if_pos rfl, if_pos rfl, kc _ (by omega), b2, shl1 k (by omega), nI_or]
      · rw [e8, sI_1, if_pos rfl, Nat.testBit_or, Nat.testBit_two_pow]
        by_cases e : j = k
        · subst e
          rw [if_pos rfl]
          refine ⟨(bI_t (by simp)).symm, fun _ => ?_⟩
          have dd := (d0.copy kd E1).eqf (g := fun i => cpR SM 6 8 0 (1197 * j) 1197 (1197 * j + i)) (fun i hi => by
            show cpR SM 6 8 0 (1197 * j) 1197 (1197 * j + i) = SM.1 6 i
            unfold cpR
            rw [if_pos (by omega), show 0 + (1197 * j + i - 1197 * j) = i by omega])
          exact dd.eq E' (fun c h1 h2 => sI_ne _ _ _ _ (by omega))
        · rw [if_neg e, sF_ne _ _ _ (by omega), (b3 j hj).1]
          refine ⟨bI_c (by simp [Ne.symm e]), fun c => ?_⟩
          have cj : kb.testBit j = true := by simpa [Ne.symm e] using c
          have dd := (((b3 j hj).2 cj).eq (S' := sI S' 0 7 (S'.1 0 7 ||| (nI 1 <<< (nI k &&& 31)))) E' (fun c h1 h2 => by rw [sI_ne _ _ _ _ (by omega), kc _ (by omega)]))
          exact dd.eqf (fun i hi => by
            show cpR SM 6 8 0 (1197 * k) 1197 (1197 * j + i) = SM.1 8 (1197 * j + i)
            unfold cpR
            rw [if_neg (by omega)])
    · rw [e6]; exact q0.eq (by rw [sI_ne _ _ _ _ (by omega), kc _ (by omega)])
    · exact q1.eq (by rw [sI_ne _ _ _ _ (by omega), kc _ (by omega)])
theorem o_back : ob_back Rel := by
  intro SX SM R a1
  unfold q_X8_back q_X9_back
  simp only [f_X9_in, bbr, all_eq]
  rcases ix2 a1 with c | ⟨c1, c2, c3⟩ | ⟨k, hk, rfl⟩
  · simp only [and_if c, pif_f (fun q : inR a1 (nI 0) (nI 1) => q.1 c)]
    exact ⟨trivial, R⟩
  · simp only [and_nif c1, and_nif c2, pif_f c3]
    exact ⟨trivial, R⟩
  · have c1 := nI_p (show k < 2 ^ 31 by omega)
    have c2 : nI k < nI 2 := by rw [nlt _ _ (by omega) (by omega)]; exact hk
    have c3 : inR (nI k) (nI 0) (nI 1) := inR_nI (by omega) (by omega)
    have R0 := R
    obtain ⟨T, E, X, C, S, hl, rt, d0, d1, ⟨kb, b1, b2, b3⟩, q0, q1⟩ := R
    obtain ⟨b4, b5⟩ := b3 k hk
    have hb := hasB_nI (n := kb) (k := k) (by omega) (by omega)
    simp (disch := omega) only [and_nif c1, and_if c2, pif_t c3, pk_mul, f_X8_isIn, bbr, b2, hb, ncl, b4]
    refine ⟨fun c => ⟨vp_in_nI hk (by omega), ?_⟩, fun c => ⟨vp_in_nI hk (by omega), ?_⟩⟩
    · rw [pif_f c]; exact ⟨trivial, R0⟩
    · refine X_become (by omega) (fun S' kd => ?_)
      unfold q_X5_forget
      rw [all_eq]
      refine ⟨vp_in_nI hk (by omega), ?_⟩
      rw [pif_t c]
      refine M_copy (by omega) (by omega) (by omega) (by omega) (by omega) ?_
      have kc := kd.1
      have E1 : SeaEq S' T := fun c h1 h2 => by rw [kc c (by omega)]; exact E c h1 h2
      have E' : SeaEq (sI S' (24 + 3 * 0) 0 (nI 0)) T := E1.sI (by omega)
      have dd := ((b5 c).copy kd E1).eqf (g := cpR SM 8 6 (1197 * k) 0 1197) (fun i hi => by
            unfold cpR
            rw [if_pos (by omega), Nat.sub_zero])
      refine ⟨?_, T, E', X, C, RS_sF S _, ?_, ?_, ?_, ?_, ?_, ?_, ?_⟩
      · rw [sI_ne _ _ _ _ (by omega), sF_self]
        obtain ⟨t, u, n, ht, p, -⟩ := dd
        rw [p.2.1.2.1, p.2.1.2.2.1]
      · rw [sF_ne _ _ _ (by omega)]; exact hl
      · refine rt.eq ?_ ?_ ?_ ?_
        · rw [sI_ne _ _ _ _ (by omega), kc _ (by omega)]
        · rw [sI_ne _ _ _ _ (by omega), kc _ (by omega)]
        · rw [sF_ne _ _ _ (by omega)]
        · rw [sF_ne _ _ _ (by omega)]
      · rw [sF_self]
        exact dd.eq E' (fun c h1 h2 => sI_ne _ _ _ _ (by omega))
      · exact d1.eq E' (fun c h1 h2 => by rw [sI_ne _ _ _ _ (by omega), kc _ (by omega)])
      · refine RK.eq ⟨kb, b1, b2, b3⟩ E' ?_ (fun c h1 h2 => ?_) (sF_ne _ _ _ (by omega)) (sF_ne _ _ _ (by omega))
        · rw [sI_ne _ _ _ _ (by omega), kc _ (by omega)]
        · rw [sI_ne _ _ _ _ (by omega), kc _ (by omega)]
      · left; rw [sI_1, if_pos rfl, if_pos rfl]
      · exact q1.eq (by rw [sI_ne _ _ _ _ (by omega), kc _ (by omega)])
end KB
