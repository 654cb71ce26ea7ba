/-! ===== the class's bounds ===== -/
def BD (T : St) (law : Int32) (m t : Nat) (f : Nat → Int32) (k h : Nat) (v : Int32) : Prop :=
  (v = -1 ∧ 1 ≤ h ∧ ∀ P, hOf P k = h → ∀ i, i < m → ¬ rU T (nHs T law i t (setA f P)) (t + i) k) ∨ (∃ b, b ≤ 396 ∧ v = nI b ∧ ∀ P, hOf P k = h → gk T law m t f P k ≤ b)
theorem bI_F : nI 0 = bI False := (bI_f (fun q => q)).symm
theorem bI_T : nI 1 = bI True := (bI_t trivial).symm
theorem mnI {a b : Nat} (ha : a < 2 ^ 31) (hb : b < 2 ^ 31) : (if nI a < nI b then nI a else nI b) = nI (min a b) := by
  by_cases c : a < b
  · rw [if_pos ((nlt _ _ ha hb).mpr c), Nat.min_eq_left (by omega)]
  · rw [if_neg (fun q => c ((nlt _ _ ha hb).mp q)), Nat.min_eq_right (by omega)]
section BN
variable {T S : St} {law : Int32} {t G d3 m : Nat} {N L : Nat → Nat} {f : Nat → Int32} {k h : Nat} {K : Int32 → Prop}
theorem fiN_le (hL : LF f L) (b : Nat) : fiN L b ≤ 396 := by
  have b0 := (hL 0 (by omega)).2
  have b1 := (hL 1 (by omega)).2
  have b2 := (hL 2 (by omega)).2
  have b3 := (hL 3 (by omega)).2
  have d : ∀ s, (if b.testBit s = true then L s else 0) ≤ L s := fun s => by
    by_cases c : b.testBit s = true
    · rw [if_pos c]; omega
    · rw [if_neg c]; omega
  have d0 := d 0
  have d1 := d 1
  have d2 := d 2
  have d3 := d 3
  unfold fiN
  omega
theorem BI_end {p w : Prop} {sm mt : Nat} (hh : 1 ≤ h) (hm : m ≤ 12) (I : BI T law t f L k h m p w sm mt) : BD T law m t f k h (@ite Int32 w (Classical.propDecidable _) (nI (min (fiN L mt) sm)) (-1)) := by
  obtain ⟨i1, i2, i3⟩ := I
  by_cases c : w
  · rw [if_pos c]
    refine Or.inr ⟨_, by omega, rfl, fun P hP => ?_⟩
    obtain ⟨g, L', j1, j2, j3, j4, j5, j6, j7, j8⟩ := i3 P hP
    rw [gk_of j1 (by omega)]
    omega
  · rw [if_neg c]
    refine Or.inl ⟨rfl, hh, fun P hP => ?_⟩
    obtain ⟨g, L', j1, j2, j3, j4, j5, j6, j7, j8⟩ := i3 P hP
    exact j8 c
theorem X_bndL (E : SeaEq S T) (C : RC T) (X : XR T) (hN : RN T N G) (hL : LF f L) (hk : k < 6) (h1 : 1 ≤ h) (h3 : h ≤ 3) (hS0 : S.1 (33 + 7 * d3) 0 = nI t) (hS5 : ∀ s, s < 4 → S.1 (33 + 7 * d3 + 5) s = nI (L s)) (htm : t + m ≤ 12) (hK : ∀ v, BD T law m t f k h v → K v) :
    ∀ n i p w sm mt, i + n = m → BI T law t f L k h i p w sm mt → q_X5_boundOf_36 d3 (nI k) (nI h) (nI m) S K (n + 1) (bI p) (bI w) (nI sm) (nI mt) (nI (3 * N k)) (nI i) := by
  intro n
  induction n with
  | zero =>
    intro i p w sm mt hi I
    rw [q_X5_boundOf_36_s, nle _ _ (by omega) (by omega), and_if (by omega)]
    rw [show i = m by omega] at I
    have hB := BI_end h1 (by omega) I
    have i1 := I.1
    have i2 := I.2.1
    have hle := fiN_le hL mt
    unfold q_X5_boundOf_168
    rw [bbr]
    by_cases c : w
    · rw [pif_t c]
      rw [if_pos c] at hB
      refine X_fishIn i1 hS5 ?_
      rw [mnI (by omega) (by omega)]
      exact hK _ hB
    · rw [pif_f c]
      rw [if_neg c] at hB
      exact hK _ hB
  | succ n ih =>
    intro i p w sm mt hi I
    rw [q_X5_boundOf_36_s, nle _ _ (by omega) (by omega), and_nif (by omega), hS0, nI_add, nle _ _ (by omega) (by omega), and_nif (by omega), all_eq]
    have hno : ¬ (frP T k h (t + i) ∧ (hasB (T.1 4 6) (t + i) → p) ∧ ¬ T.1 4 5 < T.1 (9 + k) 3) → q_X5_boundOf_112 d3 (nI k) (nI h) (nI m) S K (q_X5_boundOf_36 d3 (nI k) (nI h) (nI m) S K (n + 1)) (bI w) (nI sm) (nI mt) (nI (3 * N k)) (nI i) (nI (t + i)) := fun q => by
      unfold q_X5_boundOf_112 q_X5_boundOf_113 q_X5_boundOf_162
      rw [and_if rfl, all_eq, nI_add, bI_F]
      exact ih (i + 1) False w sm mt (by omega) (BI_no X hN hk I q)
    have hyes : frP T k h (t + i) → (hasB (T.1 4 6) (t + i) → p) → q_X5_boundOf_90 d3 (nI k) (nI h) (nI m) S K (q_X5_boundOf_36 d3 (nI k) (nI h) (nI m) S K (n + 1)) (bI w) (nI sm) (nI mt) (nI (3 * N k)) (nI i) (nI (t + i)) := fun q1 q2 => by
      unfold q_X5_boundOf_90
      refine ⟨vp_in_nI (by omega) (by omega), ?_⟩
      rw [ncl _ (by omega), E 4 (by omega) (by omega), E (9 + k) (by omega) (by omega)]
      refine ⟨fun q3 => hno (fun q4 => q4.2.2 q3), fun q3 => ?_⟩
      unfold q_X5_boundOf_113
      rw [and_nif (by decide), f_X0_met E hk h3 (by omega)]
      obtain ⟨m0, e1, e2, e3⟩ := ((C k h hk h3).2 (t + i) (by omega)).1
      rw [e2, all_eq, nI_or]
      refine X_fishIn e1 hS5 ?_
      have hle := fiN_le hL m0
      have hN9 := (hN.1 k hk).2
      rw [mnI (by omega) (by omega), f_ag (by rw [E 4 (by omega) (by omega)]; exact hN.2.1) hN.2.2 (by omega), all_eq, nI_add]
      unfold q_X5_boundOf_162
      rw [all_eq, nI_add, Nat.min_comm, bI_T]
      exact ih (i + 1) True True _ _ (by omega) (BI_up X hN hL hk e1 e3 I q1)
    rw [f_X0_isFree E C hk h3 (by omega), bbr]
    by_cases c1 : frP T k h (t + i)
    · rw [pif_t c1, bbr]
      refine ⟨fun cp => ?_, fun cp => hyes c1 (fun _ => cp)⟩
      rw [f_X4_isFoggy, bbr, E 4 (by omega) (by omega)]
      exact ⟨fun cf => hyes c1 (fun q => absurd q cf), fun cf => hno (fun q => cp (q.2.1 cf))⟩
    · rw [pif_f c1]
      exact hno (fun q => c1 q.1)
theorem X_bnd {u : Nat} (C : RC T) (X : XR T) (hN : RN T N G) (hL : LF f L) (hk : k < 6) (h1 : 1 ≤ h) (h3 : h ≤ 3) (D : CD T S d3 t u f) (hup : S.1 (33 + 7 * d3) 1 = nI u) (htm : t + m ≤ 12) (hK : ∀ v, BD T law m t f k h v → K v) : q_X5_boundOf d3 S (nI k) (nI h) (nI m) K := by
  obtain ⟨E, c0, n0, hub, hu, ha, hask, hleft, hpos, hn⟩ := D
  unfold q_X5_boundOf
  rw [f_X8_isIn, hup, all_eq, ncl _ (by omega), E (9 + k) (by omega) (by omega), (hN.1 k hk).1, pk_mul]
  refine ⟨vp_in_nI (by omega) (by omega), m + 1, ?_⟩
  have h0 := X_bndL (d3 := d3) (law := law) (m := m) E C X hN hL hk h1 h3 c0 (fun s hs => by rw [(hleft s hs).1]; exact (hL s hs).1) htm hK m 0 (hasB (nI u) k) False 0 0 (by omega) ⟨by omega, by omega, fun P hP => ⟨0, L, ?_, LF_set hL P, fun s hs => Nat.le_refl _, fun s hs => ?_, fun q => ?_, by omega, by omega, fun _ j hj => by omega⟩⟩
  · rw [← bI_F] at h0
    exact h0
  · show setA f P (13 + k) = _
    rw [setA_n (by omega), a0]
  · show setA f P (31 + s) = sxX T s (t + 0) ∧ setA f P (35 + s) = syX T s (t + 0)
    rw [setA_n (by omega), setA_n (by omega), Nat.add_zero]
    exact hpos s hs
  · have q : setA f P (1 + k) = nI 1 := q
    rw [setA_n (by omega), hu k hk, bI_1] at q
    rw [hasB_nI (by omega) (by omega)]
    exact q
theorem BD_0 (hN : RN T N G) (hL : LF f L) (hk : k < 6) : BD T law m t f k 0 (nI 0) := by
  refine Or.inr ⟨0, by omega, rfl, fun P hP => ?_⟩
  have dead : ∀ i, ¬ rU T (nHs T law i t (setA f P)) (t + i) k := fun i => rU_zero (by rw [nHs_ask i hk, setA_at hk, hP])
  have h : ∀ m, nHs T law m t (setA f P) (13 + k) = f (13 + k) + nI 0 ∧ ∃ L', LF (nHs T law m t (setA f P)) L' := by
    intro m
    induction m with
    | zero => exact ⟨by show setA f P (13 + k) = _; rw [setA_n (by omega), a0], L, LF_set hL P⟩
    | succ m ih =>
      obtain ⟨i1, L', i2⟩ := ih
      obtain ⟨a, a1, a2, a3⟩ := nHour_spec (t := t + m) (law := law) hN i2
      have z : ∀ s, s < 4 → a k s = 0 := fun s hs => by
        by_cases c : a k s = 0
        · exact c
        · exact absurd (nFind_up1 hk (a1 k s hk hs c).1) (dead m)
      rw [nHs_s]
      refine ⟨?_, fun s => L' s - (a 0 s + a 1 s + a 2 s + a 3 s + a 4 s + a 5 s), fun s hs => ⟨(a3 s hs).2, ?_⟩⟩
      · rw [(a2 k hk).2, i1, z 0 (by omega), z 1 (by omega), z 2 (by omega), z 3 (by omega), gvN_0, a0]
      · have := (i2 s hs).2
        show L' s - _ ≤ 99
        omega
  rw [gk_of (h m).1 (by omega)]
  omega
end BN
