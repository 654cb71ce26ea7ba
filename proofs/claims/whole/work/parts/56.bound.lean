/-! ===== bounds of the search ===== -/
noncomputable def gk (T : St) (law : Int32) (m t : Nat) (f : Nat → Int32) (P k : Nat) : Nat := (nHs T law m t (setA f P) (13 + k) - f (13 + k)).toNatClampNeg
theorem add_sub_s (a b : Int32) : a + b - a = b := by
  rw [Int32.sub_eq_add_neg, Int32.add_comm a b, Int32.add_assoc, ← Int32.sub_eq_add_neg, Int32.sub_self, Int32.add_zero]
theorem gk_of {T : St} {law : Int32} {m t P k g : Nat} {f : Nat → Int32} (h : nHs T law m t (setA f P) (13 + k) = f (13 + k) + nI g) (hg : g < 2 ^ 31) : gk T law m t f P k = g := by
  unfold gk
  rw [h, add_sub_s, ncl _ hg]
theorem LF_set {f : Nat → Int32} {L : Nat → Nat} (h : LF f L) (P : Nat) : LF (setA f P) L := fun s hs => by rw [setA_n (by omega)]; exact h s hs
theorem gk_spec {T : St} {N : Nat → Nat} {G : Nat} {L : Nat → Nat} {law : Int32} {m t P : Nat} {f : Nat → Int32} (X : RN T N G) (hL : LF f L) :
    (∀ k, k < 6 → nHs T law m t (setA f P) (13 + k) = f (13 + k) + nI (gk T law m t f P k)) ∧ gk T law m t f P 0 + gk T law m t f P 1 + gk T law m t f P 2 + gk T law m t f P 3 + gk T law m t f P 4 + gk T law m t f P 5 ≤ 396 := by
  obtain ⟨g, L', h1, h2, h3⟩ := nHs_gain (t := t) (law := law) X (LF_set hL P) m
  have b0 := (hL 0 (by omega)).2
  have b1 := (hL 1 (by omega)).2
  have b2 := (hL 2 (by omega)).2
  have b3 := (hL 3 (by omega)).2
  have e : ∀ k, k < 6 → gk T law m t f P k = g k := fun k hk => gk_of (by rw [h1 k hk, setA_n (by omega)]) (by
    rcases (show k = 0 ∨ k = 1 ∨ k = 2 ∨ k = 3 ∨ k = 4 ∨ k = 5 by omega) with rfl | rfl | rfl | rfl | rfl | rfl <;> omega)
  refine ⟨fun k hk => ?_, ?_⟩
  · rw [h1 k hk, setA_n (by omega), e k hk]
  · rw [e 0 (by omega), e 1 (by omega), e 2 (by omega), e 3 (by omega), e 4 (by omega), e 5 (by omega)]
    omega
theorem VV_gk {T : St} {N : Nat → Nat} {G : Nat} {L : Nat → Nat} {law : Int32} {m t P : Nat} {f : Nat → Int32} (X : RN T N G) (hL : LF f L) (h0 : f 0 = nI t) (ht : t ≤ 12) :
    VV T law m f P = nI (gk T law m t f P 0 + gk T law m t f P 1 + gk T law m t f P 2 + gk T law m t f P 3 + gk T law m t f P 4 + gk T law m t f P 5) := by
  unfold VV
  rw [h0, ncl _ (by omega), sm6_add (gk_spec (law := law) (m := m) (t := t) (P := P) X hL).1, add_sub_s]
theorem rStr_rg {T : St} (X : XR T) {now : Nat → Int32} {t : Nat} : ∀ k, k ≤ 6 → 0 ≤ (rStr T now t k).toInt ∧ (rStr T now t k).toInt ≤ 9 * k := by
  intro k
  induction k with
  | zero => intro _; exact ⟨by show 0 ≤ (nI 0).toInt; decide, by show (nI 0).toInt ≤ _; rw [nI_toInt (by omega)]; omega⟩
  | succ k ih =>
    intro hk
    obtain ⟨i1, i2⟩ := ih (by omega)
    obtain ⟨-, -, ⟨s1, s2⟩, -⟩ := X.1 k (by omega)
    by_cases c : rU T now t k
    · rw [rStr_t c, tI_add (by omega) (by omega)]; omega
    · rw [rStr_f c]; omega
theorem rU_str {T : St} (X : XR T) {now : Nat → Int32} {t k : Nat} (hk : k < 6) (h : rU T now t k) : ¬ T.1 4 5 < T.1 (9 + k) 3 := fun q => h.2 (by
  obtain ⟨i1, i2⟩ := rStr_rg X (now := now) (t := t) k (by omega)
  obtain ⟨-, -, ⟨s1, s2⟩, -⟩ := X.1 k hk
  rw [tI_lt] at q ⊢
  rw [tI_add (by omega) (by omega)]
  omega)
def fiN (L : Nat → Nat) (b : Nat) : Nat := (if b.testBit 0 = true then L 0 else 0) + (if b.testBit 1 = true then L 1 else 0) + (if b.testBit 2 = true then L 2 else 0) + (if b.testBit 3 = true then L 3 else 0)
theorem X_fishIn {S : St} {d b : Nat} {L : Nat → Nat} {K : Int32 → Prop} (hb : b < 16) (hL : ∀ s, s < 4 → S.1 (33 + 7 * d + 5) s = nI (L s)) (hK : K (nI (fiN L b))) : q_X1_fishIn d S (nI b) K := by
  have st : ∀ (e : Int32 → Int32 → Prop) (x s : Nat), s < 4 → e (nI (x + (if b.testBit s = true then L s else 0))) (nI (s + 1)) →
      q_X8_isIn S (nI b) (nI s) (fun r_2 => ((r_2 = (nI 0) → (q_X1_fishIn_28 d (nI b) S K e (nI s) (nI 0) (nI x))) ∧ (¬ r_2 = (nI 0) → (vp_in (nI s) 4 ∧ (q_X1_fishIn_28 d (nI b) S K e (nI s) (S.1 (33 + 7 * d + 5) (nI s).toNatClampNeg) (nI x)))))) := by
    intro e x s hs h
    rw [f_X8_isIn, bI_c (hasB_nI (by omega) (by omega)), bbr]
    unfold q_X1_fishIn_28
    by_cases c : b.testBit s = true
    · rw [pif_t c, all_eq, all_eq, ncl _ (by omega), hL s hs, nI_add, nI_add]
      rw [if_pos c] at h
      exact ⟨vp_in_nI (by omega) (by omega), h⟩
    · rw [pif_f c, all_eq, all_eq, nI_add, nI_add]
      rw [if_neg c] at h
      exact h
  refine ⟨5, ?_⟩
  rw [q_X1_fishIn_4_s, and_nif (by decide)]
  refine st _ 0 0 (by omega) ?_
  rw [q_X1_fishIn_4_s, and_nif (by decide)]
  refine st _ _ 1 (by omega) ?_
  rw [q_X1_fishIn_4_s, and_nif (by decide)]
  refine st _ _ 2 (by omega) ?_
  rw [q_X1_fishIn_4_s, and_nif (by decide)]
  refine st _ _ 3 (by omega) ?_
  rw [q_X1_fishIn_4_s, and_if (by decide)]
  rw [Nat.zero_add]
  exact hK
theorem f_ag {S : St} {G W : Nat} (hG : S.1 4 7 = nI G) (hG9 : G ≤ 9) (hW : W < 2 ^ 31) (P : Int32 → Prop) : q_X4_afterGulls S (nI W) P ↔ P (nI (gvN G W)) := by
  rw [f_X4_afterGulls, hG]
  have hd := Nat.div_le_self W G
  unfold gvN
  by_cases c : G = 0
  · rw [if_pos ((nle _ _ (by omega) (by omega)).mpr (by omega)), if_pos c]
  · rw [if_neg (fun q => by rw [nle _ _ (by omega) (by omega)] at q; omega), if_neg c, pk_div (by omega) (by omega) (by omega), pk_sub hd]
/-- what is known of one kite at one height, by any plan, when i hours have gone -/
def BI (T : St) (law : Int32) (t : Nat) (f : Nat → Int32) (L : Nat → Nat) (k h i : Nat) (p w : Prop) (sm mt : Nat) : Prop :=
  mt < 16 ∧ sm ≤ 27 * i ∧ ∀ P, hOf P k = h → ∃ (g : Nat) (L' : Nat → Nat), nHs T law i t (setA f P) (13 + k) = f (13 + k) + nI g ∧ LF (nHs T law i t (setA f P)) L' ∧ (∀ s, s < 4 → L' s ≤ L s) ∧
    (∀ s, s < 4 → nHs T law i t (setA f P) (31 + s) = sxX T s (t + i) ∧ nHs T law i t (setA f P) (35 + s) = syX T s (t + i)) ∧ (nHs T law i t (setA f P) (1 + k) = nI 1 → p) ∧ g ≤ sm ∧ g + fiN L' mt ≤ fiN L mt ∧
    (¬ w → ∀ j, j < i → ¬ rU T (nHs T law j t (setA f P)) (t + j) k)
theorem fiN_or {L : Nat → Nat} {a b : Nat} : fiN L (a ||| b) = (if a.testBit 0 = true ∨ b.testBit 0 = true then L 0 else 0) + (if a.testBit 1 = true ∨ b.testBit 1 = true then L 1 else 0) + (if a.testBit 2 = true ∨ b.testBit 2 = true then L 2 else 0) + (if a.testBit 3 = true ∨ b.testBit 3 = true then L 3 else 0) := by
  unfold fiN
  simp only [Nat.testBit_or, Bool.or_eq_true]
section BS
variable {T : St} {law : Int32} {t G : Nat} {N L : Nat → Nat} {f : Nat → Int32} {k h i : Nat} {p w : Prop} {sm mt : Nat}
theorem nHour_pos {F : Nat → Int32} {s u : Nat} (hs : s < 4) (h : F (31 + s) = sxX T s u ∧ F (35 + s) = syX T s u) : nHour T law u F (31 + s) = sxX T s (u + 1) ∧ nHour T law u F (35 + s) = syX T s (u + 1) := by
  unfold nHour
  rw [upd_n _ _ (by omega), upd_n _ _ (by omega), (nMv_x hs).1, (nMv_x hs).2, nK_n 6 0 _ _ (by omega) (by omega) (by omega), nK_n 6 0 _ _ (by omega) (by omega) (by omega), nFind_n (by omega) (by omega), nFind_n (by omega) (by omega), h.1, h.2]
  exact ⟨sx_s T s u, sy_s T s u⟩
theorem nFind_up1 {F : Nat → Int32} {u : Nat} (hk : k < 6) (h : nFind T law u F (1 + k) = nI 1) : rU T F u k := by
  have h := tgQ_up1 hk 6 0 _ (by omega) h
  rw [upTo_at _ _ hk, bI_1] at h
  exact h
theorem nHour_up1 {F : Nat → Int32} {u : Nat} (hk : k < 6) (h : nHour T law u F (1 + k) = nI 1) : rU T F u k := by
  rw [nHour_hi (by omega) (by omega), nK_n 6 0 _ _ (by omega) (by omega) (by omega)] at h
  exact nFind_up1 hk h
theorem set_hgt {P j : Nat} (hk : k < 6) (hP : hOf P k = h) : hgt (nHs T law j t (setA f P)) k = h := by
  unfold hgt
  have := hOf_lt P k
  rw [nHs_ask j hk, setA_at hk, hP, ncl _ (by omega)]
theorem rU_cond {P j : Nat} (X : XR T) (hk : k < 6) (hP : hOf P k = h) (hp : nHs T law j t (setA f P) (1 + k) = nI 1 → p) (hU : rU T (nHs T law j t (setA f P)) (t + j) k) :
    frP T k h (t + j) ∧ (hasB (T.1 4 6) (t + j) → p) ∧ ¬ T.1 4 5 < T.1 (9 + k) 3 := by
  have hS := rU_str X hk hU
  obtain ⟨⟨u1, u2, u3, u4, u5⟩, -⟩ := hU
  rw [set_hgt hk hP] at u2 u3 u4
  exact ⟨⟨u2, u1, u4, u3⟩, fun q => hp (u5 q), hS⟩
theorem BI_no (X : XR T) (hN : RN T N G) (hk : k < 6) (I : BI T law t f L k h i p w sm mt) (hno : ¬ (frP T k h (t + i) ∧ (hasB (T.1 4 6) (t + i) → p) ∧ ¬ T.1 4 5 < T.1 (9 + k) 3)) : BI T law t f L k h (i + 1) False w sm mt := by
  obtain ⟨i1, i2, i3⟩ := I
  refine ⟨i1, by omega, fun P hP => ?_⟩
  obtain ⟨g, L', j1, j2, j3, j4, j5, j6, j7, j8⟩ := i3 P hP
  have hU : ¬ rU T (nHs T law i t (setA f P)) (t + i) k := fun q => hno (rU_cond X hk hP j5 q)
  obtain ⟨a, a1, a2, a3⟩ := nHour_spec (t := t + i) (law := law) hN j2
  have z : ∀ s, s < 4 → a k s = 0 := fun s hs => by
    by_cases c : a k s = 0
    · exact c
    · exact absurd (nFind_up1 hk (a1 k s hk hs c).1) hU
  rw [nHs_s]
  refine ⟨g, fun s => L' s - (a 0 s + a 1 s + a 2 s + a 3 s + a 4 s + a 5 s), ?_, fun s hs => ⟨(a3 s hs).2, ?_⟩, fun s hs => ?_, fun s hs => nHour_pos hs (j4 s hs), fun q => hU (nHour_up1 hk q), j6, ?_, fun hw j hj => ?_⟩
  · rw [(a2 k hk).2, j1, z 0 (by omega), z 1 (by omega), z 2 (by omega), z 3 (by omega), gvN_0, a0]
  · have := (j2 s hs).2
    show L' s - _ ≤ 99
    omega
  · have := j3 s hs
    show L' s - _ ≤ L s
    omega
  · refine Nat.le_trans ?_ j7
    unfold fiN
    have d : ∀ s, (if mt.testBit s = true then L' s - (a 0 s + a 1 s + a 2 s + a 3 s + a 4 s + a 5 s) else 0) ≤ (if mt.testBit s = true then L' s else 0) := fun s => by
      by_cases c : mt.testBit s = true
      · rw [if_pos c, if_pos c]; omega
      · rw [if_neg c, if_neg c]; omega
    have d0 := d 0
    have d1 := d 1
    have d2 := d 2
    have d3 := d 3
    dsimp only
    omega
  · by_cases c : j = i
    · rw [c]; exact hU
    · exact j8 hw j (by omega)
theorem BI_up (X : XR T) (hN : RN T N G) (hL : LF f L) (hk : k < 6) {m0 : Nat} (hm : m0 < 16) (hb : ∀ s, s < 4 → (m0.testBit s = true ↔ frP T k h (t + i) ∧ tS T s ∧ sxX T s (t + i) = kxX T k h (t + i) ∧ syX T s (t + i) = kyX T k h))
    (I : BI T law t f L k h i p w sm mt) (hf : frP T k h (t + i)) : BI T law t f L k h (i + 1) True True (sm + gvN G (min (fiN L m0) (3 * N k))) (mt ||| m0) := by
  obtain ⟨i1, i2, i3⟩ := I
  have hN9 := (hN.1 k hk).2
  have hmin : min (fiN L m0) (3 * N k) ≤ 27 := by omega
  have hg27 := Nat.le_trans (gvN_le G (min (fiN L m0) (3 * N k))) hmin
  refine ⟨Nat.or_lt_two_pow (n := 4) i1 hm, by omega, fun P hP => ?_⟩
  obtain ⟨g, L', j1, j2, j3, j4, j5, j6, j7, j8⟩ := i3 P hP
  obtain ⟨a, a1, a2, a3⟩ := nHour_spec (t := t + i) (law := law) hN j2
  have z : ∀ s, s < 4 → ¬ m0.testBit s = true → a k s = 0 := fun s hs hn => by
    by_cases c : a k s = 0
    · exact c
    · exfalso
      apply hn
      rw [hb s hs]
      obtain ⟨v1, v2, v3⟩ := (a1 k s hk hs c).2
      have eh : hgt (nFind T law (t + i) (nHs T law i t (setA f P))) k = h := by
        unfold hgt
        rw [nFind_n (by omega) (by omega)]
        exact set_hgt hk hP
      rw [eh, nFind_n (by omega) (by omega), (j4 s hs).1] at v2
      rw [eh, nFind_n (by omega) (by omega), (j4 s hs).2] at v3
      exact ⟨hf, v1, v2, v3⟩
  have le : ∀ s, s < 4 → a k s ≤ a 0 s + a 1 s + a 2 s + a 3 s + a 4 s + a 5 s := fun s hs => by
    rcases (show k = 0 ∨ k = 1 ∨ k = 2 ∨ k = 3 ∨ k = 4 ∨ k = 5 by omega) with rfl | rfl | rfl | rfl | rfl | rfl <;> omega
  have bd : ∀ s, s < 4 → a k s ≤ (if m0.testBit s = true then L' s else 0) := fun s hs => by
    have := (a3 s hs).1
    have := le s hs
    by_cases c : m0.testBit s = true
    · rw [if_pos c]; omega
    · rw [if_neg c, z s hs c]; omega
  have bd2 : ∀ s, s < 4 → (if m0.testBit s = true then L' s else 0) ≤ (if m0.testBit s = true then L s else 0) := fun s hs => by
    have := j3 s hs
    by_cases c : m0.testBit s = true
    · rw [if_pos c, if_pos c]; omega
    · rw [if_neg c, if_neg c]; omega
  have sumle : a k 0 + a k 1 + a k 2 + a k 3 ≤ min (fiN L m0) (3 * N k) := by
    have := (a2 k hk).1
    have e0 := bd 0 (by omega)
    have e1 := bd 1 (by omega)
    have e2 := bd 2 (by omega)
    have e3 := bd 3 (by omega)
    have f0 := bd2 0 (by omega)
    have f1 := bd2 1 (by omega)
    have f2 := bd2 2 (by omega)
    have f3 := bd2 3 (by omega)
    unfold fiN
    omega
  have gle := gvN_mono (G := G) sumle
  have gl2 := gvN_le G (a k 0 + a k 1 + a k 2 + a k 3)
  rw [nHs_s]
  refine ⟨g + gvN G (a k 0 + a k 1 + a k 2 + a k 3), fun s => L' s - (a 0 s + a 1 s + a 2 s + a 3 s + a 4 s + a 5 s), ?_, fun s hs => ⟨(a3 s hs).2, ?_⟩, fun s hs => ?_, fun s hs => nHour_pos hs (j4 s hs), fun _ => trivial, by omega, ?_, fun hw => absurd trivial hw⟩
  · rw [(a2 k hk).2, j1, Int32.add_assoc, nI_add]
  · have := (j2 s hs).2
    show L' s - _ ≤ 99
    omega
  · have := j3 s hs
    show L' s - _ ≤ L s
    omega
  · rw [fiN_or, fiN_or]
    unfold fiN at j7
    have key : ∀ s, s < 4 → (if mt.testBit s = true ∨ m0.testBit s = true then L' s - (a 0 s + a 1 s + a 2 s + a 3 s + a 4 s + a 5 s) else 0) + a k s + (if mt.testBit s = true then L s else 0) ≤ (if mt.testBit s = true ∨ m0.testBit s = true then L s else 0) + (if mt.testBit s = true then L' s else 0) := fun s hs => by
      have h1 := (a3 s hs).1
      have h2 := le s hs
      have h3 := j3 s hs
      by_cases c1 : mt.testBit s = true
      · rw [if_pos (Or.inl c1), if_pos (Or.inl c1), if_pos c1, if_pos c1]; omega
      · by_cases c2 : m0.testBit s = true
        · rw [if_pos (Or.inr c2), if_pos (Or.inr c2), if_neg c1, if_neg c1]; omega
        · have nn : ¬ (mt.testBit s = true ∨ m0.testBit s = true) := fun q => q.elim c1 c2
          rw [if_neg nn, if_neg nn, if_neg c1, if_neg c1, z s hs c2]
          omega
    have k0 := key 0 (by omega)
    have k1 := key 1 (by omega)
    have k2 := key 2 (by omega)
    have k3 := key 3 (by omega)
    omega
end BS
