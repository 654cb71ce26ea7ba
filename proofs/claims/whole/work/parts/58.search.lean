/-! ===== the class's search ===== -/
theorem p24 (k : Nat) : 2 ^ (2 * (5 - k)) = 4 ^ (5 - k) := by
  have h := Nat.pow_mul 2 2 (5 - k)
  exact h
theorem f_hIn (S : St) {P k : Nat} (hP : P < 4096) (hk : k < 6) (K : Int32 → Prop) : q_X5_heightIn S (nI P) (nI k) K ↔ K (nI (hOf P k)) := by
  unfold q_X5_heightIn q_X5_shiftOf
  have hd := Nat.div_le_self P (2 ^ (2 * (5 - k)))
  rw [and_nif (nI_p (by omega)), nle _ _ (by omega) (by omega), and_nif (by omega), pk_sub (by omega), pk_mul]
  show K (nI P >>> (nI (2 * (5 - k)) &&& 31) &&& nI 3) ↔ _
  rw [shrN (by omega) (by omega), pk_andN (m := nI 3) (by omega) 2 rfl, p24]
  exact Iff.rfl
theorem sT_split {g : Nat → Nat} : ∀ a b k, sT g (a + b) k = sT g a k + sT g b (k + a) := by
  intro a
  induction a with
  | zero => intro b k; show sT g (0 + b) k = 0 + sT g b (k + 0); rw [Nat.zero_add, Nat.zero_add, Nat.add_zero]
  | succ a ih =>
    intro b k
    rw [show a + 1 + b = a + b + 1 by omega]
    show g k + sT g (a + b) (k + 1) = g k + sT g a (k + 1) + sT g b (k + (a + 1))
    rw [ih b (k + 1), show k + 1 + a = k + (a + 1) by omega]
    omega
section SQ
variable {T : St} {law : Int32} {t G m q d1 : Nat} {N L : Nat → Nat} {f : Nat → Int32}
theorem gk_dead {P k : Nat} (hN : RN T N G) (hL : LF f L) (hk : k < 6) (dead : ∀ i, i < m → ¬ rU T (nHs T law i t (setA f P)) (t + i) k) : gk T law m t f P k = 0 := by
  have h : ∀ j, j ≤ m → nHs T law j t (setA f P) (13 + k) = f (13 + k) + nI 0 ∧ ∃ L', LF (nHs T law j t (setA f P)) L' := by
    intro j
    induction j with
    | zero => intro _; exact ⟨by show setA f P (13 + k) = _; rw [setA_n (by omega), a0], L, LF_set hL P⟩
    | succ j ih =>
      intro hj
      obtain ⟨i1, L', i2⟩ := ih (by omega)
      obtain ⟨a, a1, a2, a3⟩ := nHour_spec (t := t + j) (law := law) hN i2
      have z : ∀ s, s < 4 → a k s = 0 := fun s hs => by
        by_cases c : a k s = 0
        · exact c
        · exact absurd (nFind_up1 hk (a1 k s hk hs c).1) (dead j (by omega))
      rw [nHs_s]
      refine ⟨?_, fun s => L' s - (a 0 s + a 1 s + a 2 s + a 3 s + a 4 s + a 5 s), fun s hs => ⟨(a3 s hs).2, ?_⟩⟩
      · rw [(a2 k hk).2, i1, z 0 (by omega), z 1 (by omega), z 2 (by omega), z 3 (by omega), gvN_0, a0]
      · have := (i2 s hs).2
        show L' s - _ ≤ 99
        omega
  exact gk_of (h m (Nat.le_refl _)).1 (by omega)
def SB (T : St) (law : Int32) (m t : Nat) (f : Nat → Int32) (q : Nat) (S : St) (k0 : Nat) (bb : Nat → Nat) : Prop :=
  bb 6 = 0 ∧ (∀ k, k0 ≤ k → k ≤ 6 → S.1 (24 + 3 * q + 2) k = nI (bb k) ∧ bb k ≤ 396 * (6 - k)) ∧
  ∀ k h, k0 ≤ k → k < 6 → h < 4 → BD T law m t f k h (S.1 (24 + 3 * q + 1) (k * 4 + h)) ∧ (S.1 (24 + 3 * q + 1) (k * 4 + h)).toInt + (bb (k + 1) : Int) ≤ (bb k : Int) ∧ bb (k + 1) ≤ bb k
theorem SB_keep {S S' : St} {k0 : Nat} {bb : Nat → Nat} (h : SB T law m t f q S k0 bb) (e1 : ∀ j, k0 * 4 ≤ j → S'.1 (24 + 3 * q + 1) j = S.1 (24 + 3 * q + 1) j) (e2 : S'.1 (24 + 3 * q + 2) = S.1 (24 + 3 * q + 2)) : SB T law m t f q S' k0 bb :=
  ⟨h.1, fun k h1 h2 => by rw [e2]; exact h.2.1 k h1 h2, fun k h' h1 h2 h3 => by rw [e1 _ (by omega)]; exact h.2.2 k h' h1 h2 h3⟩
def FrB (q : Nat) (S0 S : St) : Prop := ∀ c, c ≠ 24 + 3 * q + 1 → c ≠ 24 + 3 * q + 2 → S.1 c = S0.1 c
theorem m1I : (-1 : Int32).toInt = -1 := rfl
theorem dec1 (n : Nat) : nI (n + 1) + (-1) = nI n := by
  rw [← nI_add, Int32.add_assoc, show nI 1 + (-1) = 0 from by decide, Int32.add_zero]
theorem X_sb32 {K : St → Prop} {e11 : St → Int32 → Prop} {S0 : St} {k : Nat} {bb : Nat → Nat} (C : RC T) (X : XR T) (hN : RN T N G) (hL : LF f L) (E : SeaEq S0 T) (D : DayR T S0 d1 f) (hq : q < 2) (h0 : f 0 = nI t) (htm : t + m ≤ 12) (hk : k < 6)
    (hK : ∀ S bb', FrB q S0 S → SB T law m t f q S k bb' → e11 S (nI k + -1)) :
    ∀ (n h gr : Nat) (S : St), h + n = 4 → 1 ≤ h → gr ≤ 396 → FrB q S0 S → SB T law m t f q S (k + 1) bb → (∀ h', h' < h → BD T law m t f k h' (S.1 (24 + 3 * q + 1) (k * 4 + h')) ∧ (S.1 (24 + 3 * q + 1) (k * 4 + h')).toInt ≤ (gr : Int)) →
      q_X5_setBounds_32 q d1 (nI m) K e11 (n + 1) S (nI k) (nI gr) (nI h) := by
  intro n
  induction n with
  | zero =>
    intro h gr S hh h1 hg F B I
    rw [q_X5_setBounds_32_s, nle _ _ (by omega) (by omega), and_if (by omega), nI_add, all_eq, all_eq, ncl _ (by omega), ncl _ (by omega)]
    refine ⟨vp_in_nI (by omega) (by omega), vp_in_nI (by omega) (by omega), hK _ (fun j => if j = k then bb (k + 1) + gr else bb j) (fun c c1 c2 => by rw [sI_ne _ _ _ _ c2]; exact F c c1 c2) ?_⟩
    obtain ⟨b1, b2, b3⟩ := B
    obtain ⟨e1, e2⟩ := b2 (k + 1) (by omega) (by omega)
    refine ⟨?_, fun j h1 h2 => ?_, fun j h' h1 h2 h3 => ?_⟩
    · show (if 6 = k then bb (k + 1) + gr else bb 6) = 0
      rw [if_neg (by omega), b1]
    · rw [sI_row]
      show _ = nI (if j = k then bb (k + 1) + gr else bb j) ∧ (if j = k then bb (k + 1) + gr else bb j) ≤ _
      by_cases c : j = k
      · rw [if_pos c, c, upd_s, e1, nI_add]
        exact ⟨rfl, by omega⟩
      · rw [if_neg c, upd_n _ _ c]
        exact b2 j (by omega) h2
    · rw [sI_ne _ _ _ _ (by omega)]
      show _ ∧ _ + ((if j + 1 = k then bb (k + 1) + gr else bb (j + 1) : Nat) : Int) ≤ ((if j = k then bb (k + 1) + gr else bb j : Nat) : Int) ∧ (if j + 1 = k then bb (k + 1) + gr else bb (j + 1)) ≤ (if j = k then bb (k + 1) + gr else bb j)
      rw [if_neg (by omega)]
      by_cases c : j = k
      · rw [if_pos c, c]
        obtain ⟨i1, i2⟩ := I h' (by omega)
        exact ⟨i1, by omega, by omega⟩
      · rw [if_neg c]
        exact b3 j h' (by omega) h2 h3
  | succ n ih =>
    intro h gr S hh h1 hg F B I
    rw [q_X5_setBounds_32_s, nle _ _ (by omega) (by omega), and_nif (by omega)]
    have E' : SeaEq S T := fun c c1 c2 => by rw [F c (by omega) (by omega)]; exact E c c1 c2
    obtain ⟨t', u, n', ht', p, hup, -, -⟩ := D.eq E' (fun c c1 c2 => F c (by omega) (by omega))
    have et : t' = t := by
      have := p.2.1.2.2.1
      rw [h0, neq _ _ (by omega) (by omega)] at this
      omega
    subst et
    refine X_bnd (law := law) C X hN hL hk h1 (by omega) p.2.1 hup htm (fun v hv => ?_)
    rw [pk_mul, nI_add, ncl _ (by omega), all_eq, all_eq, all_eq, nI_add]
    refine ⟨vp_in_nI (by omega) (by omega), ?_⟩
    have F' : FrB q S0 (sI S (24 + 3 * q + 1) (k * 4 + h) v) := fun c c1 c2 => by rw [sI_ne _ _ _ _ c1]; exact F c c1 c2
    have B' : SB T law m t' f q (sI S (24 + 3 * q + 1) (k * 4 + h) v) (k + 1) bb := SB_keep B (fun j hj => by rw [sI_row, upd_n _ _ (by omega)]) (sI_ne _ _ _ _ (by omega))
    have I' : ∀ gr', gr ≤ gr' → v.toInt ≤ (gr' : Int) → ∀ h', h' < h + 1 → BD T law m t' f k h' ((sI S (24 + 3 * q + 1) (k * 4 + h) v).1 (24 + 3 * q + 1) (k * 4 + h')) ∧ ((sI S (24 + 3 * q + 1) (k * 4 + h) v).1 (24 + 3 * q + 1) (k * 4 + h')).toInt ≤ (gr' : Int) := fun gr' g1 g2 h' hh' => by
      rw [sI_row]
      by_cases c : h' = h
      · rw [c, upd_s]; exact ⟨hv, g2⟩
      · rw [upd_n _ _ (by omega)]
        obtain ⟨i1, i2⟩ := I h' (by omega)
        exact ⟨i1, by omega⟩
    have hv2 := hv
    rcases hv2 with ⟨v1, -, -⟩ | ⟨b, b1, b2, -⟩
    · rw [if_neg (fun w => by rw [v1, tI_lt, m1I, nI_toInt (by omega)] at w; omega)]
      exact ih (h + 1) gr _ (by omega) (by omega) hg F' B' (I' gr (Nat.le_refl _) (by rw [v1, m1I]; omega))
    · have hb : v.toInt = b := by rw [b2, nI_toInt (by omega)]
      by_cases c : gr < b
      · rw [if_pos (by rw [b2, nlt _ _ (by omega) (by omega)]; exact c)]
        have := ih (h + 1) b _ (by omega) (by omega) b1 F' B' (I' b (by omega) (by omega))
        rw [← b2] at this
        exact this
      · rw [if_neg (fun w => by rw [b2, nlt _ _ (by omega) (by omega)] at w; exact c w)]
        exact ih (h + 1) gr _ (by omega) (by omega) hg F' B' (I' gr (Nat.le_refl _) (by omega))
theorem X_sb11 {K : St → Prop} {S0 : St} (C : RC T) (X : XR T) (hN : RN T N G) (hL : LF f L) (E : SeaEq S0 T) (D : DayR T S0 d1 f) (hq : q < 2) (h0 : f 0 = nI t) (htm : t + m ≤ 12)
    (hK : ∀ S bb, FrB q S0 S → SB T law m t f q S 0 bb → K S) : ∀ n S bb, n ≤ 6 → FrB q S0 S → SB T law m t f q S n bb → q_X5_setBounds_11 q d1 (nI m) K (n + 1) S (nI n + -1) := by
  intro n
  induction n with
  | zero =>
    intro S bb hn F B
    rw [q_X5_setBounds_11_s, and_if (by decide)]
    exact hK S bb F B
  | succ n ih =>
    intro S bb hn F B
    rw [q_X5_setBounds_11_s, dec1, and_nif (nI_p (by omega)), pk_mul, all_eq, ncl _ (by omega)]
    refine ⟨vp_in_nI (by omega) (by omega), 4, ?_⟩
    refine X_sb32 (law := law) (bb := bb) C X hN hL E D hq h0 htm (show n < 6 by omega) (fun S' bb' F' B' => ih S' bb' (by omega) F' B') 3 1 0 _ (by omega) (by omega) (by omega) (fun c c1 c2 => by rw [sI_ne _ _ _ _ c1]; exact F c c1 c2)
      (SB_keep B (fun j hj => by rw [sI_row, upd_n _ _ (by omega)]) (sI_ne _ _ _ _ (by omega))) (fun h' hh' => ?_)
    rw [show h' = 0 by omega, show n * 4 + 0 = n * 4 from rfl, sI_row, upd_s]
    exact ⟨BD_0 hN hL (by omega), by rw [nI_toInt (by omega)]; omega⟩
theorem X_setBounds {K : St → Prop} {S : St} (C : RC T) (X : XR T) (hN : RN T N G) (hL : LF f L) (E : SeaEq S T) (D : DayR T S d1 f) (hq : q < 2) (h0 : f 0 = nI t) (htm : t + m ≤ 12)
    (hK : ∀ S' bb, FrB q S S' → SB T law m t f q S' 0 bb → K S') : q_X5_setBounds q d1 S (nI m) K := by
  unfold q_X5_setBounds
  rw [all_eq, ncl _ (by omega), show nI 5 = nI 6 + -1 from by decide]
  refine ⟨7, X_sb11 (law := law) C X hN hL E D hq h0 htm hK 6 _ (fun _ => 0) (by omega) (fun c c1 c2 => sI_ne _ _ _ _ c2) ⟨rfl, fun k h1 h2 => ?_, fun k h h1 h2 => by omega⟩⟩
  rw [show k = 6 by omega, sI_row, upd_s]
  exact ⟨rfl, Nat.zero_le _⟩
theorem SB_tail {S : St} {bb : Nat → Nat} (B : SB T law m t f q S 0 bb) (hN : RN T N G) (hL : LF f L) (Q : Nat) : ∀ n k, k + n = 6 → sT (gk T law m t f Q) n k ≤ bb k := by
  intro n
  induction n with
  | zero => intro k _; exact Nat.zero_le _
  | succ n ih =>
    intro k hk
    have h := ih (k + 1) (by omega)
    obtain ⟨b1, b2, b3⟩ := B.2.2 k (hOf Q k) (by omega) (by omega) (hOf_lt Q k)
    show gk T law m t f Q k + sT (gk T law m t f Q) n (k + 1) ≤ bb k
    rcases b1 with ⟨-, -, v⟩ | ⟨b, c1, c2, c3⟩
    · rw [gk_dead hN hL (by omega) (v Q rfl)]; omega
    · have := c3 Q rfl
      rw [c2, nI_toInt (by omega)] at b2
      omega
theorem VV_sT (hN : RN T N G) (hL : LF f L) (h0 : f 0 = nI t) (ht : t ≤ 12) (Q : Nat) : VV T law m f Q = nI (sT (gk T law m t f Q) 6 0) ∧ sT (gk T law m t f Q) 6 0 ≤ 396 := by
  have e : sT (gk T law m t f Q) 6 0 = gk T law m t f Q 0 + gk T law m t f Q 1 + gk T law m t f Q 2 + gk T law m t f Q 3 + gk T law m t f Q 4 + gk T law m t f Q 5 := by
    show gk T law m t f Q 0 + (gk T law m t f Q 1 + (gk T law m t f Q 2 + (gk T law m t f Q 3 + (gk T law m t f Q 4 + (gk T law m t f Q 5 + 0))))) = _
    omega
  rw [e]
  exact ⟨VV_gk hN hL h0 ht, (gk_spec hN hL).2⟩
/-- why a plan is passed over -/
def HP (T : St) (law : Int32) (m t : Nat) (f : Nat → Int32) (nx k : Nat) (mo : Int32) : Prop :=
  (1 ≤ hOf nx k ∧ ∀ P, hOf P k = hOf nx k → ∀ i, i < m → ¬ rU T (nHs T law i t (setA f P)) (t + i) k) ∨ (∀ Q, (∀ j, j ≤ k → hOf Q j = hOf nx j) → VV T law m f Q ≤ mo)
theorem X_fh {S : St} {bb : Nat → Nat} {nx : Nat} {K : Int32 → Prop} (hN : RN T N G) (hL : LF f L) (h0 : f 0 = nI t) (ht : t ≤ 12) (B : SB T law m t f q S 0 bb) (hnx : nx < 4096) (h6 : K (nI 6)) (hk : ∀ k, k < 6 → HP T law m t f nx k (S.1 (24 + 3 * q) 1) → K (nI k)) :
    ∀ n k sum, k + n = 6 → sum ≤ 396 * k → (∀ Q, (∀ j, j < k → hOf Q j = hOf nx j) → sT (gk T law m t f Q) k 0 ≤ sum) → q_X5_firstHopeless_4 q (nI nx) S K (n + 1) (nI sum) (nI k) := by
  intro n
  induction n with
  | zero =>
    intro k sum hkn _ _
    rw [q_X5_firstHopeless_4_s, nle _ _ (by omega) (by omega), and_if (by omega)]
    exact h6
  | succ n ih =>
    intro k sum hkn hs I
    have hh := hOf_lt nx k
    rw [q_X5_firstHopeless_4_s, nle _ _ (by omega) (by omega), and_nif (by omega), f_hIn S hnx (by omega), pk_mul, nI_add, nI_add, ncl _ (by omega), ncl _ (by omega), all_eq, all_eq]
    refine ⟨vp_in_nI (by omega) (by omega), ?_⟩
    obtain ⟨b1, b2, b3⟩ := B.2.2 k (hOf nx k) (by omega) (by omega) hh
    obtain ⟨e1, e2⟩ := B.2.1 (k + 1) (by omega) (by omega)
    rcases b1 with ⟨v1, v2, v3⟩ | ⟨b, c1, c2, c3⟩
    · rw [and_if v1]
      exact hk k (by omega) (Or.inl ⟨v2, v3⟩)
    · rw [c2, and_nif (fun w => by rw [tI_eq, m1I, nI_toInt (by omega)] at w; omega), e1, nI_add, nI_add]
      refine ⟨vp_in_nI (by omega) (by omega), fun w => ?_, fun w => ?_⟩
      · rw [all_eq]
        refine ih (k + 1) (sum + b) (by omega) (by omega) (fun Q hQ => ?_)
        rw [sT_split k 1 0]
        have i1 := I Q (fun j hj => hQ j (by omega))
        have i2 := c3 Q (hQ k (by omega))
        show sT (gk T law m t f Q) k 0 + (gk T law m t f Q (0 + k) + 0) ≤ sum + b
        rw [Nat.zero_add]
        omega
      · refine hk k (by omega) (Or.inr (fun Q hQ => ?_))
        obtain ⟨w1, w2⟩ := VV_sT (law := law) (m := m) hN hL h0 ht Q
        have i1 := I Q (fun j hj => hQ j (by omega))
        have i2 := c3 Q (hQ k (by omega))
        have i3 := SB_tail B hN hL Q n (k + 1) (by omega)
        have sp := sT_split (g := gk T law m t f Q) k (1 + n) 0
        rw [show k + (1 + n) = 6 by omega, sT_split 1 n, Nat.zero_add] at sp
        have sp1 : sT (gk T law m t f Q) 1 k = gk T law m t f Q k + 0 := rfl
        rw [w1, tI_le, nI_toInt (by omega)]
        rw [tI_lt, nI_toInt (by omega)] at w
        omega
end SQ
