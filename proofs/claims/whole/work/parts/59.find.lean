/-! ===== the search finds the first best plan ===== -/
section FD
variable {T : St} {law : Int32} {t G m q d1 : Nat} {N L : Nat → Nat} {f : Nat → Int32}
theorem X_t9 {S1 : St} {P : Nat} {K : St → Prop} (hP : P < 4096)
    (hK : ∀ S2, (∀ c, c ≠ 33 + 7 * 2 + 1 → S2.1 c = S1.1 c) → (∀ j, j < 6 → S2.1 (33 + 7 * 2 + 1) j = nI (hOf P j)) → q_X1_pass 2 S2 (nI m) (S2.1 4 4) (fun S_2 => (((S_2.1 (33 + 7 * 2) 2) ≤ (S_2.1 (24 + 3 * q) 1) → (K S_2)) ∧ (¬ (S_2.1 (33 + 7 * 2) 2) ≤ (S_2.1 (24 + 3 * q) 1) → (∀ S_4 : St, S_4 = sI S_2 (24 + 3 * q) 1 (S_2.1 (33 + 7 * 2) 2) → (∀ S_5 : St, S_5 = sI S_4 (24 + 3 * q) 2 (nI P) → (K S_5))))))) :
    ∀ (n k : Nat) (S : St), k + n = 6 → (∀ c, c ≠ 33 + 7 * 2 + 1 → S.1 c = S1.1 c) → (∀ j, j < k → S.1 (33 + 7 * 2 + 1) j = nI (hOf P j)) → q_X5_tryPlan_9 q d1 (nI P) (nI m) K (n + 1) S (nI k) := by
  intro n
  induction n with
  | zero =>
    intro k S hk h1 h2
    rw [q_X5_tryPlan_9_s, nle _ _ (by omega) (by omega), and_if (by omega)]
    exact hK S h1 (fun j hj => h2 j (by omega))
  | succ n ih =>
    intro k S hk h1 h2
    rw [q_X5_tryPlan_9_s, nle _ _ (by omega) (by omega), and_nif (by omega), f_hIn S hP (by omega), all_eq, all_eq, ncl _ (by omega), nI_add]
    refine ⟨vp_in_nI (by omega) (by omega), ih (k + 1) _ (by omega) (fun c hc => by rw [sI_ne _ _ _ _ hc]; exact h1 c hc) (fun j hj => ?_)⟩
    rw [sI_row]
    by_cases c : j = k
    · rw [c, upd_s]
    · rw [upd_n _ _ c]; exact h2 j (by omega)
theorem X_try {S : St} {P : Nat} {K : St → Prop} (C : RC T) (X : XR T) (E : SeaEq S T) (D : DayR T S d1 f) (hd : d1 ≠ 2) (hq : q < 2) (h0 : f 0 = nI t) (htm : t + m ≤ 12) (hP : P < 4096)
    (hK : ∀ S', (∀ c, c ≠ 24 + 3 * q → (c < 47 ∨ 53 < c) → S'.1 c = S.1 c) → ((VV T (T.1 4 4) m f P ≤ S.1 (24 + 3 * q) 1 ∧ S'.1 (24 + 3 * q) = S.1 (24 + 3 * q)) ∨ (¬ VV T (T.1 4 4) m f P ≤ S.1 (24 + 3 * q) 1 ∧ S'.1 (24 + 3 * q) 1 = VV T (T.1 4 4) m f P ∧ S'.1 (24 + 3 * q) 2 = nI P)) → K S') :
    q_X5_tryPlan q d1 S (nI P) (nI m) K := by
  obtain ⟨t', u, n', ht', p, hup, -, -⟩ := D
  have et : t' = t := by
    have := p.2.1.2.2.1
    rw [h0, neq _ _ (by omega) (by omega)] at this
    omega
  subst et
  unfold q_X5_tryPlan
  refine X_resume hd p.2.1 hup (fun S' R => ⟨7, X_t9 (S1 := S') hP (fun S2 e1 e2 => ?_) 6 0 S' (by omega) (fun c _ => rfl) (fun j hj => by omega)⟩)
  obtain ⟨pk, hu2⟩ := TR_PK (g := setA f P) p.2.1 R e1 (fun k hk => by rw [e2 k hk, setA_at hk]) setA_ok (fun j hj h => setA_n (by omega))
  have el : S2.1 4 4 = T.1 4 4 := by rw [e1 4 (by omega), R.1 4 (by omega) (by omega), E 4 (by omega) (by omega)]
  rw [el]
  refine X_pass X C (by omega) ht' pk hu2 (fun w => w.elim) (fun S3 u3 p3 _ => ?_)
  rw [show min m (12 - t') = m by omega] at p3
  obtain ⟨⟨o1, o2, o3⟩, -, p4, -⟩ := p3
  have es : sm6 (setA f P) = sm6 f := sm6_eq (fun j h1 h2 => setA_n (by omega))
  have ev : S3.1 (33 + 7 * 2) 2 = VV T (T.1 4 4) m f P := by
    rw [p4, es]
    unfold VV
    rw [h0, ncl _ (by omega)]
  have ec : ∀ c, (c < 47 ∨ 53 < c) → S3.1 c = S.1 c := fun c hc => by
    rw [o1 c (by omega), e1 c (by omega), R.1 c (by omega) (by omega)]
  rw [ev, ec (24 + 3 * q) (by omega), all_eq, all_eq]
  refine ⟨fun w => hK S3 (fun c _ hc => ec c hc) (Or.inl ⟨w, ec _ (by omega)⟩), fun w => hK _ (fun c c1 hc => ?_) (Or.inr ⟨w, ?_, ?_⟩)⟩
  · rw [sI_ne _ _ _ _ c1, sI_ne _ _ _ _ c1]; exact ec c hc
  · rw [sI_row, upd_n _ _ (by omega), sI_row, upd_s]
  · rw [sI_row, upd_s]
/-- digits -/
theorem hOf_same {Q P k j : Nat} (hk : k < 6) (hj : j ≤ k) (h : Q / 4 ^ (5 - k) = P / 4 ^ (5 - k)) : hOf Q j = hOf P j := by
  have e : ∀ R, R / 4 ^ (5 - j) = R / 4 ^ (5 - k) / 4 ^ (k - j) := fun R => by
    rw [Nat.div_div_eq_div_mul, ← Nat.pow_add, show 5 - k + (k - j) = 5 - j by omega]
  unfold hOf
  rw [e Q, e P, h]
theorem hOf_z {Q k : Nat} (hQ : Q < 4096) (hk : k < 6) : hOf Q k * 4 ^ (5 - k) ≤ Q ∧ hOf (Q - hOf Q k * 4 ^ (5 - k)) k = 0 ∧ (∀ j, j < 6 → j ≠ k → hOf (Q - hOf Q k * 4 ^ (5 - k)) j = hOf Q j) ∧ (1 ≤ hOf Q k → Q - hOf Q k * 4 ^ (5 - k) < Q / 4 ^ (5 - k) * 4 ^ (5 - k)) := by
  unfold hOf
  rcases (show k = 0 ∨ k = 1 ∨ k = 2 ∨ k = 3 ∨ k = 4 ∨ k = 5 by omega) with rfl | rfl | rfl | rfl | rfl | rfl <;> simp only [Nat.reduceSub, Nat.reducePow, Nat.reduceMul] <;> refine ⟨by omega, by omega, fun j hj hn => ?_, by omega⟩ <;>
    rcases (show j = 0 ∨ j = 1 ∨ j = 2 ∨ j = 3 ∨ j = 4 ∨ j = 5 by omega) with rfl | rfl | rfl | rfl | rfl | rfl <;> simp only [Nat.reduceSub, Nat.reducePow, Nat.reduceMul] <;> omega
theorem VV_dead {P Q : Nat} {Z : Nat → Prop} (h0 : f 0 = nI t) (ht : t ≤ 12) (h : ∀ k, k < 6 → ¬ Z k → hOf Q k = hOf P k) (hp : ∀ i, i < m → ∀ k, k < 6 → Z k → ¬ rU T (nHs T law i t (setA f P)) (t + i) k) (hq : ∀ i, i < m → ∀ k, k < 6 → Z k → ¬ rU T (nHs T law i t (setA f Q)) (t + i) k) : VV T law m f Q = VV T law m f P := by
  unfold VV
  rw [h0, ncl _ (by omega), sm6_z (nHs_z (setA_z h) m hp hq)]
/-- what the search knows when all plans below nx are behind it -/
def FI (T : St) (law : Int32) (m : Nat) (f : Nat → Int32) (q : Nat) (S : St) (nx : Nat) : Prop :=
  (nx = 0 ∧ S.1 (24 + 3 * q) 1 = -1) ∨ ∃ P, P < nx ∧ S.1 (24 + 3 * q) 1 = VV T law m f P ∧ S.1 (24 + 3 * q) 2 = nI P ∧ (∀ Q, Q < nx → VV T law m f Q ≤ VV T law m f P) ∧ ∀ Q, Q < P → VV T law m f Q < VV T law m f P
theorem i_le_trans {a b c : Int32} (h1 : a ≤ b) (h2 : b ≤ c) : a ≤ c := by rw [tI_le] at *; omega
theorem i_lt_le {a b c : Int32} (h1 : a ≤ b) (h2 : b < c) : a < c := by rw [tI_le] at h1; rw [tI_lt] at *; omega
theorem i_nle {a b : Int32} : ¬ a ≤ b ↔ b < a := by rw [tI_le, tI_lt]; omega
theorem i_lt_le' {a b : Int32} (h : a < b) : a ≤ b := by rw [tI_lt] at h; rw [tI_le]; omega
theorem FI_skip {S : St} {nx k : Nat} (hN : RN T N G) (hL : LF f L) (h0 : f 0 = nI t) (ht : t ≤ 12) (hnx : nx < 4096) (hk : k < 6) (I : FI T law m f q S nx) (H : HP T law m t f nx k (S.1 (24 + 3 * q) 1)) :
    nx < (nx / 4 ^ (5 - k) + 1) * 4 ^ (5 - k) ∧ (nx / 4 ^ (5 - k) + 1) * 4 ^ (5 - k) ≤ 4096 ∧ FI T law m f q S ((nx / 4 ^ (5 - k) + 1) * 4 ^ (5 - k)) := by
  have a1 : nx < (nx / 4 ^ (5 - k) + 1) * 4 ^ (5 - k) ∧ (nx / 4 ^ (5 - k) + 1) * 4 ^ (5 - k) ≤ 4096 ∧ nx / 4 ^ (5 - k) * 4 ^ (5 - k) ≤ nx ∧ ∀ Q, nx ≤ Q → Q < (nx / 4 ^ (5 - k) + 1) * 4 ^ (5 - k) → Q / 4 ^ (5 - k) = nx / 4 ^ (5 - k) := by
    rcases (show k = 0 ∨ k = 1 ∨ k = 2 ∨ k = 3 ∨ k = 4 ∨ k = 5 by omega) with rfl | rfl | rfl | rfl | rfl | rfl <;> simp only [Nat.reduceSub, Nat.reducePow] <;> refine ⟨by omega, by omega, by omega, fun Q h1 h2 => by omega⟩
  obtain ⟨a1, a2, a3, a4⟩ := a1
  refine ⟨a1, a2, ?_⟩
  have hh : ∀ Q, nx ≤ Q → Q < (nx / 4 ^ (5 - k) + 1) * 4 ^ (5 - k) → ∀ j, j ≤ k → hOf Q j = hOf nx j := fun Q h1 h2 j hj => hOf_same hk hj (a4 Q h1 h2)
  have pos : ∀ Q, ¬ VV T law m f Q ≤ -1 := fun Q => by
    obtain ⟨w1, w2⟩ := VV_sT (law := law) (m := m) hN hL h0 ht Q
    rw [w1]
    exact n_m1 (by omega)
  rcases I with ⟨z1, z2⟩ | ⟨P, p1, p2, p3, p4, p5⟩
  · exfalso
    rcases H with ⟨u1, -⟩ | u
    · rw [z1] at u1
      unfold hOf at u1
      rw [Nat.zero_div] at u1
      omega
    · have := u nx (fun j _ => rfl)
      rw [z2] at this
      exact pos _ this
  · refine Or.inr ⟨P, by omega, p2, p3, fun Q hQ => ?_, p5⟩
    by_cases c : Q < nx
    · exact p4 Q c
    · have hd := hh Q (by omega) hQ
      rcases H with ⟨u1, u2⟩ | u
      · obtain ⟨y1, y2, y3, y4⟩ := hOf_z (show Q < 4096 by omega) hk
        have e1 : hOf Q k = hOf nx k := hd k (Nat.le_refl _)
        have lt := y4 (by omega)
        rw [a4 Q (by omega) hQ] at lt
        have ev : VV T law m f (Q - hOf Q k * 4 ^ (5 - k)) = VV T law m f Q := VV_dead (Z := fun j => j = k) h0 ht (fun j hj hn => y3 j hj hn)
          (fun i hi j hj hz => by rw [hz]; exact u2 Q e1 i hi) (fun i hi j hj hz => by rw [hz]; exact rU_zero (by rw [nHs_ask i hk, setA_at hk, y2]))
        rw [← ev]
        exact p4 _ (by omega)
      · have := u Q hd
        rw [p2] at this
        exact this
theorem X_find29 {S0 : St} {bb : Nat → Nat} {K : St → Prop} (C : RC T) (X : XR T) (hN : RN T N G) (hL : LF f L) (E : SeaEq S0 T) (D : DayR T S0 d1 f) (hd : d1 ≠ 2) (hq : q < 2) (h0 : f 0 = nI t) (htm : t + m ≤ 12)
    (hK : ∀ S, (∀ c, c < 24 + 3 * q ∨ (24 + 3 * q + 2 < c ∧ c < 47) ∨ 53 < c → S.1 c = S0.1 c) → S.1 (24 + 3 * q) 0 = nI 1 → FI T (T.1 4 4) m f q S 4096 → K S) :
    ∀ (n i nx : Nat) (S : St), i + n = 4096 → i ≤ nx → nx ≤ 4096 → (∀ c, c < 24 + 3 * q ∨ (24 + 3 * q + 2 < c ∧ c < 47) ∨ 53 < c → S.1 c = S0.1 c) → SB T (T.1 4 4) m t f q S 0 bb → FI T (T.1 4 4) m f q S nx → q_X5_find_29 q d1 (nI m) K (n + 1) S (nI nx) (nI i) := by
  have fin : ∀ (S : St) (nx : Nat), nx = 4096 → (∀ c, c < 24 + 3 * q ∨ (24 + 3 * q + 2 < c ∧ c < 47) ∨ 53 < c → S.1 c = S0.1 c) → FI T (T.1 4 4) m f q S nx → ∀ S_2 : St, S_2 = sI S (24 + 3 * q) 0 (nI 1) → K S_2 := fun S nx hn F I S2 e => by
    rw [e]
    refine hK _ (fun c hc => by rw [sI_ne _ _ _ _ (by omega)]; exact F c hc) (by rw [sI_row, upd_s]) ?_
    rw [hn] at I
    unfold FI
    rw [sI_row, upd_n _ _ (by omega), upd_n _ _ (by omega)]
    exact I
  intro n
  induction n with
  | zero =>
    intro i nx S hi h1 h2 F B I
    rw [q_X5_find_29_s, nle _ _ (by omega) (by omega), and_if (by omega)]
    exact fin S nx (by omega) F I
  | succ n ih =>
    intro i nx S hi h1 h2 F B I
    rw [q_X5_find_29_s, nle _ _ (by omega) (by omega), and_nif (by omega), nle _ _ (by omega) (by omega)]
    refine ⟨fun c => fin S nx (by omega) F I, fun c => ?_⟩
    have E' : SeaEq S T := fun c c1 c2 => by rw [F c (by omega)]; exact E c c1 c2
    have hd' : d1 = 0 ∨ d1 = 1 ∨ 2 < d1 := by omega
    have D' : DayR T S d1 f := D.eq E' (fun c c1 c2 => F c (by omega))
    unfold q_X5_firstHopeless
    refine ⟨7, X_fh hN hL h0 (by omega) B (by omega) ?_ (fun k hk H => ?_) 6 0 0 (by omega) (by omega) (fun Q _ => Nat.zero_le _)⟩
    · rw [nle _ _ (by omega) (by omega), and_if (by omega)]
      refine X_try C X E' D' hd hq h0 htm (by omega) (fun S' e1 e2 => ?_)
      unfold q_X5_find_97
      rw [all_eq, all_eq, nI_add, nI_add]
      refine ih (i + 1) (nx + 1) S' (by omega) (by omega) (by omega) (fun c hc => by rw [e1 c (by omega) (by omega)]; exact F c hc) (SB_keep B (fun j _ => by rw [e1 _ (by omega) (by omega)]) (e1 _ (by omega) (by omega))) ?_
      rcases e2 with ⟨w1, w2⟩ | ⟨w1, w2, w3⟩
      · rcases I with ⟨z1, z2⟩ | ⟨P, p1, p2, p3, p4, p5⟩
        · exfalso
          rw [z2] at w1
          obtain ⟨v1, v2⟩ := VV_sT (law := T.1 4 4) (m := m) hN hL h0 (by omega) nx
          rw [v1] at w1
          exact n_m1 (by omega) w1
        · refine Or.inr ⟨P, by omega, by rw [w2]; exact p2, by rw [w2]; exact p3, fun Q hQ => ?_, p5⟩
          by_cases cq : Q = nx
          · rw [cq, ← p2]; exact w1
          · exact p4 Q (by omega)
      · refine Or.inr ⟨nx, by omega, w2, w3, fun Q hQ => ?_, fun Q hQ => ?_⟩
        · by_cases cq : Q = nx
          · rw [cq, tI_le]; omega
          · rcases I with ⟨z1, z2⟩ | ⟨P, p1, p2, p3, p4, p5⟩
            · omega
            · rw [p2, i_nle] at w1
              exact i_lt_le' (i_lt_le (p4 Q (by omega)) w1)
        · rcases I with ⟨z1, z2⟩ | ⟨P, p1, p2, p3, p4, p5⟩
          · omega
          · rw [p2, i_nle] at w1
            exact i_lt_le (p4 Q hQ) w1
    · rw [nle _ _ (by omega) (by omega), and_nif (by omega)]
      obtain ⟨s1, s2, s3⟩ := FI_skip hN hL h0 (by omega) (show nx < 4096 by omega) hk I H
      have hdv := Nat.div_le_self nx (4 ^ (5 - k))
      unfold q_X5_shiftOf q_X5_find_97
      dsimp only
      rw [all_eq, all_eq, pk_sub (by omega), pk_mul, shrN (by omega) (by omega), p24, nI_add, nI_add, pk_shlN _ (2 * (5 - k)) (bt_sm _ (by omega)) (by rw [p24]; omega), p24]
      exact ih (i + 1) _ S (by omega) (by omega) s2 F B s3
theorem X_find {S : St} {K : St → Prop} (C : RC T) (X : XR T) (E : SeaEq S T) (D : DayR T S d1 f) (hd : d1 ≠ 2) (hq : q < 2) (h0 : f 0 = nI t) (htm : t + m ≤ 12) (R : RQ T (T.1 4 4) S q m f)
    (hK : ∀ S', (∀ c, c < 24 + 3 * q ∨ (24 + 3 * q + 2 < c ∧ c < 47) ∨ 53 < c → S'.1 c = S.1 c) → S'.1 (24 + 3 * q) 0 = nI 1 → RQ T (T.1 4 4) S' q m f → K S') : q_X5_find q d1 S (nI m) K := by
  obtain ⟨N, G, hN⟩ := XR_RN X
  have D2 := D
  obtain ⟨t', u, n', ht', p, hup, -, -⟩ := D2
  obtain ⟨L, hL⟩ := LF_ex (f := f) (fun s hs => (p.2.1.2.2.2.2.2.2.2.1 s hs).2)
  unfold q_X5_find
  refine ⟨fun _ => ?_, fun c => ?_⟩
  · refine X_setBounds (law := T.1 4 4) C X hN hL E D hq h0 htm (fun S' bb F B => ?_)
    rw [all_eq]
    refine ⟨4097, ?_⟩
    have F' : ∀ c, c < 24 + 3 * q ∨ (24 + 3 * q + 2 < c ∧ c < 47) ∨ 53 < c → (sI S' (24 + 3 * q) 1 (-1)).1 c = S.1 c := fun c hc => by rw [sI_ne _ _ _ _ (by omega)]; exact F c (by omega) (by omega)
    refine X_find29 (bb := bb) C X hN hL E D hd hq h0 htm (fun S2 F2 e2 I => hK S2 F2 e2 ?_) 4096 0 0 _ (by omega) (by omega) (by omega) F' (SB_keep B (fun j _ => by rw [sI_ne _ _ _ _ (by omega)]) (sI_ne _ _ _ _ (by omega))) (Or.inl ⟨rfl, by rw [sI_row, upd_s]⟩)
    rcases I with ⟨z1, -⟩ | ⟨P, p1, p2, p3, p4, p5⟩
    · omega
    · exact Or.inr ⟨e2, P, p1, p3, p2, p4, p5⟩
  · refine hK S (fun c _ => rfl) ?_ R
    rcases R with r | ⟨r, -⟩
    · exact absurd r c
    · exact r
end FD
