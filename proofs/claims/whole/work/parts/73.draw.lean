/-! ===== the chart is drawn ===== -/
section S18
variable {S T : St}
theorem tK_18 (E : Sea18 S T) {k : Nat} (hk : k < 6) : tK S k = tK T k := by unfold tK; rw [E (9 + k) (by omega) (by omega)]
theorem tS_18 (E : Sea18 S T) {s : Nat} (hs : s < 4) : tS S s = tS T s := by unfold tS; rw [E (15 + s) (by omega) (by omega)]
theorem kx_18 (E : Sea18 S T) {k h t : Nat} (hk : k < 6) : kxX S k h t = kxX T k h t := by unfold kxX; rw [E (9 + k) (by omega) (by omega), E 8 (by omega) (by omega)]
theorem ky_18 (E : Sea18 S T) {k h : Nat} (hk : k < 6) : kyX S k h = kyX T k h := by unfold kyX; rw [E (9 + k) (by omega) (by omega)]
theorem fr_18 (E : Sea18 S T) {k h t : Nat} (hk : k < 6) : frP S k h t = frP T k h t := by
  unfold frP seaX lfX
  rw [tK_18 E hk, kx_18 E hk, ky_18 E hk, E (9 + k) (by omega) (by omega), E 7 (by omega) (by omega)]
theorem sx_18 (E : Sea18 S T) {s t : Nat} (hs : s < 4) : sxX S s t = sxX T s t ∧ syX S s t = syX T s t := by unfold sxX syX; rw [E (15 + s) (by omega) (by omega)]; exact ⟨rfl, rfl⟩
theorem cr_18 (E : Sea18 S T) {a b h t : Nat} (ha : a < 6) (hb : b < 6) : crX S a b h t = crX T a b h t := by
  unfold crX
  rw [kx_18 E ha, kx_18 E hb, E (9 + a) (by omega) (by omega), E (9 + b) (by omega) (by omega)]
end S18
def RCm (T C : St) (k h t : Nat) : Prop := (∃ m, m < 16 ∧ C.1 21 (cIx k h t) = nI m ∧ ∀ s, s < 4 → (m.testBit s = true ↔ frP T k h t ∧ tS T s ∧ sxX T s t = kxX T k h t ∧ syX T s t = kyX T k h)) ∧
  (∃ m, m < 64 ∧ C.1 22 (cIx k h t) = nI m ∧ ∀ b, b < 6 → (m.testBit b = true ↔ frP T k h t ∧ k < b ∧ tK T b ∧ crX T k b h t))
def RCk (T C : St) (k h : Nat) : Prop := (∃ m, m < 4096 ∧ C.1 20 (4 * k + h) = nI m ∧ ∀ t, t < 12 → (m.testBit t = true ↔ frP T k h t)) ∧ ∀ t, t < 12 → RCm T C k h t
theorem RCm_keep {T C C' : St} {k h t : Nat} (R : RCm T C k h t) (e1 : C'.1 21 (cIx k h t) = C.1 21 (cIx k h t)) (e2 : C'.1 22 (cIx k h t) = C.1 22 (cIx k h t)) : RCm T C' k h t := by
  unfold RCm; rw [e1, e2]; exact R
theorem RCk_keep {T C C' : St} {k h : Nat} (R : RCk T C k h) (e0 : C'.1 20 (4 * k + h) = C.1 20 (4 * k + h)) (e1 : ∀ t, t < 12 → C'.1 21 (cIx k h t) = C.1 21 (cIx k h t) ∧ C'.1 22 (cIx k h t) = C.1 22 (cIx k h t)) : RCk T C' k h := by
  refine ⟨by rw [e0]; exact R.1, fun t ht => RCm_keep (R.2 t ht) (e1 t ht).1 (e1 t ht).2⟩
theorem RCk_T {T T' C : St} {k h : Nat} (E : Sea18 T' T) (hk : k < 6) (R : RCk T C k h) : RCk T' C k h := by
  obtain ⟨⟨m, m1, m2, m3⟩, r⟩ := R
  refine ⟨⟨m, m1, m2, fun t ht => by rw [fr_18 E hk]; exact m3 t ht⟩, fun t ht => ?_⟩
  obtain ⟨⟨a, a1, a2, a3⟩, ⟨b, b1, b2, b3⟩⟩ := r t ht
  refine ⟨⟨a, a1, a2, fun s hs => ?_⟩, ⟨b, b1, b2, fun q hq => ?_⟩⟩
  · rw [fr_18 E hk, tS_18 E hs, (sx_18 E hs).1, (sx_18 E hs).2, kx_18 E hk, ky_18 E hk]; exact a3 s hs
  · rw [fr_18 E hk, tK_18 E hq, cr_18 E hk hq]; exact b3 q hq
theorem rB_t {u : Nat → Prop} {k : Nat} (h : u k) : rB u (k + 1) = rB u k ||| 2 ^ k := if_pos h
theorem rB_f {u : Nat → Prop} {k : Nat} (h : ¬ u k) : rB u (k + 1) = rB u k := if_neg h
theorem rB_z {u : Nat → Prop} : ∀ n, (∀ j, j < n → ¬ u j) → rB u n = 0 := by
  intro n
  induction n with
  | zero => intro _; rfl
  | succ n ih => intro h; rw [rB_f (h n (by omega))]; exact ih (fun j hj => h j (by omega))
section DR
variable {S : St} {k h t : Nat}
theorem X_shAt {K : Int32 → Prop} (hk : k < 6) (h1 : 1 ≤ h) (h3 : h ≤ 3) (ht : t < 12) (hT : tK S k) (hK : K (nI (rB (fun s => tS S s ∧ sxX S s t = kxX S k h t ∧ syX S s t = kyX S k h) 4))) : q_X0_shoalsAt S (nI k) (nI h) (nI t) K := by
  unfold q_X0_shoalsAt
  rw [f_X4_kiteX hk h1 h3 ht hT, f_X4_kiteY hk hT]
  have l : ∀ m s, s + m = 4 → q_X0_shoalsAt_23 (nI k) (nI h) (nI t) S K (m + 1) (kxX S k h t) (kyX S k h) (nI (rB (fun s => tS S s ∧ sxX S s t = kxX S k h t ∧ syX S s t = kyX S k h) s)) (nI s) := by
    intro m
    induction m with
    | zero =>
      intro s hs
      rw [q_X0_shoalsAt_23_s, nle _ _ (by omega) (by omega), and_if (by omega), show s = 4 by omega]
      exact hK
    | succ m ih =>
      intro s hs
      have ih' := ih (s + 1) (by omega)
      have no : ¬ (tS S s ∧ sxX S s t = kxX S k h t ∧ syX S s t = kyX S k h) → q_X0_shoalsAt_66 (nI k) (nI h) (nI t) S K (q_X0_shoalsAt_23 (nI k) (nI h) (nI t) S K (m + 1)) (kxX S k h t) (kyX S k h) (nI (rB (fun s => tS S s ∧ sxX S s t = kxX S k h t ∧ syX S s t = kyX S k h) s)) (nI s) := fun q => by
        unfold q_X0_shoalsAt_66 q_X0_shoalsAt_67 q_X0_shoalsAt_84
        rw [and_if rfl, all_eq, all_eq, nI_or, Nat.or_zero, nI_add]
        rw [rB_f (u := fun s => tS S s ∧ sxX S s t = kxX S k h t ∧ syX S s t = kyX S k h) q] at ih'
        exact ih'
      rw [q_X0_shoalsAt_23_s, nle _ _ (by omega) (by omega), and_nif (by omega), f_X4_isToldShoal, bI_c (isSh_nI (show s < 4 by omega)), bbr]
      by_cases c1 : tS S s
      · rw [pif_t c1, f_X4_shoalX (show s < 4 by omega) c1, f_X4_shoalY (show s < 4 by omega) c1]
        refine ⟨fun q => ⟨fun q2 => ?_, fun q2 => no (fun z => q2 z.2.2)⟩, fun q => no (fun z => q z.2.1)⟩
        unfold q_X0_shoalsAt_67 q_X0_shoalsAt_84
        rw [and_nif (by decide), all_eq, all_eq, shl1 _ (by omega), nI_or, nI_add]
        rw [rB_t (u := fun s => tS S s ∧ sxX S s t = kxX S k h t ∧ syX S s t = kyX S k h) ⟨c1, q, q2⟩] at ih'
        exact ih'
      · rw [pif_f c1]
        exact no (fun z => c1 z.1)
  exact ⟨5, l 4 0 (by omega)⟩
theorem X_kAc {K : Int32 → Prop} (hk : k < 6) (h1 : 1 ≤ h) (h3 : h ≤ 3) (ht : t < 12) (hT : tK S k) (hK : K (nI (rB (fun b => k < b ∧ tK S b ∧ crX S k b h t) 6))) : q_X0_kitesAcross S (nI k) (nI h) (nI t) K := by
  unfold q_X0_kitesAcross
  have l : ∀ m b, b + m = 6 → k < b → q_X0_kitesAcross_8 (nI k) (nI h) (nI t) S K (m + 1) (nI (rB (fun b => k < b ∧ tK S b ∧ crX S k b h t) b)) (nI b) := by
    intro m
    induction m with
    | zero =>
      intro b hb _
      rw [q_X0_kitesAcross_8_s, nle _ _ (by omega) (by omega), and_if (by omega), show b = 6 by omega]
      exact hK
    | succ m ih =>
      intro b hb hkb
      have ih' := ih (b + 1) (by omega) (by omega)
      rw [q_X0_kitesAcross_8_s, nle _ _ (by omega) (by omega), and_nif (by omega), f_X4_wouldCross hk (show b < 6 by omega) h1 h3 ht, bbr]
      unfold q_X0_kitesAcross_37
      refine ⟨fun q => ?_, fun q => ?_⟩
      · rw [all_eq, all_eq, nI_or, Nat.or_zero, nI_add]
        rw [rB_f (u := fun b => k < b ∧ tK S b ∧ crX S k b h t) (fun z => q ⟨hT, z.2⟩)] at ih'
        exact ih'
      · rw [all_eq, all_eq, shl1 _ (by omega), nI_or, nI_add]
        rw [rB_t (u := fun b => k < b ∧ tK S b ∧ crX S k b h t) ⟨hkb, q.2⟩] at ih'
        exact ih'
  rw [all_eq, nI_add]
  have := l (6 - (k + 1)) (k + 1) (by omega) (by omega)
  rw [rB_z (k + 1) (fun j hj z => by have := z.1; omega)] at this
  exact ⟨_, this⟩
/-- one row of the chart -/
theorem X_drawKite {K : St → Prop} (hk : k < 6) (h1 : 1 ≤ h) (h3 : h ≤ 3)
    (hK : ∀ S', (∀ c, c ≠ 20 → c ≠ 21 → c ≠ 22 → S'.1 c = S.1 c) → (∀ j, j ≠ 4 * k + h → S'.1 20 j = S.1 20 j) → (∀ j, (j < 12 * (4 * k + h) ∨ 12 * (4 * k + h) + 12 ≤ j) → S'.1 21 j = S.1 21 j ∧ S'.1 22 j = S.1 22 j) → RCk S S' k h → K S') : q_X0_drawKite S (nI k) (nI h) K := by
  have l : ∀ (m t : Nat) (C : St), t + m = 12 → (∀ c, c ≠ 21 → c ≠ 22 → C.1 c = S.1 c) → (∀ j, (j < 12 * (4 * k + h) ∨ 12 * (4 * k + h) + 12 ≤ j) → C.1 21 j = S.1 21 j ∧ C.1 22 j = S.1 22 j) → (∀ t', t' < t → RCm S C k h t') →
      q_X0_drawKite_13 (nI k) (nI h) K (m + 1) C (nI (4 * k + h)) (nI (rB (frP S k h) t)) (nI t) := by
    intro m
    induction m with
    | zero =>
      intro t C ht f1 f2 f3
      rw [q_X0_drawKite_13_s, nle _ _ (by omega) (by omega), and_if (by omega), all_eq, ncl _ (by omega)]
      refine ⟨vp_in_nI (by omega) (by omega), hK _ (fun c c0 c1 c2 => ?_) (fun j hj => ?_) (fun j hj => ?_) ⟨⟨rB (frP S k h) 12, ?_, ?_, fun t' ht' => ?_⟩, fun t' ht' => ?_⟩⟩
      · rw [sI_ne _ _ _ _ c0]; exact f1 c c1 c2
      · rw [sI_other _ _ _ hj, f1 20 (by omega) (by omega)]
      · rw [sI_ne _ _ _ _ (by omega), sI_ne _ _ _ _ (by omega)]; exact f2 j hj
      · exact rB_lt _ 12
      · rw [sI_same, show t = 12 by omega]
      · rw [rB_bit]; exact ⟨fun z => z.2, fun z => ⟨ht', z⟩⟩
      · exact RCm_keep (f3 t' (by omega)) (by rw [sI_ne _ _ _ _ (by omega)]) (by rw [sI_ne _ _ _ _ (by omega)])
    | succ m ih =>
      intro t C ht f1 f2 f3
      have E : Sea18 C S := fun c c1 c2 => f1 c (by omega) (by omega)
      have hrB := rB_lt (frP S k h) t
      have h212 : 2 ^ t ≤ 2 ^ 12 := Nat.pow_le_pow_right (by omega) (by omega)
      have ci : nI (4 * k + h) * nI 12 + nI t = nI (cIx k h t) := by rw [pk_mul, nI_add]; rfl
      have cl : cIx k h t < 288 := by unfold cIx; omega
      -- the two writes of this hour
      have w : ∀ (m0 m1 : Nat) (x5 : Nat), x5 = rB (frP S k h) (t + 1) → m0 < 16 → m1 < 64 → (∀ s, s < 4 → (m0.testBit s = true ↔ frP S k h t ∧ tS S s ∧ sxX S s t = kxX S k h t ∧ syX S s t = kyX S k h)) → (∀ b, b < 6 → (m1.testBit b = true ↔ frP S k h t ∧ k < b ∧ tK S b ∧ crX S k b h t)) →
          q_X0_drawKite_126 (nI k) (nI h) K (q_X0_drawKite_13 (nI k) (nI h) K (m + 1)) (sI C 21 (cIx k h t) (nI m0)) (nI (4 * k + h)) (nI x5) (nI t) (nI m1) (nI (cIx k h t)) := fun m0 m1 x5 e5 b0 b1 p0 p1 => by
        unfold q_X0_drawKite_126
        rw [all_eq, all_eq, ncl _ (by omega), nI_add, e5]
        refine ⟨vp_in_nI cl (by omega), ih (t + 1) _ (by omega) (fun c c1 c2 => ?_) (fun j hj => ?_) (fun t' ht' => ?_)⟩
        · rw [sI_ne _ _ _ _ c2, sI_ne _ _ _ _ c1]; exact f1 c c1 c2
        · have hj2 : j ≠ cIx k h t := by unfold cIx; omega
          rw [sI_ne _ _ _ _ (by omega), sI_other _ _ _ hj2, sI_other _ _ _ hj2, sI_ne _ _ _ _ (by omega)]
          exact f2 j hj
        · by_cases c : t' = t
          · rw [c]
            refine ⟨⟨m0, b0, ?_, p0⟩, ⟨m1, b1, ?_, p1⟩⟩
            · rw [sI_ne _ _ _ _ (by omega), sI_same]
            · rw [sI_same]
          · have hne : cIx k h t' ≠ cIx k h t := by unfold cIx; omega
            refine RCm_keep (f3 t' (by omega)) ?_ ?_
            · rw [sI_ne _ _ _ _ (by omega), sI_other _ _ _ hne]
            · rw [sI_other _ _ _ hne, sI_ne _ _ _ _ (by omega)]
      have no : ¬ frP S k h t → q_X0_drawKite_46 (nI k) (nI h) K (q_X0_drawKite_13 (nI k) (nI h) K (m + 1)) C (nI (4 * k + h)) (nI (rB (frP S k h) t)) (nI t) := fun q => by
        unfold q_X0_drawKite_46 q_X0_drawKite_47 q_X0_drawKite_64 q_X0_drawKite_96
        rw [and_if rfl, all_eq, and_if rfl, nI_or, Nat.or_zero, ci, ncl _ (by omega), all_eq, and_if rfl]
        refine ⟨vp_in_nI cl (by omega), w 0 0 _ (rB_f q).symm (by omega) (by omega) (fun s hs => ?_) (fun b hb => ?_)⟩
        · rw [Nat.zero_testBit]; exact ⟨fun z => absurd z (by decide), fun z => absurd z.1 q⟩
        · rw [Nat.zero_testBit]; exact ⟨fun z => absurd z (by decide), fun z => absurd z.1 q⟩
      rw [q_X0_drawKite_13_s, nle _ _ (by omega) (by omega), and_nif (by omega), f_X4_isInSea hk h1 h3 (by omega), f_X4_hasLift hk h1 h3 (by omega), bbr, bbr]
      have efr : frP S k h t ↔ (tK C k ∧ seaX C k h t) ∧ (tK C k ∧ lfX C k h t) := by
        rw [← fr_18 E hk]
        exact ⟨fun z => ⟨⟨z.2.1, z.2.2.1⟩, z.2.1, z.2.2.2⟩, fun z => ⟨h1, z.1.1, z.1.2, z.2.2⟩⟩
      refine ⟨fun q => no (fun z => q (efr.mp z).1), fun q => ⟨fun q2 => no (fun z => q2 (efr.mp z).2), fun q2 => ?_⟩⟩
      have fr := efr.mpr ⟨q, q2⟩
      unfold q_X0_drawKite_47 q_X0_drawKite_64
      rw [and_nif (by decide), all_eq, and_nif (by decide), shl1 _ (by omega), nI_or, ← rB_t fr]
      refine X_shAt hk h1 h3 (by omega) q.1 ?_
      unfold q_X0_drawKite_96
      rw [ci, ncl _ (by omega), all_eq, and_nif (by decide)]
      refine ⟨vp_in_nI cl (by omega), ?_⟩
      have hb4 := rB_lt (fun s => tS C s ∧ sxX C s t = kxX C k h t ∧ syX C s t = kyX C k h) 4
      have E2 : ∀ v, Sea18 (sI C 21 (cIx k h t) v) S := fun v c c1 c2 => by rw [sI_ne _ _ _ _ (by omega)]; exact E c c1 c2
      refine X_kAc hk h1 h3 (by omega) (by rw [tK_18 (E2 _) hk, ← tK_18 E hk]; exact q.1) ?_
      have hb6 := rB_lt (fun b => k < b ∧ tK (sI C 21 (cIx k h t) (nI (rB (fun s => tS C s ∧ sxX C s t = kxX C k h t ∧ syX C s t = kyX C k h) 4))) b ∧ crX (sI C 21 (cIx k h t) (nI (rB (fun s => tS C s ∧ sxX C s t = kxX C k h t ∧ syX C s t = kyX C k h) 4))) k b h t) 6
      refine w _ _ _ rfl hb4 hb6 (fun s hs => ?_) (fun b hb => ?_)
      · rw [rB_bit, tS_18 E hs, (sx_18 E hs).1, (sx_18 E hs).2, kx_18 E hk, ky_18 E hk]
        exact ⟨fun z => ⟨fr, z.2⟩, fun z => ⟨hs, z.2⟩⟩
      · rw [rB_bit, tK_18 (E2 _) hb, cr_18 (E2 _) hk hb]
        exact ⟨fun z => ⟨fr, z.2⟩, fun z => ⟨hb, z.2⟩⟩
  unfold q_X0_drawKite
  rw [all_eq, pk_mul, nI_add, Nat.mul_comm k 4]
  exact ⟨13, l 12 0 S (by omega) (fun _ _ _ => rfl) (fun _ _ => ⟨rfl, rfl⟩) (fun t' ht' => by omega)⟩
theorem X_draw {K : St → Prop} (h0 : ∀ k, k < 6 → RCk S S k 0) (hK : ∀ S', (∀ c, c ≠ 20 → c ≠ 21 → c ≠ 22 → S'.1 c = S.1 c) → RC S' → K S') : q_X0_draw S K := by
  -- k rows are drawn, and of the next those of heights below h
  have l2 : ∀ (m k : Nat) (C : St), k + m = 6 → (∀ c, c ≠ 20 → c ≠ 21 → c ≠ 22 → C.1 c = S.1 c) → (∀ k' h', k' < 6 → h' ≤ 3 → (k' < k ∨ h' = 0) → RCk S C k' h') → q_X0_draw_2 K (m + 1) C (nI k) := by
    intro m
    induction m with
    | zero =>
      intro k C hk f1 f2
      rw [q_X0_draw_2_s, nle _ _ (by omega) (by omega), and_if (by omega)]
      refine hK C f1 (fun k' h' hk' hh' => ?_)
      exact RCk_T (fun c c1 c2 => f1 c (by omega) (by omega) (by omega)) hk' (f2 k' h' hk' hh' (Or.inl (by omega)))
    | succ m ih =>
      intro k C hk f1 f2
      rw [q_X0_draw_2_s, nle _ _ (by omega) (by omega), and_nif (by omega)]
      have l1 : ∀ (n h : Nat) (C : St), h + n = 4 → 1 ≤ h → (∀ c, c ≠ 20 → c ≠ 21 → c ≠ 22 → C.1 c = S.1 c) → (∀ k' h', k' < 6 → h' ≤ 3 → (k' < k ∨ h' = 0 ∨ (k' = k ∧ h' < h)) → RCk S C k' h') → q_X0_draw_10 K (q_X0_draw_2 K (m + 1)) (n + 1) C (nI k) (nI h) := by
        intro n
        induction n with
        | zero =>
          intro h C hh h1 f1 f2
          rw [q_X0_draw_10_s, nle _ _ (by omega) (by omega), and_if (by omega), all_eq, nI_add]
          exact ih (k + 1) C (by omega) f1 (fun k' h' hk' hh' q => f2 k' h' hk' hh' (by omega))
        | succ n ihn =>
          intro h C hh h1 f1 f2
          rw [q_X0_draw_10_s, nle _ _ (by omega) (by omega), and_nif (by omega)]
          refine X_drawKite (by omega) h1 (by omega) (fun S' g1 g2 g3 g4 => ?_)
          rw [all_eq, nI_add]
          refine ihn (h + 1) S' (by omega) (by omega) (fun c c0 c1 c2 => by rw [g1 c c0 c1 c2]; exact f1 c c0 c1 c2) (fun k' h' hk' hh' q => ?_)
          by_cases c : k' = k ∧ h' = h
          · rw [c.1, c.2]
            exact RCk_T (fun x x1 x2 => (f1 x (by omega) (by omega) (by omega)).symm) (by omega) g4
          · refine RCk_keep (f2 k' h' hk' hh' (by omega)) (g2 _ (by omega)) (fun t ht => ?_)
            exact g3 _ (by unfold cIx; omega)
      exact ⟨4, l1 3 1 C (by omega) (by omega) f1 (fun k' h' hk' hh' q => f2 k' h' hk' hh' (by omega))⟩
  exact ⟨7, l2 6 0 S (by omega) (fun _ _ _ _ => rfl) (fun k' h' hk' hh' q => by
    have e : h' = 0 := by omega
    rw [e]; exact h0 k' hk')⟩
end DR
