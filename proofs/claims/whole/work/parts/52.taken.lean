/-! ===== how many fish are taken ===== -/
theorem atV_of {T : St} {k t s : Nat} {f g : Nat → Int32} (hk : k < 6) (hs : s < 4) (e : ∀ j, j < 39 → g j = f j) : atV T k t s g = atV T k t s f := by
  unfold atV hgt
  rw [e (31 + s) (by omega), e (35 + s) (by omega), e (7 + k) (by omega)]
theorem tk1_spec {T : St} {k t s : Nat} {q : TQ} {l w L : Nat} (hs : s < 4) (h1 : q.2.1 = nI l) (h2 : q.2.2 = nI w) (h3 : q.1 (39 + s) = nI L) (hl : l ≤ 1000) (hL : L ≤ 99) :
    ∃ a, a ≤ l ∧ a ≤ L ∧ (a ≠ 0 → atV T k t s q.1) ∧ (tk1 T k t s q).1 (39 + s) = nI (L - a) ∧ (tk1 T k t s q).2.1 = nI (l - a) ∧ (tk1 T k t s q).2.2 = nI (w + a) := by
  by_cases c : fsV T k t s q.1 q.2.1 ≤ nI 0
  · refine ⟨0, by omega, by omega, fun q => absurd rfl q, ?_⟩
    unfold tk1
    rw [if_pos c]
    exact ⟨h3, h1, h2⟩
  · have hat : atV T k t s q.1 := by
      by_cases c2 : atV T k t s q.1
      · exact c2
      · exfalso; apply c; unfold fsV; rw [if_neg c2]; decide
    have e : fsV T k t s q.1 q.2.1 = nI (min l L) := by
      unfold fsV
      rw [if_pos hat, h1, h3]
      by_cases c3 : l ≤ L
      · rw [if_pos ((nle _ _ (by omega) (by omega)).mpr c3), Nat.min_eq_left c3]
      · rw [if_neg (fun q => c3 ((nle _ _ (by omega) (by omega)).mp q)), Nat.min_eq_right (by omega)]
    refine ⟨min l L, by omega, by omega, fun _ => hat, ?_⟩
    unfold tk1
    rw [if_neg c, e]
    refine ⟨?_, ?_, ?_⟩
    · show wrT k s t (nI (min l L)) q.1 (39 + s) = _
      unfold wrT
      rw [upd_s, h3, pk_sub (by omega)]
    · show q.2.1 - nI (min l L) = _
      rw [h1, pk_sub (by omega)]
    · show q.2.2 + nI (min l L) = _
      rw [h2, nI_add]
def gvN (G W : Nat) : Nat := if G = 0 then W else W - W / G
theorem nTake_spec {T : St} {k t N G : Nat} {f : Nat → Int32} {L : Nat → Nat} (hk : k < 6) (hN : T.1 (9 + k) 4 = nI N) (hN9 : N ≤ 9) (hG : T.1 4 7 = nI G) (hG9 : G ≤ 9) (hL : ∀ s, s < 4 → f (39 + s) = nI (L s) ∧ L s ≤ 99) :
    ∃ a : Nat → Nat, (∀ s, s < 4 → a s ≤ L s ∧ (a s ≠ 0 → atV T k t s f) ∧ nTake T k t f (39 + s) = nI (L s - a s)) ∧ a 0 + a 1 + a 2 + a 3 ≤ 3 * N ∧ nTake T k t f (13 + k) = f (13 + k) + nI (gvN G (a 0 + a 1 + a 2 + a 3)) := by
  obtain ⟨e0, g0⟩ := hL 0 (by omega)
  obtain ⟨e1, g1⟩ := hL 1 (by omega)
  obtain ⟨e2, g2⟩ := hL 2 (by omega)
  obtain ⟨e3, g3⟩ := hL 3 (by omega)
  have hq : tkN T k t 4 0 (f, nI 3 * T.1 (9 + k) 4, nI 0) = tk1 T k t 3 (tk1 T k t 2 (tk1 T k t 1 (tk1 T k t 0 (f, nI 3 * T.1 (9 + k) 4, nI 0)))) := rfl
  obtain ⟨a0, x1, x2, x3, x4, x5, x6⟩ := tk1_spec (T := T) (k := k) (t := t) (s := 0) (q := (f, nI 3 * T.1 (9 + k) 4, nI 0)) (l := 3 * N) (w := 0) (L := L 0) (by omega) (by show nI 3 * T.1 (9 + k) 4 = _; rw [hN, pk_mul]) rfl e0 (by omega) g0
  generalize hq0 : tk1 T k t 0 (f, nI 3 * T.1 (9 + k) 4, nI 0) = q0 at *
  have n0 : ∀ j, j < 44 → j ≠ 39 + 0 → q0.1 j = f j := fun j h1 h2 => by rw [← hq0]; exact tk1_n h1 h2
  obtain ⟨a1, y1, y2, y3, y4, y5, y6⟩ := tk1_spec (T := T) (k := k) (t := t) (s := 1) (q := q0) (L := L 1) (by omega) x5 x6 (by rw [n0 _ (by omega) (by omega)]; exact e1) (by omega) g1
  generalize hq1 : tk1 T k t 1 q0 = q1 at *
  have n1 : ∀ j, j < 44 → j ≠ 39 + 1 → q1.1 j = q0.1 j := fun j h1 h2 => by rw [← hq1]; exact tk1_n h1 h2
  obtain ⟨a2, z1, z2, z3, z4, z5, z6⟩ := tk1_spec (T := T) (k := k) (t := t) (s := 2) (q := q1) (L := L 2) (by omega) y5 y6 (by rw [n1 _ (by omega) (by omega), n0 _ (by omega) (by omega)]; exact e2) (by omega) g2
  generalize hq2 : tk1 T k t 2 q1 = q2 at *
  have n2 : ∀ j, j < 44 → j ≠ 39 + 2 → q2.1 j = q1.1 j := fun j h1 h2 => by rw [← hq2]; exact tk1_n h1 h2
  obtain ⟨a3, w1, w2, w3, w4, w5, w6⟩ := tk1_spec (T := T) (k := k) (t := t) (s := 3) (q := q2) (L := L 3) (by omega) z5 z6 (by rw [n2 _ (by omega) (by omega), n1 _ (by omega) (by omega), n0 _ (by omega) (by omega)]; exact e3) (by omega) g3
  generalize hq3 : tk1 T k t 3 q2 = q3 at *
  have n3 : ∀ j, j < 44 → j ≠ 39 + 3 → q3.1 j = q2.1 j := fun j h1 h2 => by rw [← hq3]; exact tk1_n h1 h2
  have a1' := atV_of (T := T) (t := t) (f := f) (g := q0.1) hk (show 1 < 4 by omega) (fun j hj => n0 j (by omega) (by omega))
  have a2' := atV_of (T := T) (t := t) (f := f) (g := q1.1) hk (show 2 < 4 by omega) (fun j hj => by rw [n1 j (by omega) (by omega), n0 j (by omega) (by omega)])
  have a3' := atV_of (T := T) (t := t) (f := f) (g := q2.1) hk (show 3 < 4 by omega) (fun j hj => by rw [n2 j (by omega) (by omega), n1 j (by omega) (by omega), n0 j (by omega) (by omega)])
  rw [a1'] at y3; rw [a2'] at z3; rw [a3'] at w3
  have hW : thV T (nI (0 + a0 + a1 + a2 + a3)) = nI (if G = 0 then 0 else (0 + a0 + a1 + a2 + a3) / G) := by
    unfold thV
    rw [hG]
    by_cases c : G = 0
    · rw [if_pos (by rw [c]), if_pos c]
    · rw [if_neg (fun q => c ((neq _ _ (by omega) (by omega)).mp q)), if_neg c, pk_div (by omega) (by omega) (by omega)]
  have hd : (0 + a0 + a1 + a2 + a3) / G ≤ 0 + a0 + a1 + a2 + a3 := Nat.div_le_self _ _
  refine ⟨fun s => if s = 0 then a0 else if s = 1 then a1 else if s = 2 then a2 else a3, fun s hs => ?_, ?_, ?_⟩
  · rw [nTake_e, hq]
    unfold nEnd
    rw [upd_n _ _ (by omega), upd_n _ _ (by omega)]
    rcases (show s = 0 ∨ s = 1 ∨ s = 2 ∨ s = 3 by omega) with rfl | rfl | rfl | rfl
    · exact ⟨x2, x3, by rw [n3 _ (by omega) (by omega), n2 _ (by omega) (by omega), n1 _ (by omega) (by omega)]; exact x4⟩
    · exact ⟨y2, y3, by rw [n3 _ (by omega) (by omega), n2 _ (by omega) (by omega)]; exact y4⟩
    · exact ⟨z2, z3, by rw [n3 _ (by omega) (by omega)]; exact z4⟩
    · exact ⟨w2, w3, w4⟩
  · show a0 + a1 + a2 + a3 ≤ 3 * N
    omega
  · show nTake T k t f (13 + k) = f (13 + k) + nI (gvN G (a0 + a1 + a2 + a3))
    rw [nTake_e, hq]
    unfold nEnd
    rw [upd_s, w6, hW, n3 _ (by omega) (by omega), n2 _ (by omega) (by omega), n1 _ (by omega) (by omega), n0 _ (by omega) (by omega)]
    unfold gvN
    rw [Nat.zero_add] at hd ⊢
    by_cases c : G = 0
    · rw [if_pos c, if_pos c, s0]
    · rw [if_neg c, if_neg c, pk_sub hd]
