/-! ===== the start: what the Statement gives ===== -/
theorem nestX_in : ∀ w ∈ nestX, w ∈ lw_tbl := by
  intro w hw
  simp only [nestX, List.mem_cons, List.not_mem_nil, or_false] at hw
  rcases hw with rfl | rfl | rfl | rfl | rfl | rfl | rfl | rfl | rfl | rfl | rfl | rfl | rfl | rfl | rfl
  · exact kNM_X8_11
  · exact kNM_X4_34
  · exact kNM_X4_35
  · exact kNM_X8_25
  · exact kNM_X8_32
  · exact kNM_X8_49
  · exact kNM_X8_59
  · exact kNF_X7_70
  · exact kNF_X7_77
  · exact kNF_X7_80
  · exact kNM_X4_63
  · exact kNM_X4_111
  · exact kNM_X0_63
  · exact kNM_X1_79
  · exact kNM_X5_81
section ST
variable {s : State} {b : Nat} {A : Nat → Prop}
theorem st_nest (hts : ∀ w ∈ lw_tbl, w.before #[Value.ref b] s = true) : ∀ w ∈ nestX, va_Nw w s := by
  intro w hw
  have h1 := hts w (nestX_in w hw)
  simp only [nestX, List.mem_cons, List.not_mem_nil, or_false] at hw
  rcases hw with rfl | rfl | rfl | rfl | rfl | rfl | rfl | rfl | rfl | rfl | rfl | rfl | rfl | rfl | rfl <;> exact va_Nw.of rfl h1
theorem st_arr {ty : FieldType} {g : String} (e : "[" ++ ty.toString = g) (ho : ∀ C, ty ≠ .object C) (h : (Cond.arrayClass ty).before #[Value.ref b] s = true) : ∃ cA, ArrOfT s cA ty ∧ va_RA s cA ty := by
  obtain ⟨c, k, comp, h1, h2, h3⟩ := Cond.arrayClass_spec h
  refine ⟨c, fun n z => ⟨(fun k h => by cases h), k, h2, comp, h3⟩, ?_⟩
  cases ty with
  | object C => exact absurd rfl (ho C)
  | _ => exact h1
theorem st_arq {C : String} (h : (Cond.arrayOver (.object C)).before #[Value.ref b] s = true) : ∃ cA, ArrOfT s cA (.object C) ∧ va_RA s cA (.object C) := by
  obtain ⟨comp, c, k, h1, h2, h3, h4, h5⟩ := Cond.arrayOver_spec h
  exact ⟨c, fun n z => ⟨(fun k h => by cases h), k, h3, comp, h4⟩, k, comp, h3, h4, h1, h5⟩
set_option maxRecDepth 100000 in
theorem st_K (hts : ∀ w ∈ lw_tbl, w.before #[Value.ref b] s = true) : ∃ (D : va_G) (cy : Nat → ClassId), va_K D vwCl (tysG cy) s := by
  have hB : ∀ w ∈ BIG, w.before #[Value.ref b] s = true := fun w h => hts w (BIG_in w h)
  obtain ⟨c0, i0, k0⟩ := u_known (C := RX0) (T := TX0) (N := 3) (n := 3) hB inBX0 (hB _ kIS_X0)
  obtain ⟨c1, i1, k1⟩ := u_known (C := RX1) (T := TX1) (N := 11) (n := 11) hB inBX1 (hB _ kIS_X1)
  obtain ⟨c2, i2, k2⟩ := u_known (C := RX2) (T := TX2) (N := 6) (n := 6) hB inBX2 (hB _ kIS_X2)
  obtain ⟨c3, i3, k3⟩ := u_known (C := RX3) (T := TX3) (N := 2) (n := 2) hB inBX3 (hB _ kIS_X3)
  obtain ⟨c4, i4, k4⟩ := u_known (C := RX4) (T := TX4) (N := 8) (n := 8) hB inBX4 (hB _ kIS_X4)
  obtain ⟨c5, i5, k5⟩ := u_known (C := RX5) (T := TX5) (N := 5) (n := 5) hB inBX5 (hB _ kIS_X5)
  obtain ⟨c6, i6, k6⟩ := u_known (C := RX6) (T := TX6) (N := 6) (n := 6) hB inBX6 (hB _ kIS_X6)
  obtain ⟨c7, i7, k7⟩ := u_known (C := RX7) (T := TX7) (N := 5) (n := 5) hB inBX7 (hB _ kIS_X7)
  obtain ⟨c8, i8, k8⟩ := u_known (C := RX8) (T := TX8) (N := 11) (n := 11) hB inBX8 (hB _ kIS_X8)
  obtain ⟨c9, i9, k9⟩ := u_known (C := RX9) (T := TX9) (N := 24) (n := 24) hB inBX9 (hB _ kIS_X9)
  obtain ⟨a0, r0⟩ := st_arr (ty := .int) rfl (fun C h => by cases h) (hB _ kAC_int)
  obtain ⟨a1, r1⟩ := st_arr (ty := .long) rfl (fun C h => by cases h) (hB _ kAC_long)
  obtain ⟨a2, r2⟩ := st_arr (ty := .boolean) rfl (fun C h => by cases h) (hB _ kAC_boolean)
  obtain ⟨a3, r3⟩ := st_arq (hts _ kAO_X1)
  obtain ⟨a4, r4⟩ := st_arq (hts _ kAO_X2)
  obtain ⟨a5, r5⟩ := st_arq (hts _ kAO_X6)
  refine ⟨(fun k => [c0, c1, c2, c3, c4, c5, c6, c7, c8, c9].getD k c0, fun k => [i0, i1, i2, i3, i4, i5, i6, i7, i8, i9].getD k i0), fun k => [a0, a1, a2, a3, a4, a5].getD k a0, ?_, ?_⟩
  · intro k q hq
    match k, hq with
    | 0, hq => cases hq; exact k0
    | 1, hq => cases hq; exact k1
    | 2, hq => cases hq; exact k2
    | 3, hq => cases hq; exact k3
    | 4, hq => cases hq; exact k4
    | 5, hq => cases hq; exact k5
    | 6, hq => cases hq; exact k6
    | 7, hq => cases hq; exact k7
    | 8, hq => cases hq; exact k8
    | 9, hq => cases hq; exact k9
    | k + 10, hq => simp [vwCl] at hq
  · intro k q hq
    match k, hq with
    | 0, hq => cases hq; exact r0
    | 1, hq => cases hq; exact r1
    | 2, hq => cases hq; exact r2
    | 3, hq => cases hq; exact r3
    | 4, hq => cases hq; exact r4
    | 5, hq => cases hq; exact r5
    | k + 6, hq => simp at hq
set_option maxRecDepth 100000 in
set_option maxHeartbeats 4000000 in
theorem st_NUMBERS_FROM (hts : ∀ w ∈ lw_tbl, w.before #[Value.ref b] s = true) (hgv : (Jvm.Cond.and given_1 narrow_1).before #[Value.ref b] s = true) (hA : ∀ a : Nat, a < s.heap.size → ¬ A a) : ∃ t : Nat, va_Z RX8 "NUMBERS_FROM" "[I" (.ref t) A s s.heap ∧ va_T .int t 10 (fun j => .int (tbN.getD j 0)) A s s.heap := by
  have hs := flat_of_before _ hgv
  obtain ⟨t, h1, h2⟩ := va_Tof (s := s) (args := #[Value.ref b]) (tm := (Term.static "FishingKites" "NUMBERS_FROM" "[I")) (ty := .int) (N := 10) (f := fun j => .int (tbN.getD j 0)) (A := A) (by decide) (hs _ (by decide +kernel)) (va_eqt (t := .length (Term.static "FishingKites" "NUMBERS_FROM" "[I")) (z := 10) (hs _ (by decide +kernel))) (fun j hj => (match j, hj with
    | 0, _ => va_eqt (t := .elem (Term.static "FishingKites" "NUMBERS_FROM" "[I") (.int 0)) (z := 0) (hs _ (by decide +kernel))
    | 1, _ => va_eqt (t := .elem (Term.static "FishingKites" "NUMBERS_FROM" "[I") (.int 1)) (z := 5) (hs _ (by decide +kernel))
    | 2, _ => va_eqt (t := .elem (Term.static "FishingKites" "NUMBERS_FROM" "[I") (.int 2)) (z := 11) (hs _ (by decide +kernel))
    | 3, _ => va_eqt (t := .elem (Term.static "FishingKites" "NUMBERS_FROM" "[I") (.int 3)) (z := 17) (hs _ (by decide +kernel))
    | 4, _ => va_eqt (t := .elem (Term.static "FishingKites" "NUMBERS_FROM" "[I") (.int 4)) (z := 18) (hs _ (by decide +kernel))
    | 5, _ => va_eqt (t := .elem (Term.static "FishingKites" "NUMBERS_FROM" "[I") (.int 5)) (z := 19) (hs _ (by decide +kernel))
    | 6, _ => va_eqt (t := .elem (Term.static "FishingKites" "NUMBERS_FROM" "[I") (.int 6)) (z := 21) (hs _ (by decide +kernel))
    | 7, _ => va_eqt (t := .elem (Term.static "FishingKites" "NUMBERS_FROM" "[I") (.int 7)) (z := 22) (hs _ (by decide +kernel))
    | 8, _ => va_eqt (t := .elem (Term.static "FishingKites" "NUMBERS_FROM" "[I") (.int 8)) (z := 22) (hs _ (by decide +kernel))
    | 9, _ => va_eqt (t := .elem (Term.static "FishingKites" "NUMBERS_FROM" "[I") (.int 9)) (z := 23) (hs _ (by decide +kernel))
    | j + 10, h => absurd h (by omega))) hA
  exact ⟨t, va_Zref (C := RX8) (hts _ kLS_NUMBERS_FROM) (hts _ (BIG_in _ kIN_X8)) h1 hA, h2⟩
set_option maxRecDepth 100000 in
set_option maxHeartbeats 4000000 in
theorem st_LEAST (hts : ∀ w ∈ lw_tbl, w.before #[Value.ref b] s = true) (hgv : (Jvm.Cond.and given_1 narrow_1).before #[Value.ref b] s = true) (hA : ∀ a : Nat, a < s.heap.size → ¬ A a) : ∃ t : Nat, va_Z RX8 "LEAST" "[I" (.ref t) A s s.heap ∧ va_T .int t 23 (fun j => .int (tbL.getD j 0)) A s s.heap := by
  have hs := flat_of_before _ hgv
  obtain ⟨t, h1, h2⟩ := va_Tof (s := s) (args := #[Value.ref b]) (tm := (Term.static "FishingKites" "LEAST" "[I")) (ty := .int) (N := 23) (f := fun j => .int (tbL.getD j 0)) (A := A) (by decide) (hs _ (by decide +kernel)) (va_eqt (t := .length (Term.static "FishingKites" "LEAST" "[I")) (z := 23) (hs _ (by decide +kernel))) (fun j hj => (match j, hj with
    | 0, _ => va_eqt (t := .elem (Term.static "FishingKites" "LEAST" "[I") (.int 0)) (z := 1) (hs _ (by decide +kernel))
    | 1, _ => va_eqt (t := .elem (Term.static "FishingKites" "LEAST" "[I") (.int 1)) (z := 0) (hs _ (by decide +kernel))
    | 2, _ => va_eqt (t := .elem (Term.static "FishingKites" "LEAST" "[I") (.int 2)) (z := 0) (hs _ (by decide +kernel))
    | 3, _ => va_eqt (t := .elem (Term.static "FishingKites" "LEAST" "[I") (.int 3)) (z := 0) (hs _ (by decide +kernel))
    | 4, _ => va_eqt (t := .elem (Term.static "FishingKites" "LEAST" "[I") (.int 4)) (z := 0) (hs _ (by decide +kernel))
    | 5, _ => va_eqt (t := .elem (Term.static "FishingKites" "LEAST" "[I") (.int 5)) (z := 0) (hs _ (by decide +kernel))
    | 6, _ => va_eqt (t := .elem (Term.static "FishingKites" "LEAST" "[I") (.int 6)) (z := 0) (hs _ (by decide +kernel))
    | 7, _ => va_eqt (t := .elem (Term.static "FishingKites" "LEAST" "[I") (.int 7)) (z := 1) (hs _ (by decide +kernel))
    | 8, _ => va_eqt (t := .elem (Term.static "FishingKites" "LEAST" "[I") (.int 8)) (z := 1) (hs _ (by decide +kernel))
    | 9, _ => va_eqt (t := .elem (Term.static "FishingKites" "LEAST" "[I") (.int 9)) (z := 0) (hs _ (by decide +kernel))
    | 10, _ => va_eqt (t := .elem (Term.static "FishingKites" "LEAST" "[I") (.int 10)) (z := 0) (hs _ (by decide +kernel))
    | 11, _ => va_eqt (t := .elem (Term.static "FishingKites" "LEAST" "[I") (.int 11)) (z := 0) (hs _ (by decide +kernel))
    | 12, _ => va_eqt (t := .elem (Term.static "FishingKites" "LEAST" "[I") (.int 12)) (z := 0) (hs _ (by decide +kernel))
    | 13, _ => va_eqt (t := .elem (Term.static "FishingKites" "LEAST" "[I") (.int 13)) (z := 1) (hs _ (by decide +kernel))
    | 14, _ => va_eqt (t := .elem (Term.static "FishingKites" "LEAST" "[I") (.int 14)) (z := 0) (hs _ (by decide +kernel))
    | 15, _ => va_eqt (t := .elem (Term.static "FishingKites" "LEAST" "[I") (.int 15)) (z := 0) (hs _ (by decide +kernel))
    | 16, _ => va_eqt (t := .elem (Term.static "FishingKites" "LEAST" "[I") (.int 16)) (z := 0) (hs _ (by decide +kernel))
    | 17, _ => va_eqt (t := .elem (Term.static "FishingKites" "LEAST" "[I") (.int 17)) (z := 0) (hs _ (by decide +kernel))
    | 18, _ => va_eqt (t := .elem (Term.static "FishingKites" "LEAST" "[I") (.int 18)) (z := 0) (hs _ (by decide +kernel))
    | 19, _ => va_eqt (t := .elem (Term.static "FishingKites" "LEAST" "[I") (.int 19)) (z := 0) (hs _ (by decide +kernel))
    | 20, _ => va_eqt (t := .elem (Term.static "FishingKites" "LEAST" "[I") (.int 20)) (z := 0) (hs _ (by decide +kernel))
    | 21, _ => va_eqt (t := .elem (Term.static "FishingKites" "LEAST" "[I") (.int 21)) (z := 0) (hs _ (by decide +kernel))
    | 22, _ => va_eqt (t := .elem (Term.static "FishingKites" "LEAST" "[I") (.int 22)) (z := 0) (hs _ (by decide +kernel))
    | j + 23, h => absurd h (by omega))) hA
  exact ⟨t, va_Zref (C := RX8) (hts _ kLS_LEAST) (hts _ (BIG_in _ kIN_X8)) h1 hA, h2⟩
set_option maxRecDepth 100000 in
set_option maxHeartbeats 4000000 in
theorem st_MOST (hts : ∀ w ∈ lw_tbl, w.before #[Value.ref b] s = true) (hgv : (Jvm.Cond.and given_1 narrow_1).before #[Value.ref b] s = true) (hA : ∀ a : Nat, a < s.heap.size → ¬ A a) : ∃ t : Nat, va_Z RX8 "MOST" "[I" (.ref t) A s s.heap ∧ va_T .int t 23 (fun j => .int (tbM.getD j 0)) A s s.heap := by
  have hs := flat_of_before _ hgv
  obtain ⟨t, h1, h2⟩ := va_Tof (s := s) (args := #[Value.ref b]) (tm := (Term.static "FishingKites" "MOST" "[I")) (ty := .int) (N := 23) (f := fun j => .int (tbM.getD j 0)) (A := A) (by decide) (hs _ (by decide +kernel)) (va_eqt (t := .length (Term.static "FishingKites" "MOST" "[I")) (z := 23) (hs _ (by decide +kernel))) (fun j hj => (match j, hj with
    | 0, _ => va_eqt (t := .elem (Term.static "FishingKites" "MOST" "[I") (.int 0)) (z := 3) (hs _ (by decide +kernel))
    | 1, _ => va_eqt (t := .elem (Term.static "FishingKites" "MOST" "[I") (.int 1)) (z := 11) (hs _ (by decide +kernel))
    | 2, _ => va_eqt (t := .elem (Term.static "FishingKites" "MOST" "[I") (.int 2)) (z := 11) (hs _ (by decide +kernel))
    | 3, _ => va_eqt (t := .elem (Term.static "FishingKites" "MOST" "[I") (.int 3)) (z := 9) (hs _ (by decide +kernel))
    | 4, _ => va_eqt (t := .elem (Term.static "FishingKites" "MOST" "[I") (.int 4)) (z := 6) (hs _ (by decide +kernel))
    | 5, _ => va_eqt (t := .elem (Term.static "FishingKites" "MOST" "[I") (.int 5)) (z := 5) (hs _ (by decide +kernel))
    | 6, _ => va_eqt (t := .elem (Term.static "FishingKites" "MOST" "[I") (.int 6)) (z := 9) (hs _ (by decide +kernel))
    | 7, _ => va_eqt (t := .elem (Term.static "FishingKites" "MOST" "[I") (.int 7)) (z := 5) (hs _ (by decide +kernel))
    | 8, _ => va_eqt (t := .elem (Term.static "FishingKites" "MOST" "[I") (.int 8)) (z := 9) (hs _ (by decide +kernel))
    | 9, _ => va_eqt (t := .elem (Term.static "FishingKites" "MOST" "[I") (.int 9)) (z := 9) (hs _ (by decide +kernel))
    | 10, _ => va_eqt (t := .elem (Term.static "FishingKites" "MOST" "[I") (.int 10)) (z := 2) (hs _ (by decide +kernel))
    | 11, _ => va_eqt (t := .elem (Term.static "FishingKites" "MOST" "[I") (.int 11)) (z := 3) (hs _ (by decide +kernel))
    | 12, _ => va_eqt (t := .elem (Term.static "FishingKites" "MOST" "[I") (.int 12)) (z := 9) (hs _ (by decide +kernel))
    | 13, _ => va_eqt (t := .elem (Term.static "FishingKites" "MOST" "[I") (.int 13)) (z := 6) (hs _ (by decide +kernel))
    | 14, _ => va_eqt (t := .elem (Term.static "FishingKites" "MOST" "[I") (.int 14)) (z := 2) (hs _ (by decide +kernel))
    | 15, _ => va_eqt (t := .elem (Term.static "FishingKites" "MOST" "[I") (.int 15)) (z := 2) (hs _ (by decide +kernel))
    | 16, _ => va_eqt (t := .elem (Term.static "FishingKites" "MOST" "[I") (.int 16)) (z := 99) (hs _ (by decide +kernel))
    | 17, _ => va_eqt (t := .elem (Term.static "FishingKites" "MOST" "[I") (.int 17)) (z := 2) (hs _ (by decide +kernel))
    | 18, _ => va_eqt (t := .elem (Term.static "FishingKites" "MOST" "[I") (.int 18)) (z := 99) (hs _ (by decide +kernel))
    | 19, _ => va_eqt (t := .elem (Term.static "FishingKites" "MOST" "[I") (.int 19)) (z := 11) (hs _ (by decide +kernel))
    | 20, _ => va_eqt (t := .elem (Term.static "FishingKites" "MOST" "[I") (.int 20)) (z := 11) (hs _ (by decide +kernel))
    | 21, _ => va_eqt (t := .elem (Term.static "FishingKites" "MOST" "[I") (.int 21)) (z := 9) (hs _ (by decide +kernel))
    | 22, _ => va_eqt (t := .elem (Term.static "FishingKites" "MOST" "[I") (.int 22)) (z := 5) (hs _ (by decide +kernel))
    | j + 23, h => absurd h (by omega))) hA
  exact ⟨t, va_Zref (C := RX8) (hts _ kLS_MOST) (hts _ (BIG_in _ kIN_X8)) h1 hA, h2⟩
def tmX (i : Nat) : Term := Term.string RX7 (txI.getD i 0)
set_option maxRecDepth 100000 in
set_option maxHeartbeats 8000000 in
theorem st_txt (hgv : (Jvm.Cond.and given_1 narrow_1).before #[Value.ref b] s = true) (hA : ∀ a : Nat, a < s.heap.size → ¬ A a) : ∃ adK adV : Nat → Nat, vk_S 9 txL txB adK adV A s s.heap ∧ ∀ i : Nat, i < 9 → (tmX i).eval #[Value.ref b] s none [] s = some (.ref (adK i)) := by
  have hs := flat_of_before _ hgv
  exact vk_Sof (tm := tmX) (len := txL) (byt := txB) (by decide) (fun i hi => (match i, hi with
    | 0, _ => (hs _ (by decide +kernel))
    | 1, _ => (hs _ (by decide +kernel))
    | 2, _ => (hs _ (by decide +kernel))
    | 3, _ => (hs _ (by decide +kernel))
    | 4, _ => (hs _ (by decide +kernel))
    | 5, _ => (hs _ (by decide +kernel))
    | 6, _ => (hs _ (by decide +kernel))
    | 7, _ => (hs _ (by decide +kernel))
    | 8, _ => (hs _ (by decide +kernel))
    | i + 9, h => absurd h (by omega))) (fun i hi => (match i, hi with
    | 0, _ => (hs _ (by decide +kernel))
    | 1, _ => (hs _ (by decide +kernel))
    | 2, _ => (hs _ (by decide +kernel))
    | 3, _ => (hs _ (by decide +kernel))
    | 4, _ => (hs _ (by decide +kernel))
    | 5, _ => (hs _ (by decide +kernel))
    | 6, _ => (hs _ (by decide +kernel))
    | 7, _ => (hs _ (by decide +kernel))
    | 8, _ => (hs _ (by decide +kernel))
    | i + 9, h => absurd h (by omega))) (fun i hi => (match i, hi with
    | 0, _ => (hs _ (by decide +kernel))
    | 1, _ => (hs _ (by decide +kernel))
    | 2, _ => (hs _ (by decide +kernel))
    | 3, _ => (hs _ (by decide +kernel))
    | 4, _ => (hs _ (by decide +kernel))
    | 5, _ => (hs _ (by decide +kernel))
    | 6, _ => (hs _ (by decide +kernel))
    | 7, _ => (hs _ (by decide +kernel))
    | 8, _ => (hs _ (by decide +kernel))
    | i + 9, h => absurd h (by omega))) (fun i hi => (match i, hi with
    | 0, _ => (hs _ (by decide +kernel))
    | 1, _ => (hs _ (by decide +kernel))
    | 2, _ => (hs _ (by decide +kernel))
    | 3, _ => (hs _ (by decide +kernel))
    | 4, _ => (hs _ (by decide +kernel))
    | 5, _ => (hs _ (by decide +kernel))
    | 6, _ => (hs _ (by decide +kernel))
    | 7, _ => (hs _ (by decide +kernel))
    | 8, _ => (hs _ (by decide +kernel))
    | i + 9, h => absurd h (by omega))) (fun i hi => (match i, hi with
    | 0, _ => (fun j hj => (match j, hj with
      | 0, _ => (hs _ (by decide +kernel))
      | 1, _ => (hs _ (by decide +kernel))
      | 2, _ => (hs _ (by decide +kernel))
      | 3, _ => (hs _ (by decide +kernel))
      | j + 4, h => absurd h (by intro h2; exact absurd (show j + 4 < 4 from h2) (by omega))))
    | 1, _ => (fun j hj => (match j, hj with
      | 0, _ => (hs _ (by decide +kernel))
      | 1, _ => (hs _ (by decide +kernel))
      | 2, _ => (hs _ (by decide +kernel))
      | 3, _ => (hs _ (by decide +kernel))
      | j + 4, h => absurd h (by intro h2; exact absurd (show j + 4 < 4 from h2) (by omega))))
    | 2, _ => (fun j hj => (match j, hj with
      | 0, _ => (hs _ (by decide +kernel))
      | 1, _ => (hs _ (by decide +kernel))
      | 2, _ => (hs _ (by decide +kernel))
      | 3, _ => (hs _ (by decide +kernel))
      | 4, _ => (hs _ (by decide +kernel))
      | j + 5, h => absurd h (by intro h2; exact absurd (show j + 5 < 5 from h2) (by omega))))
    | 3, _ => (fun j hj => (match j, hj with
      | 0, _ => (hs _ (by decide +kernel))
      | 1, _ => (hs _ (by decide +kernel))
      | 2, _ => (hs _ (by decide +kernel))
      | j + 3, h => absurd h (by intro h2; exact absurd (show j + 3 < 3 from h2) (by omega))))
    | 4, _ => (fun j hj => (match j, hj with
      | 0, _ => (hs _ (by decide +kernel))
      | 1, _ => (hs _ (by decide +kernel))
      | 2, _ => (hs _ (by decide +kernel))
      | 3, _ => (hs _ (by decide +kernel))
      | 4, _ => (hs _ (by decide +kernel))
      | j + 5, h => absurd h (by intro h2; exact absurd (show j + 5 < 5 from h2) (by omega))))
    | 5, _ => (fun j hj => (match j, hj with
      | 0, _ => (hs _ (by decide +kernel))
      | 1, _ => (hs _ (by decide +kernel))
      | 2, _ => (hs _ (by decide +kernel))
      | j + 3, h => absurd h (by intro h2; exact absurd (show j + 3 < 3 from h2) (by omega))))
    | 6, _ => (fun j hj => (match j, hj with
      | 0, _ => (hs _ (by decide +kernel))
      | 1, _ => (hs _ (by decide +kernel))
      | 2, _ => (hs _ (by decide +kernel))
      | 3, _ => (hs _ (by decide +kernel))
      | 4, _ => (hs _ (by decide +kernel))
      | j + 5, h => absurd h (by intro h2; exact absurd (show j + 5 < 5 from h2) (by omega))))
    | 7, _ => (fun j hj => (match j, hj with
      | 0, _ => (hs _ (by decide +kernel))
      | 1, _ => (hs _ (by decide +kernel))
      | 2, _ => (hs _ (by decide +kernel))
      | 3, _ => (hs _ (by decide +kernel))
      | j + 4, h => absurd h (by intro h2; exact absurd (show j + 4 < 4 from h2) (by omega))))
    | 8, _ => (fun j hj => (match j, hj with
      | 0, _ => (hs _ (by decide +kernel))
      | 1, _ => (hs _ (by decide +kernel))
      | 2, _ => (hs _ (by decide +kernel))
      | 3, _ => (hs _ (by decide +kernel))
      | j + 4, h => absurd h (by intro h2; exact absurd (show j + 4 < 4 from h2) (by omega))))
    | i + 9, h => absurd h (by omega))) (fun i j hi hj hn => (match i, j, hi, hj, hn with
    | 0, 0, _, _, h => absurd rfl h
    | 0, 1, _, _, _ => Or.inl (hs _ (by decide +kernel))
    | 0, 2, _, _, _ => Or.inl (hs _ (by decide +kernel))
    | 0, 3, _, _, _ => Or.inl (hs _ (by decide +kernel))
    | 0, 4, _, _, _ => Or.inl (hs _ (by decide +kernel))
    | 0, 5, _, _, _ => Or.inl (hs _ (by decide +kernel))
    | 0, 6, _, _, _ => Or.inl (hs _ (by decide +kernel))
    | 0, 7, _, _, _ => Or.inl (hs _ (by decide +kernel))
    | 0, 8, _, _, _ => Or.inl (hs _ (by decide +kernel))
    | 1, 0, _, _, _ => Or.inr (hs _ (by decide +kernel))
    | 1, 1, _, _, h => absurd rfl h
    | 1, 2, _, _, _ => Or.inl (hs _ (by decide +kernel))
    | 1, 3, _, _, _ => Or.inl (hs _ (by decide +kernel))
    | 1, 4, _, _, _ => Or.inl (hs _ (by decide +kernel))
    | 1, 5, _, _, _ => Or.inl (hs _ (by decide +kernel))
    | 1, 6, _, _, _ => Or.inl (hs _ (by decide +kernel))
    | 1, 7, _, _, _ => Or.inl (hs _ (by decide +kernel))
    | 1, 8, _, _, _ => Or.inl (hs _ (by decide +kernel))
    | 2, 0, _, _, _ => Or.inr (hs _ (by decide +kernel))
    | 2, 1, _, _, _ => Or.inr (hs _ (by decide +kernel))
    | 2, 2, _, _, h => absurd rfl h
    | 2, 3, _, _, _ => Or.inl (hs _ (by decide +kernel))
    | 2, 4, _, _, _ => Or.inl (hs _ (by decide +kernel))
    | 2, 5, _, _, _ => Or.inl (hs _ (by decide +kernel))
    | 2, 6, _, _, _ => Or.inl (hs _ (by decide +kernel))
    | 2, 7, _, _, _ => Or.inl (hs _ (by decide +kernel))
    | 2, 8, _, _, _ => Or.inl (hs _ (by decide +kernel))
    | 3, 0, _, _, _ => Or.inr (hs _ (by decide +kernel))
    | 3, 1, _, _, _ => Or.inr (hs _ (by decide +kernel))
    | 3, 2, _, _, _ => Or.inr (hs _ (by decide +kernel))
    | 3, 3, _, _, h => absurd rfl h
    | 3, 4, _, _, _ => Or.inl (hs _ (by decide +kernel))
    | 3, 5, _, _, _ => Or.inl (hs _ (by decide +kernel))
    | 3, 6, _, _, _ => Or.inl (hs _ (by decide +kernel))
    | 3, 7, _, _, _ => Or.inl (hs _ (by decide +kernel))
    | 3, 8, _, _, _ => Or.inl (hs _ (by decide +kernel))
    | 4, 0, _, _, _ => Or.inr (hs _ (by decide +kernel))
    | 4, 1, _, _, _ => Or.inr (hs _ (by decide +kernel))
    | 4, 2, _, _, _ => Or.inr (hs _ (by decide +kernel))
    | 4, 3, _, _, _ => Or.inr (hs _ (by decide +kernel))
    | 4, 4, _, _, h => absurd rfl h
    | 4, 5, _, _, _ => Or.inl (hs _ (by decide +kernel))
    | 4, 6, _, _, _ => Or.inl (hs _ (by decide +kernel))
    | 4, 7, _, _, _ => Or.inl (hs _ (by decide +kernel))
    | 4, 8, _, _, _ => Or.inl (hs _ (by decide +kernel))
    | 5, 0, _, _, _ => Or.inr (hs _ (by decide +kernel))
    | 5, 1, _, _, _ => Or.inr (hs _ (by decide +kernel))
    | 5, 2, _, _, _ => Or.inr (hs _ (by decide +kernel))
    | 5, 3, _, _, _ => Or.inr (hs _ (by decide +kernel))
    | 5, 4, _, _, _ => Or.inr (hs _ (by decide +kernel))
    | 5, 5, _, _, h => absurd rfl h
    | 5, 6, _, _, _ => Or.inl (hs _ (by decide +kernel))
    | 5, 7, _, _, _ => Or.inl (hs _ (by decide +kernel))
    | 5, 8, _, _, _ => Or.inl (hs _ (by decide +kernel))
    | 6, 0, _, _, _ => Or.inr (hs _ (by decide +kernel))
    | 6, 1, _, _, _ => Or.inr (hs _ (by decide +kernel))
    | 6, 2, _, _, _ => Or.inr (hs _ (by decide +kernel))
    | 6, 3, _, _, _ => Or.inr (hs _ (by decide +kernel))
    | 6, 4, _, _, _ => Or.inr (hs _ (by decide +kernel))
    | 6, 5, _, _, _ => Or.inr (hs _ (by decide +kernel))
    | 6, 6, _, _, h => absurd rfl h
    | 6, 7, _, _, _ => Or.inl (hs _ (by decide +kernel))
    | 6, 8, _, _, _ => Or.inl (hs _ (by decide +kernel))
    | 7, 0, _, _, _ => Or.inr (hs _ (by decide +kernel))
    | 7, 1, _, _, _ => Or.inr (hs _ (by decide +kernel))
    | 7, 2, _, _, _ => Or.inr (hs _ (by decide +kernel))
    | 7, 3, _, _, _ => Or.inr (hs _ (by decide +kernel))
    | 7, 4, _, _, _ => Or.inr (hs _ (by decide +kernel))
    | 7, 5, _, _, _ => Or.inr (hs _ (by decide +kernel))
    | 7, 6, _, _, _ => Or.inr (hs _ (by decide +kernel))
    | 7, 7, _, _, h => absurd rfl h
    | 7, 8, _, _, _ => Or.inl (hs _ (by decide +kernel))
    | 8, 0, _, _, _ => Or.inr (hs _ (by decide +kernel))
    | 8, 1, _, _, _ => Or.inr (hs _ (by decide +kernel))
    | 8, 2, _, _, _ => Or.inr (hs _ (by decide +kernel))
    | 8, 3, _, _, _ => Or.inr (hs _ (by decide +kernel))
    | 8, 4, _, _, _ => Or.inr (hs _ (by decide +kernel))
    | 8, 5, _, _, _ => Or.inr (hs _ (by decide +kernel))
    | 8, 6, _, _, _ => Or.inr (hs _ (by decide +kernel))
    | 8, 7, _, _, _ => Or.inr (hs _ (by decide +kernel))
    | 8, 8, _, _, h => absurd rfl h
    | i + 9, _, h, _, _ => absurd h (by omega)
    | _, j + 9, _, h, _ => absurd h (by omega))) hA
set_option maxRecDepth 100000 in
theorem st_G (hts : ∀ w ∈ lw_tbl, w.before #[Value.ref b] s = true) (hgv : (Jvm.Cond.and given_1 narrow_1).before #[Value.ref b] s = true) (hA : ∀ a : Nat, a < s.heap.size → ¬ A a) {D : va_G} {cy : Nat → ClassId} (hK : va_K D vwCl (tysG cy) s) : ∃ adS : Nat → Nat, ∀ ad : Nat → Nat, gXa A (D, cy, ad, adS) s := by
  have hs := flat_of_before _ hgv
  obtain ⟨t0, z0, v0⟩ := st_NUMBERS_FROM (A := A) hts hgv hA
  obtain ⟨t1, z1, v1⟩ := st_LEAST (A := A) hts hgv hA
  obtain ⟨t2, z2, v2⟩ := st_MOST (A := A) hts hgv hA
  obtain ⟨adK, adV, hT, hE⟩ := st_txt (A := A) hgv hA
  refine ⟨fun i => if i = 0 then t0 else if i = 1 then t1 else if i = 2 then t2 else if i < 20 then adK (i - 10) else adV (i - 20), fun ad => ⟨hK, st_nest hts, ⟨z0, v0⟩, ⟨z1, v1⟩, ⟨z2, v2⟩, ?_, ?_, ?_, ?_⟩⟩
  · exact va_Zof (hts _ kLS_COMPACT_STRINGS) (hts _ (BIG_in _ kIN_J0)) (va_eqi (hs _ (by decide +kernel))) hA
  · refine ⟨fun i hi => ?_, fun i j hi hj h => ?_⟩
    · have e1 : (if 10 + i = 0 then t0 else if 10 + i = 1 then t1 else if 10 + i = 2 then t2 else if 10 + i < 20 then adK (10 + i - 10) else adV (10 + i - 20)) = adK i := by
        rw [if_neg (by omega), if_neg (by omega), if_neg (by omega), if_pos (by omega), show 10 + i - 10 = i by omega]
      have e2 : (if 20 + i = 0 then t0 else if 20 + i = 1 then t1 else if 20 + i = 2 then t2 else if 20 + i < 20 then adK (20 + i - 10) else adV (20 + i - 20)) = adV i := by
        rw [if_neg (by omega), if_neg (by omega), if_neg (by omega), if_neg (by omega), show 20 + i - 20 = i by omega]
      have h1 := hT.1 i hi
      simp only [e1, e2]
      exact h1
    · have e1 : ∀ i, i < 9 → (if 10 + i = 0 then t0 else if 10 + i = 1 then t1 else if 10 + i = 2 then t2 else if 10 + i < 20 then adK (10 + i - 10) else adV (10 + i - 20)) = adK i := fun i hi => by
        rw [if_neg (by omega), if_neg (by omega), if_neg (by omega), if_pos (by omega), show 10 + i - 10 = i by omega]
      have h : (if 10 + i = 0 then t0 else if 10 + i = 1 then t1 else if 10 + i = 2 then t2 else if 10 + i < 20 then adK (10 + i - 10) else adV (10 + i - 20)) = (if 10 + j = 0 then t0 else if 10 + j = 1 then t1 else if 10 + j = 2 then t2 else if 10 + j < 20 then adK (10 + j - 10) else adV (10 + j - 20)) := h
      rw [e1 i hi, e1 j hj] at h
      exact hT.2 i j hi hj h
  · intro i hi
    have e1 : (if 10 + i = 0 then t0 else if 10 + i = 1 then t1 else if 10 + i = 2 then t2 else if 10 + i < 20 then adK (10 + i - 10) else adV (10 + i - 20)) = adK i := by
      rw [if_neg (by omega), if_neg (by omega), if_neg (by omega), if_pos (by omega), show 10 + i - 10 = i by omega]
    have hr : ∀ i, i < 9 → (Cond.stringRef RX7 (txI.getD i 0) (txN.getD i "")).before #[Value.ref b] s = true := (fun i hi => (match i, hi with
    | 0, _ => hts _ kSR_X7_90
    | 1, _ => hts _ kSR_X7_92
    | 2, _ => hts _ kSR_X7_94
    | 3, _ => hts _ kSR_X7_96
    | 4, _ => hts _ kSR_X7_98
    | 5, _ => hts _ kSR_X7_100
    | 6, _ => hts _ kSR_X7_102
    | 7, _ => hts _ kSR_X7_104
    | 8, _ => hts _ kSR_X7_106
    | i + 9, h => absurd h (by omega)))
    show vk_R RX7 (txI.getD i 0) (txN.getD i "") (if 10 + i = 0 then t0 else if 10 + i = 1 then t1 else if 10 + i = 2 then t2 else if 10 + i < 20 then adK (10 + i - 10) else adV (10 + i - 20)) s
    rw [e1]
    exact vk_R.of (hr i hi) (hE i hi)
  · exact va_Zqof (hts _ kLS_SIOOBE_FORMATTER) (hts _ (BIG_in _ kIN_J3)) (hs _ (by decide +kernel)) hA
end ST
set_option maxRecDepth 100000 in
set_option maxHeartbeats 8000000 in
theorem start_of {Rel : St → St → Prop} (obs : Obs Rel) (hbeg : q_X9_begin S0M (fun SM => Rel S0X SM)) {p : Program} {e : Env} {s : State} {m : MethodId} {below : List Frame} {meth : Method} {c : Code} (l : Launch) {b L : Nat} {xs : Nat → Int32} (hL : L ≤ 448) (C0 : lw_At p s m meth c b L xs) : W p l e room_1 s m #[Value.ref b] below meth c s.heap [] 0 0 (lw_Z below #[Value.ref b] s) (entryFrame m ([Value.ref b] : List Value).toArray 4) := by
  obtain ⟨hx, hb, hr, hml, hown, hts, hX, hbl, hlocks, hgv⟩ := id C0
  obtain ⟨A, eA⟩ : ∃ A : Nat → Prop, A = (fun q : Nat => s.heap.size ≤ q) := ⟨_, rfl⟩
  have hA : ∀ q : Nat, s.heap.size ≤ q → A q := fun q h => by rw [eA]; exact h
  have hnA : ∀ a : Nat, a < s.heap.size → ¬ A a := fun a h => by rw [eA]; exact Nat.not_le.mpr h
  obtain ⟨D, cy, hK⟩ := st_K hts
  obtain ⟨adS, hgX⟩ := st_G hts hgv hnA hK
  have hB : ∀ w ∈ BIG, w.before #[Value.ref b] s = true := fun w h => hts w (BIG_in w h)
  have hI : gI D cy s := ⟨hK, st_nest hts, va_AO.of (hts _ kAO_X1), va_AO.of (hts _ kAO_X2), va_AO.of (hts _ kAO_X6)⟩
  have hS : va_S A s.heap s.heap [] := va_S.rf
  have hP : va_P D vwCl [] s.heap := fun k q h => by simp at h
  have hD : va_D A [] := ⟨fun i j p q h => by simp at h, fun k q h => by simp at h⟩
  have hl := lv_entry ([.ref b]) (n := 4) (Nat.le_of_ble_eq_true rfl)
  rw [lg_entry_eq]
  generalize (lg_sl ([.ref b]) ++ List.replicate (4 - (lg_sl ([.ref b])).length) Slot.unset).toArray = ls at hl ⊢
  have hl : lv_has ls 4 [(0, .ref b)] := hl
  refine va_new (ci := 8) (fs := [.null, .null, .null, .null, .null, .null, .null, .int 0, .null, .null, .null]) (C := RX8) (T := TX8) (N := 11) hx hb hB inBX8 tyX8 tyX8_ok hown (hB _ kCL_L_7) (hB _ kIS_X8) (hB _ kIN_X8) hK hP hD hS hA rfl dfX8 (Nat.le_of_ble_eq_true rfl) (Nat.le_of_ble_eq_true rfl) dL_law_0 (fun x0 H hP hD hS => ?_)
  have hP : va_P D vwCl [(x0, .inr (8, [.null, .null, .null, .null, .null, .null, .null, .int 0, .null, .null, .null]))] H := hP
  have hD : va_D A [(x0, .inr (8, [.null, .null, .null, .null, .null, .null, .null, .int 0, .null, .null, .null]))] := hD
  refine lv_dup hx hb dL_law_3 rfl ?_
  have hFc := va_free (wc := [(x0, .inr (8, [.null, .null, .null, .null, .null, .null, .null, .int 0, .null, .null, .null]))]) hD hS hA [0] rfl
  refine va_callv (va_runI (As := []) (rest := [.ref x0]) ⟨hx, hb, hml, hown, hts⟩ (c_X8_init (l := l) D cy x0 H.size) ⟨callB_of 0 hts (fun w hw => ⟨(List.mem_cons.mp hw).elim (fun h => h ▸ BIG_in _ kCD_X8_init) (fun h => BIG_in _ h), good_of_word ((List.mem_cons.mp hw).elim (fun h => h ▸ (List.mem_filter.mp kCD_X8_init).2) (fun h => (List.mem_filter.mp h).2))⟩) rfl rfl rfl (hB _ kIN_X8) (hB _ kML_L_9) (by decide +kernel) ⟨Nat.le_of_ble_eq_true rfl, Nat.le_of_ble_eq_true rfl⟩, rfl, hB _ kIM_X8_init⟩ ⟨fun a1 U gg mk h => ⟨h.1, h.2.1, h.2.2.1, h.2.2.2.call gg mk a1⟩, fun U hU hW => ⟨rfl, by rw [hU], by rw [hU]; exact hP, hI.warm hW⟩⟩ rfl rfl hl.1 rfl (lv_room (Nat.le_of_ble_eq_true rfl)) dL_law_4 ⟨Nat.le_of_ble_eq_true rfl, Nat.le_of_ble_eq_true rfl⟩) hS (fun q _ h => hFc q h) hFc (fun qs t H1 locs ht hvm _ hBn hz1 hk1 hS => ?_)
  obtain ⟨hP1, hD1⟩ := hBn
  rw [ht] at hP1
  have hPX := mkPX_P (adS := adS) hP1
  have hIX := mkIX (D := D) (adS := adS) hD1
  obtain ⟨ZX, eZX⟩ : ∃ Z : ZT, Z = (D, cy, adX x0 qs, adS) := ⟨_, rfl⟩
  have hiX : injZ 68 ZX := by rw [eZX]; exact hIX.1
  have hXA : ∀ c, c < 68 → A (ZX.2.2.1 c) := fun c hc => by rw [eZX]; exact hFc _ (hIX.2 c hc)
  have eX0 : ZX.2.2.1 0 = x0 := by rw [eZX]; rfl
  have hPX : va_P ZX.1 vwCl (wl shX 68 ZX S0X) H1 := by rw [eZX]; exact hPX
  have hlX : ∀ c, c < 68 → ZX.2.2.1 c < H1.size := fun c hc => (hPX c _ (wl_get hc)).lt
  refine lv_astore_n (lv' := [(1, .ref x0), (0, .ref b)]) hx hb dL_law_7 rfl hl (by decide) rfl (fun ls hl => ?_)
  have hP0 : va_P D vwCl [] H1 := fun k q h => by simp at h
  have hD0 : va_D A [] := ⟨fun i j p q h => by simp at h, fun k q h => by simp at h⟩
  clear hP hD
  refine va_new (ci := 9) (fs := [.null, .int 0, .null, .int 0, .null, .int 0, .int 0, .int 0, .int 0, .int 0, .null, .int 0, .int 0, .long 0, .int 0, .int 0, .int 0, .int 0, .null, .null, .null, .null, .null, .int 0]) (C := RX9) (T := TX9) (N := 24) (ws := wl shX 68 ZX S0X) (D := ZX.1) hx hb hB inBX9 tyX9 tyX9_ok hown (hB _ kCL_L_10) (hB _ kIS_X9) (hB _ kIN_X9) (by rw [eZX]; exact hK) hPX (⟨(wl_D hiX).1, fun k q h => by
    obtain ⟨c, hc, he⟩ := (wl_D (sh := shX) (S := S0X) hiX).2 k q h
    rw [← he]
    exact hXA c hc⟩) hS hA rfl dfX9 (Nat.le_of_ble_eq_true rfl) (Nat.le_of_ble_eq_true rfl) dL_law_8 (fun m0 H hP hD hS => ?_)
  have hlen : (wl shX 68 ZX S0X).length = 68 := by simp [wl]
  have hPX : va_P ZX.1 vwCl (wl shX 68 ZX S0X) H := fun k q hk => hP k q (by rw [List.getElem?_append_left (List.getElem?_eq_some_iff.mp hk).1]; exact hk)
  have hm0 : (wl shX 68 ZX S0X ++ [(m0, (.inr (9, [.null, .int 0, .null, .int 0, .null, .int 0, .int 0, .int 0, .int 0, .int 0, .null, .int 0, .int 0, .long 0, .int 0, .int 0, .int 0, .int 0, .null, .null, .null, .null, .null, .int 0]) : va_E))])[68]? = some (m0, .inr (9, [.null, .int 0, .null, .int 0, .null, .int 0, .int 0, .int 0, .int 0, .int 0, .null, .int 0, .int 0, .long 0, .int 0, .int 0, .int 0, .int 0, .null, .null, .null, .null, .null, .int 0])) := by rw [List.getElem?_append_right (by omega), hlen]; rfl
  have hPM : va_P D vwCl [(m0, .inr (9, [.null, .int 0, .null, .int 0, .null, .int 0, .int 0, .int 0, .int 0, .int 0, .null, .int 0, .int 0, .long 0, .int 0, .int 0, .int 0, .int 0, .null, .null, .null, .null, .null, .int 0]))] H := fun k q hk => by
    have hk1 := (List.getElem?_eq_some_iff.mp hk).1
    simp at hk1
    subst hk1
    cases hk
    have := hP 68 _ hm0
    rw [eZX] at this
    exact this
  have hmX : ∀ c, c < 68 → ZX.2.2.1 c ≠ m0 := fun c hc he => by
    have := hD.1 c 68 _ _ (by rw [List.getElem?_append_left (by omega)]; exact wl_get hc) hm0 he
    omega
  have hDM : va_D A [(m0, .inr (9, [.null, .int 0, .null, .int 0, .null, .int 0, .int 0, .int 0, .int 0, .int 0, .null, .int 0, .int 0, .long 0, .int 0, .int 0, .int 0, .int 0, .null, .null, .null, .null, .null, .int 0]))] := ⟨va_D.one.1, fun k q hk => by
    have hk1 := (List.getElem?_eq_some_iff.mp hk).1
    simp at hk1
    subst hk1
    cases hk
    exact hD.2 68 _ hm0⟩
  refine lv_dup hx hb dL_law_11 rfl ?_
  have hFm := va_free (wc := [(m0, .inr (9, [.null, .int 0, .null, .int 0, .null, .int 0, .int 0, .int 0, .int 0, .int 0, .null, .int 0, .int 0, .long 0, .int 0, .int 0, .int 0, .int 0, .null, .null, .null, .null, .null, .int 0]))]) hDM hS hA [0] rfl
  refine va_callv (va_runI (As := []) (rest := [.ref m0]) ⟨hx, hb, hml, hown, hts⟩ (c_X9_init (l := l) D cy adS m0 H.size _ hbeg) ⟨callB_of 0 hts (fun w hw => ⟨(List.mem_cons.mp hw).elim (fun h => h ▸ BIG_in _ kCD_X9_init) (fun h => BIG_in _ h), good_of_word ((List.mem_cons.mp hw).elim (fun h => h ▸ (List.mem_filter.mp kCD_X9_init).2) (fun h => (List.mem_filter.mp h).2))⟩) rfl rfl rfl (hB _ kIN_X9) (hB _ kML_L_12) (by decide +kernel) ⟨Nat.le_of_ble_eq_true rfl, Nat.le_of_ble_eq_true rfl⟩, rfl, hB _ kIM_X9_init⟩ ⟨fun a1 U gg mk h => ⟨h.1, h.2.1, h.2.2.1, h.2.2.2.call gg mk a1⟩, fun U hU hW => ⟨rfl, by rw [hU], by rw [hU]; exact hPM, hI.warm hW⟩⟩ rfl rfl hl.1 rfl (lv_room (Nat.le_of_ble_eq_true rfl)) dL_law_12 ⟨Nat.le_of_ble_eq_true rfl, Nat.le_of_ble_eq_true rfl⟩) hS (fun q _ h => hFm q h) hFm (fun u t H2 locs ht hvm hrel hBm hz2 hk2 hS => ?_)
  obtain ⟨adM0, SM⟩ := u
  obtain ⟨eM0, hiM, hMA, hPM2⟩ := hBm
  rw [ht] at hPM2
  obtain ⟨ZM, eZM⟩ : ∃ Z : ZT, Z = (D, cy, adM0, adS) := ⟨_, rfl⟩
  have hiM : injZ 10 ZM := by rw [eZM]; exact hiM
  have eM : ZM.2.2.1 0 = m0 := by rw [eZM]; exact eM0
  have hMA2 : ∀ c, c < 10 → va_A [(m0, .inr (9, [.null, .int 0, .null, .int 0, .null, .int 0, .int 0, .int 0, .int 0, .int 0, .null, .int 0, .int 0, .long 0, .int 0, .int 0, .int 0, .int 0, .null, .null, .null, .null, .null, .int 0]))] H.size (ZM.2.2.1 c) := fun c hc => by rw [eZM]; exact hMA c hc
  have hnX : ∀ c, c < 68 → ¬ va_A [(m0, .inr (9, [.null, .int 0, .null, .int 0, .null, .int 0, .int 0, .int 0, .int 0, .int 0, .null, .int 0, .int 0, .long 0, .int 0, .int 0, .int 0, .int 0, .null, .null, .null, .null, .null, .int 0]))] H.size (ZX.2.2.1 c) := fun c hc h => by
    rcases h with ⟨k, e1, h⟩ | h
    · have hk1 := (List.getElem?_eq_some_iff.mp h).1
      simp at hk1
      subst hk1
      cases h
      exact hmX c hc rfl
    · have := (hPX c _ (wl_get hc)).lt
      exact absurd this (Nat.not_lt.mpr h)
  have hPX : va_P ZX.1 vwCl (wl shX 68 ZX S0X) H2 := hPX.kept (fun k q hk => by
    have hk1 : k < 68 := by rw [← hlen]; exact (List.getElem?_eq_some_iff.mp hk).1
    have hl1 := (hPX k q hk).lt
    rw [wl_get hk1] at hk
    cases hk
    exact hk2 _ hl1 (hnX k hk1))
  have hPM : va_P ZX.1 vwCl (wl shM 10 ZM SM) H2 := by rw [eZX, eZM]; exact hPM2
  refine lv_astore_n (lv' := [(2, .ref m0), (1, .ref x0), (0, .ref b)]) hx hb dL_law_15 rfl hl (by decide) rfl (fun ls hl => ?_)
  refine lv_iconst (v := 0) hx hb dL_law_16 (by decide) ?_
  refine lv_istore_n (lv' := [(3, .int 0), (2, .ref m0), (1, .ref x0), (0, .ref b)]) hx hb dL_law_17 rfl hl (by decide) rfl (fun ls hl => ?_)
  subst eA
  exact law_loop hL C0 obs hiX hiM (by rw [eZX]; exact hgX _) (by rw [eZX, eZM]) (by rw [eZX, eZM]) hXA (fun c hc => hFm _ (hMA2 c hc)) (fun i hi j hj he => hnX i hi (by rw [he]; exact hMA2 j hj)) (L + 1) 0 0 (Nat.zero_le _) (by omega) nI_0.symm S0X SM hrel H2 locs hPX hPM hS ls (by rw [eX0, eM]; exact lv_sub hl [3, 2, 1, 0] rfl)
