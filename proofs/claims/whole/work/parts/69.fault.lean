/-! ===== fault ===== -/
def BX (S0 S : St) (k : Nat) : Prop := (∀ c, c ≠ 1 → c ≠ 3 → S.1 c = S0.1 c) ∧ (∀ f, f ≠ 3 → f ≠ 4 → S.1 1 f = S0.1 1 f) ∧ S.1 1 3 = nI k
theorem BX_At {S0 S : St} {k : Nat} (h : BX S0 S k) (j : Nat) : BX S0 (At S j) k :=
  ⟨fun c c1 c3 => by rw [At_c _ _ c1]; exact h.1 c c1 c3, fun f f3 f4 => by rw [At_f _ _ f4]; exact h.2.1 f f3 f4, by rw [At_f _ _ (by omega)]; exact h.2.2⟩
theorem BX_3 {S0 S : St} {k : Nat} (h : BX S0 S k) (g : Nat → Int32) : BX S0 (sF S 3 g) k :=
  ⟨fun c c1 c3 => by rw [sF_ne _ _ _ c3]; exact h.1 c c1 c3, fun f f3 f4 => by rw [sF_ne _ _ _ (by omega)]; exact h.2.1 f f3 f4, by rw [sF_ne _ _ _ (by omega)]; exact h.2.2⟩
theorem BX_l {S0 S : St} {k : Nat} (h : BX S0 S k) (n : Nat) : BX S0 (sI S 1 3 (nI n)) n :=
  ⟨fun c c1 c3 => by rw [sI_ne _ _ _ _ c1]; exact h.1 c c1 c3, fun f f3 f4 => by rw [sI_other _ _ _ f3]; exact h.2.1 f f3 f4, by rw [sI_same]⟩
theorem TX_B {S0 S : St} {k len : Nat} {B : Nat → Nat} (hT : TX S0 len B) (h : BX S0 S k) : TX S len B := TX_e hT (h.2.1 2 (by omega) (by omega)) (h.1 2 (by omega) (by omega))
theorem upd_cm (f : Nat → Int32) {k j : Nat} (a b : Int32) (h : k ≠ j) : upd (upd f k a) j b = upd (upd f j b) k a := by
  funext i
  by_cases c1 : i = j
  · rw [c1, upd_s, upd_n _ _ (by omega), upd_s]
  · by_cases c2 : i = k
    · rw [upd_n _ _ c1, c2, upd_s, upd_s]
    · rw [upd_n _ _ c1, upd_n _ _ c2, upd_n _ _ c2, upd_n _ _ c1]
theorem At_l (S : St) (j : Nat) (v : Int32) : sI (At S j) 1 3 v = At (sI S 1 3 v) j := by
  show sI (sF S 1 (upd (S.1 1) 4 (nI j))) 1 3 v = sI (sF S 1 (upd (S.1 1) 3 v)) 1 4 (nI j)
  rw [sI_sF, sI_sF, upd_cm _ _ _ (by omega)]
theorem lp_1 (len : Nat) (B : Nat → Nat) (k : Nat) : 1 ≤ lp len B (k + 1) := by show 1 ≤ run cB len B (lineR len B (lp len B k)).2.1 + 1; omega
theorem num_pos {len w : Nat} {B : Nat → Nat} : ∀ n i pos acc, pos ≤ len → (numsR len B w n i pos acc).2.1 ≤ len := by
  intro n
  induction n with
  | zero => intro i pos acc h; exact h
  | succ n ih =>
    intro i pos acc h
    have hs := run_len (c := cB) (B := B) h
    have hd := run_len (c := cD) (B := B) hs
    by_cases q : okN len B (lo w i acc) (hi_ w i) (run cB len B pos)
    · have e : numsR len B w (n + 1) i pos acc = numsR len B w n (i + 1) (run cD len B (run cB len B pos)) (upN acc i (nvl B (run cB len B pos) (run cD len B (run cB len B pos) - run cB len B pos))) := if_pos q
      rw [e]; exact ih _ _ _ hd
    · have e : numsR len B w (n + 1) i pos acc = (false, run cB len B pos, acc) := if_neg q
      rw [e]; exact hs
theorem line_pos {len : Nat} {B : Nat → Nat} {pos : Nat} (h : pos ≤ len) : (lineR len B pos).2.1 ≤ len := by
  have hs := run_len (c := cB) (B := B) h
  have he := run_len (c := cL) (B := B) hs
  by_cases q : wrd len B pos < 9
  · have e : lineR len B pos = numsR len B (wrd len B pos) (sz (wrd len B pos)) 0 (run cL len B (run cB len B pos)) (fun _ => 0) := if_pos q
    rw [e]; exact num_pos _ _ _ _ he
  · have e : lineR len B pos = (false, run cB len B pos, fun _ => 0) := if_neg q
    rw [e]; exact hs
theorem X_readN {SX : St} {len : Nat} {B : Nat → Nat} {K : Int32 → St → Prop} (h : TX SX len B) (h1 : (outR len B 10 0).1 = true → ∀ S', BX SX S' (outR len B 10 0).2.2 → K (-1) S') (h2 : ¬ (outR len B 10 0).1 = true → ∀ S' k, BX SX S' k → K (nI (outR len B 10 0).2.1) S') : q_X7_readInto_n SX K := by
  have hlen := h.2.1
  have l : ∀ (n k : Nat) (S : St), k + n = 10 → outR len B n k = outR len B 10 0 → BX SX S k → lp len B k ≤ len → q_X7_readInto_n_12 K (n + 1) (At S (lp len B k)) (nI k) := by
    intro n
    induction n with
    | zero =>
      intro k S hk eo b hp
      rw [q_X7_readInto_n_12_s, nle _ _ (by omega) (by omega), and_if (by omega), At_4]
      have ek : k = 9 + 1 := by omega
      have h1' := lp_1 len B 9
      rw [← ek] at h1'
      rw [pk_sub h1']
      have eo1 : outR len B 0 k = (false, lp len B k - 1, k) := rfl
      rw [← eo, eo1] at h2
      exact h2 Bool.false_ne_true _ k (BX_At b _)
    | succ n ih =>
      intro k S hk eo b hp
      rw [q_X7_readInto_n_12_s, nle _ _ (by omega) (by omega), and_nif (by omega)]
      have hlp := line_pos (B := B) hp
      have hs := run_len (c := cB) (B := B) hlp
      refine X_line (TX_B h b) hp (fun a g' hg' hw => ?_) (fun a r g' => ?_)
      · rw [and_nif (by decide), all_eq, At_f _ _ (by omega), (BX_3 b g').2.2, nI_add, At_l]
        have b' := BX_l (BX_3 b g') (k + 1)
        unfold q_X7_readInto_n_63
        refine X_skip (TX_B h b') hlp ?_
        have eo1 : outR len B (n + 1) k = (if len ≤ run cB len B (lineR len B (lp len B k)).2.1 then (true, 0, k + 1) else if B (run cB len B (lineR len B (lp len B k)).2.1) = 59 then outR len B n (k + 1) else (false, run cB len B (lineR len B (lp len B k)).2.1, k + 1)) := if_pos a
        rw [At_4, At_f _ _ (by omega), (TX_B h b').1, nlt _ _ (by omega) (by omega), f_peek (TX_At (TX_B h b')) (by omega), pk_eq32 h (by omega), all_eq, all_eq, nI_add, nI_add, At_At]
        refine ⟨fun q => ⟨fun q2 => ?_, fun q2 => ?_⟩, fun q => ?_⟩
        · rw [if_neg (by omega), if_pos q2.2] at eo1
          exact ih (k + 1) _ (by omega) (by rw [← eo1]; exact eo) b' (by show run cB len B (lineR len B (lp len B k)).2.1 + 1 ≤ len; omega)
        · rw [if_neg (by omega), if_neg (fun z => q2 ⟨q, z⟩)] at eo1
          rw [← eo, eo1] at h2
          exact h2 Bool.false_ne_true _ _ (BX_At b' _)
        · rw [if_pos (by omega)] at eo1
          rw [← eo, eo1] at h1
          exact h1 rfl _ (BX_At b' _)
      · have eo1 : outR len B (n + 1) k = (false, (lineR len B (lp len B k)).2.1, k) := if_neg a
        rw [and_if rfl, At_4]
        rw [← eo, eo1] at h2
        exact h2 Bool.false_ne_true _ k (BX_At (BX_3 b g') _)
  unfold q_X7_readInto_n
  rw [all_eq, all_eq]
  have e : sI (sI SX 1 4 (nI 0)) 1 3 (nI 0) = At (sI SX 1 3 (nI 0)) 0 := At_l SX 0 (nI 0)
  rw [e]
  exact ⟨11, l 10 0 _ (by omega) rfl ⟨fun c c1 c3 => sI_ne _ _ _ _ c1, fun f f3 f4 => sI_other _ _ _ f3, sI_same _ _ _ _⟩ (Nat.zero_le _)⟩
theorem RelT_rd {T SX SX' SM SM' : St} {k : Nat} (R : RelT T SX SM) (b : BX SX SX' k) (m : FrL SM SM') : RelT T SX' SM' := by
  obtain ⟨E, X, C, S, hl, rt, d0, d1, rk, q0, q1⟩ := R
  have E' : SeaEq SX' T := fun c h1 h2 => by rw [b.1 c (by omega) (by omega)]; exact E c h1 h2
  have e6 : SM'.1 6 = SM.1 6 := m.1 6 (by omega) (by omega)
  refine ⟨E', X, C, S.eq ⟨m.2 _ (by omega), m.2 _ (by omega), m.2 _ (by omega), m.2 _ (by omega), m.2 _ (by omega)⟩ (m.1 _ (by omega) (by omega)) (m.1 _ (by omega) (by omega)) (m.1 _ (by omega) (by omega)), by rw [m.2 _ (by omega)]; exact hl,
    rt.eq (b.2.1 _ (by omega) (by omega)) (b.1 _ (by omega) (by omega)) (m.2 _ (by omega)) (m.1 _ (by omega) (by omega)), ?_, d1.eq E' (fun c h1 h2 => b.1 c (by omega) (by omega)),
    rk.eq E' (by rw [b.1 _ (by omega) (by omega)]) (fun c h1 h2 => b.1 c (by omega) (by omega)) (m.1 _ (by omega) (by omega)) (m.1 _ (by omega) (by omega)), ?_, q1.eq (b.1 _ (by omega) (by omega))⟩
  · rw [e6]; exact d0.eq E' (fun c h1 h2 => b.1 c (by omega) (by omega))
  · rw [e6]; exact q0.eq (b.1 _ (by omega) (by omega))
theorem RT_TX {SX SM : St} (h : RT SX SM) : ∃ len B, TX SX len B ∧ TM SM len B := by
  obtain ⟨⟨len, l1, l2, l3⟩, r⟩ := h
  refine ⟨len, fun j => (SX.1 2 j).toInt.toNat, ⟨l2, l1, fun j hj => ?_⟩, ⟨l3, l1, fun j hj => ?_⟩⟩
  · have := rg_nI (b := 255) (r j hj).2 (by omega)
    exact ⟨this.1, Nat.lt_succ_of_le this.2⟩
  · have := rg_nI (b := 255) (r j hj).2 (by omega)
    rw [← (r j hj).1]
    exact ⟨this.1, Nat.lt_succ_of_le this.2⟩
theorem o_fault : ob_fault Rel := by
  intro SX SM R
  obtain ⟨T, R⟩ := R
  obtain ⟨len, B, hX, hM⟩ := RT_TX R.2.2.2.2.2.1
  unfold q_X8_fault q_X9_fault
  refine X_readN hX (fun a S' b => ?_) (fun a S' k b => ?_)
  · refine M_isRead hM (fun _ SM' m _ _ => ?_) (fun z => absurd a z)
    rw [and_nif (by decide)]
    exact ⟨rfl, T, RelT_rd R b m⟩
  · refine M_isRead hM (fun z => absurd z a) (fun _ SM' m e => ?_)
    rw [and_if rfl]
    exact ⟨e.symm, T, RelT_rd R b m⟩
