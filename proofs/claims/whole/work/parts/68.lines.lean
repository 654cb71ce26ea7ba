/-! ===== the reference's lines ===== -/
def FrL (SM S : St) : Prop := (∀ c, c ≠ 0 → c ≠ 5 → S.1 c = SM.1 c) ∧ ∀ f, f < 11 ∨ 17 < f → S.1 0 f = SM.1 0 f
def IV (len : Nat) (SM : St) (R : Nat → Int32) (S : St) (k w i pos : Nat) (acc : Nat → Nat) : Prop :=
  FrL SM S ∧ S.1 0 17 = nI k ∧ S.1 0 11 = nI pos ∧ pos ≤ len ∧ S.1 5 (7 * k) = nI w ∧ (∀ j, j < i → S.1 5 (7 * k + 1 + j) = nI (acc j) ∧ acc j ≤ 99) ∧ ∀ j, j < 7 * k → S.1 5 j = R j
def BV (SM S : St) (f : Nat) : Prop := FrL SM S ∧ S.1 0 16 = nI f
def FINR (len : Nat) (SM : St) (R : Nat → Int32) (K : Int32 → St → Prop) (k w : Nat) (r : Bool × Nat × (Nat → Nat)) : Prop :=
  (r.1 = true → ∀ S', IV len SM R S' k w (sz w) r.2.1 r.2.2 → K (nI 1) S') ∧ (¬ r.1 = true → ∀ S', BV SM S' r.2.1 → K (nI 0) S')
theorem tr_if {A B : Prop} : ((True → A) ∧ (¬ True → B)) ↔ A := ⟨fun h => h.1 trivial, fun h => ⟨fun _ => h, fun q => absurd trivial q⟩⟩
section LI
variable {SM S : St} {len : Nat} {B : Nat → Nat} {R : Nat → Int32} {K : Int32 → St → Prop}
theorem FrL_T {S' : St} (h : FrL SM S) (f : FrT S S') : FrL SM S' := ⟨fun c h1 h2 => by rw [f.1 c h1]; exact h.1 c h1 h2, fun j hj => by rw [f.2 j (by omega)]; exact h.2 j hj⟩
theorem FrL_I (h : FrL SM S) {k : Nat} (v : Int32) (h1 : 11 ≤ k) (h2 : k ≤ 17) : FrL SM (sI S 0 k v) :=
  ⟨fun c c0 c5 => by rw [sI_ne _ _ _ _ c0]; exact h.1 c c0 c5, fun f hf => by rw [sI_other _ _ _ (by omega)]; exact h.2 f hf⟩
theorem FrL_5 (h : FrL SM S) {k : Nat} (v : Int32) : FrL SM (sI S 5 k v) :=
  ⟨fun c c0 c5 => by rw [sI_ne _ _ _ _ c5]; exact h.1 c c0 c5, fun f hf => by rw [sI_ne _ _ _ _ (by omega)]; exact h.2 f hf⟩
theorem TM_L (hT : TM SM len B) (h : FrL SM S) : TM S len B := TM_e hT (h.2 9 (by omega)) (h.1 4 (by omega) (by omega))
theorem M_isNum {K' : Int32 → St → Prop} {pos wh l h' : Nat} (hT : TM S len B) (h11 : S.1 0 11 = nI pos) (hp : pos ≤ len) (hwh : wh < 70) (hl : l ≤ 99) (hh : h' ≤ 99)
    (h1 : okN len B l h' (run cB len B pos) → ∀ S1, FrT S S1 → S1.1 0 11 = nI (run cD len B (run cB len B pos)) → K' (nI 1) (sI S1 5 wh (nI (nvl B (run cB len B pos) (run cD len B (run cB len B pos) - run cB len B pos)))))
    (h2 : ¬ okN len B l h' (run cB len B pos) → ∀ S1, FrT S S1 → K' (nI 0) (sI S1 0 16 (nI (run cB len B pos)))) : q_X9_isNumber S (nI wh) (nI l) (nI h') K' := by
  have hs := run_len (c := cB) (B := B) hp
  unfold q_X9_isNumber
  refine M_tok hT h11 hp (fun S1 f1 f2 f3 => ?_)
  obtain ⟨t1, t2⟩ := TK_num hs f3
  have hv := nvl_le (dig_rg (B := B) hs)
  unfold q_X9_isNumber_27 q_X9_fails
  rw [cmpE]
  refine ⟨fun q => ?_, fun q => ?_⟩
  · obtain ⟨t3, t4⟩ := t2 q
    rw [t4, f_X9_in, bbr, all_eq, all_eq, ncl _ (by omega), f2]
    refine ⟨fun z => h2 (fun y => z ⟨?_, ?_⟩) S1 f1, fun z => ⟨vp_in_nI (by omega) (by omega), h1 ⟨(t1.mp q).1, (t1.mp q).2, ?_, ?_⟩ S1 f1 t3⟩⟩
    · rw [nlt _ _ (by omega) (by omega)]; have := y.2.2.1; omega
    · rw [nlt _ _ (by omega) (by omega)]; have := y.2.2.2; omega
    · have := z.1; rw [nlt _ _ (by omega) (by omega)] at this; omega
    · have := z.2; rw [nlt _ _ (by omega) (by omega)] at this; omega
  · rw [all_eq, f2]
    exact h2 (fun y => q (t1.mpr ⟨y.1, y.2.1⟩)) S1 f1
theorem M_ch {NEXT : St → Prop} {k w i pos m wh l h' : Nat} {acc : Nat → Nat} (hT : TM SM len B) (hk : k < 10) (hi : i < 6) (hl : l = lo w i acc) (hh : h' = hi_ w i) (hwh : wh = 7 * k + 1 + i) (hf : fr w + i < 23) (I : IV len SM R S k w i pos acc)
    (F : FINR len SM R K k w (numsR len B w (m + 1) i pos acc)) (hN : ∀ S' pos' acc', IV len SM R S' k w (i + 1) pos' acc' → FINR len SM R K k w (numsR len B w m (i + 1) pos' acc') → NEXT S') :
    q_X9_isNumber S (nI wh) (nI l) (nI h') (fun r S2 => (r = nI 0 → K (nI 0) S2) ∧ (¬ r = nI 0 → NEXT S2)) := by
  obtain ⟨i1, i2, i3, i4, i5, i6, i7⟩ := I
  have hs := run_len (c := cB) (B := B) i4
  have hd := run_len (c := cD) (B := B) hs
  have hv := nvl_le (dig_rg (B := B) hs)
  have hlo := lo_le (w := w) (i := i) (acc := acc) hf (fun j hj => (i6 j hj).2)
  have hhi := (hiT_le _ hf).1
  subst hl hh hwh
  refine M_isNum (TM_L hT i1) i3 i4 (by omega) hlo hhi (fun q S1 f1 f2 => ?_) (fun q S1 f1 => ?_)
  · rw [and_nif (by decide)]
    have e : numsR len B w (m + 1) i pos acc = numsR len B w m (i + 1) (run cD len B (run cB len B pos)) (upN acc i (nvl B (run cB len B pos) (run cD len B (run cB len B pos) - run cB len B pos))) := if_pos q
    rw [e] at F
    refine hN _ _ _ ⟨FrL_5 (FrL_T i1 f1) _, ?_, ?_, hd, ?_, fun j hj => ?_, fun j hj => ?_⟩ F
    · rw [sI_ne _ _ _ _ (by omega), f1.2 17 (by omega)]; exact i2
    · rw [sI_ne _ _ _ _ (by omega)]; exact f2
    · rw [sI_other _ _ _ (by omega), f1.1 5 (by omega)]; exact i5
    · unfold upN
      by_cases c : j = i
      · rw [c, sI_same, if_pos rfl]; exact ⟨rfl, hv⟩
      · rw [sI_other _ _ _ (by omega), if_neg c, f1.1 5 (by omega)]; exact i6 j (by omega)
    · rw [sI_other _ _ _ (by omega), f1.1 5 (by omega)]; exact i7 j hj
  · rw [and_if rfl]
    have e : numsR len B w (m + 1) i pos acc = (false, run cB len B pos, acc) := if_neg q
    rw [e] at F
    exact F.2 Bool.false_ne_true _ ⟨FrL_I (FrL_T i1 f1) _ (by omega) (by omega), by rw [sI_same]⟩
theorem M_chl {k w i pos wh l h' : Nat} {acc : Nat → Nat} (hT : TM SM len B) (hk : k < 10) (hi : i < 6) (hl : l = lo w i acc) (hh : h' = hi_ w i) (hwh : wh = 7 * k + 1 + i) (hf : fr w + i < 23) (hz : i + 1 = sz w) (I : IV len SM R S k w i pos acc)
    (F : FINR len SM R K k w (numsR len B w 1 i pos acc)) : q_X9_isNumber S (nI wh) (nI l) (nI h') (fun r S2 => K r S2) := by
  obtain ⟨i1, i2, i3, i4, i5, i6, i7⟩ := I
  have hs := run_len (c := cB) (B := B) i4
  have hd := run_len (c := cD) (B := B) hs
  have hv := nvl_le (dig_rg (B := B) hs)
  have hlo := lo_le (w := w) (i := i) (acc := acc) hf (fun j hj => (i6 j hj).2)
  have hhi := (hiT_le _ hf).1
  subst hl hh hwh
  refine M_isNum (TM_L hT i1) i3 i4 (by omega) hlo hhi (fun q S1 f1 f2 => ?_) (fun q S1 f1 => ?_)
  · have e : numsR len B w 1 i pos acc = (true, run cD len B (run cB len B pos), upN acc i (nvl B (run cB len B pos) (run cD len B (run cB len B pos) - run cB len B pos))) := if_pos q
    rw [e] at F
    refine F.1 rfl _ ⟨FrL_5 (FrL_T i1 f1) _, ?_, ?_, hd, ?_, fun j hj => ?_, fun j hj => ?_⟩
    · rw [sI_ne _ _ _ _ (by omega), f1.2 17 (by omega)]; exact i2
    · rw [sI_ne _ _ _ _ (by omega)]; exact f2
    · rw [sI_other _ _ _ (by omega), f1.1 5 (by omega)]; exact i5
    · unfold upN
      dsimp only
      by_cases c : j = i
      · rw [c, sI_same, if_pos rfl]; exact ⟨rfl, hv⟩
      · rw [sI_other _ _ _ (by omega), if_neg c, f1.1 5 (by omega)]; exact i6 j (by omega)
    · rw [sI_other _ _ _ (by omega), f1.1 5 (by omega)]; exact i7 j hj
  · have e : numsR len B w 1 i pos acc = (false, run cB len B pos, acc) := if_neg q
    rw [e] at F
    exact F.2 Bool.false_ne_true _ ⟨FrL_I (FrL_T i1 f1) _ (by omega) (by omega), by rw [sI_same]⟩
theorem FIN0 {k w i pos : Nat} {acc : Nat → Nat} (hz : i = sz w) (I : IV len SM R S k w i pos acc) (F : FINR len SM R K k w (numsR len B w 0 i pos acc)) : K (nI 1) S := F.1 rfl S (by rw [← hz]; exact I)
theorem lo_c {w i n : Nat} {acc : Nat → Nat} (h : ¬ eoh w i) (h2 : n = loT.getD (fr w + i) 0) : n = lo w i acc := by unfold lo; rw [if_neg h]; exact h2
theorem M_161 {k w pos : Nat} (hT : TM SM len B) (hk : k < 10) (hw : w < 9) (h1 : FrL SM S) (h17 : S.1 0 17 = nI k) (h11 : S.1 0 11 = nI pos) (hp : pos ≤ len) (hR : ∀ j, j < 7 * k → S.1 5 j = R j)
    (F : FINR len SM R K k w (numsR len B w (sz w) 0 pos (fun _ => 0))) : q_X9_isLine_161 (nI (7 * k)) K S (nI w) (nI (7 * k)) := by
  unfold q_X9_isLine_161
  rw [all_eq, all_eq, ncl _ (by omega), sI_same]
  refine ⟨vp_in_nI (by omega) (by omega), vp_in_nI (by omega) (by omega), ?_⟩
  have I : IV len SM R (sI S 5 (7 * k) (nI w)) k w 0 pos (fun _ => 0) := ⟨FrL_5 h1 _, by rw [sI_ne _ _ _ _ (by omega)]; exact h17, by rw [sI_ne _ _ _ _ (by omega)]; exact h11, hp, by rw [sI_same], fun j hj => by omega, fun j hj => by rw [sI_other _ _ _ (by omega)]; exact hR j hj⟩
  generalize sI S 5 (7 * k) (nI w) = S2 at I
  unfold q_X9_areHours q_X9_isKiteLine q_X9_isShoalLine
  simp only [nI_add, br_1, tr_if]
  rcases (show w = 0 ∨ w = 1 ∨ w = 2 ∨ w = 3 ∨ w = 4 ∨ w = 5 ∨ w = 6 ∨ w = 7 ∨ w = 8 by omega) with rfl | rfl | rfl | rfl | rfl | rfl | rfl | rfl | rfl
  · rw [and_if rfl]
    refine M_ch (w := 0) (i := 0) (m := 4) hT hk (by omega) (lo_c (by unfold eoh; omega) rfl) rfl (by omega) (by decide) I F (fun S3 p3 c3 I3 F3 => ?_)
    refine M_ch (w := 0) (i := 1) (m := 3) hT hk (by omega) (lo_c (by unfold eoh; omega) rfl) rfl (by omega) (by decide) I3 F3 (fun S4 p4 c4 I4 F4 => ⟨vp_in_nI (by omega) (by omega), ?_⟩)
    rw [ncl _ (by omega), (I4.2.2.2.2.2.1 1 (by omega)).1]
    refine M_ch (w := 0) (i := 2) (m := 2) hT hk (by omega) (show c4 1 = lo 0 2 c4 from (if_pos (Or.inl ⟨rfl, rfl⟩)).symm) rfl (by omega) (by decide) I4 F4 (fun S5 p5 c5 I5 F5 => ?_)
    refine M_ch (w := 0) (i := 3) (m := 1) hT hk (by omega) (lo_c (by unfold eoh; omega) rfl) rfl (by omega) (by decide) I5 F5 (fun S6 p6 c6 I6 F6 => ?_)
    exact M_ch (w := 0) (i := 4) (m := 0) hT hk (by omega) (lo_c (by unfold eoh; omega) rfl) rfl (by omega) (by decide) I6 F6 (fun S7 p7 c7 I7 F7 => FIN0 (i := 5) rfl I7 F7)
  · rw [and_nif (by decide), and_if rfl]
    refine M_ch (w := 1) (i := 0) (m := 5) hT hk (by omega) (lo_c (by unfold eoh; omega) rfl) rfl (by omega) (by decide) I F (fun S3 p3 c3 I3 F3 => ?_)
    refine M_ch (w := 1) (i := 1) (m := 4) hT hk (by omega) (lo_c (by unfold eoh; omega) rfl) rfl (by omega) (by decide) I3 F3 (fun S4 p4 c4 I4 F4 => ?_)
    refine M_ch (w := 1) (i := 2) (m := 3) hT hk (by omega) (lo_c (by unfold eoh; omega) rfl) rfl (by omega) (by decide) I4 F4 (fun S5 p5 c5 I5 F5 => ?_)
    refine M_ch (w := 1) (i := 3) (m := 2) hT hk (by omega) (lo_c (by unfold eoh; omega) rfl) rfl (by omega) (by decide) I5 F5 (fun S6 p6 c6 I6 F6 => ?_)
    refine M_ch (w := 1) (i := 4) (m := 1) hT hk (by omega) (lo_c (by unfold eoh; omega) rfl) rfl (by omega) (by decide) I6 F6 (fun S7 p7 c7 I7 F7 => ?_)
    exact M_ch (w := 1) (i := 5) (m := 0) hT hk (by omega) (lo_c (by unfold eoh; omega) rfl) rfl (by omega) (by decide) I7 F7 (fun S8 p8 c8 I8 F8 => FIN0 (i := 6) rfl I8 F8)
  · rw [and_nif (by decide), and_nif (by decide), and_if rfl]
    refine M_ch (w := 2) (i := 0) (m := 5) hT hk (by omega) (lo_c (by unfold eoh; omega) rfl) rfl (by omega) (by decide) I F (fun S3 p3 c3 I3 F3 => ?_)
    refine M_ch (w := 2) (i := 1) (m := 4) hT hk (by omega) (lo_c (by unfold eoh; omega) rfl) rfl (by omega) (by decide) I3 F3 (fun S4 p4 c4 I4 F4 => ?_)
    refine M_ch (w := 2) (i := 2) (m := 3) hT hk (by omega) (lo_c (by unfold eoh; omega) rfl) rfl (by omega) (by decide) I4 F4 (fun S5 p5 c5 I5 F5 => ?_)
    refine M_ch (w := 2) (i := 3) (m := 2) hT hk (by omega) (lo_c (by unfold eoh; omega) rfl) rfl (by omega) (by decide) I5 F5 (fun S6 p6 c6 I6 F6 => ?_)
    refine M_ch (w := 2) (i := 4) (m := 1) hT hk (by omega) (lo_c (by unfold eoh; omega) rfl) rfl (by omega) (by decide) I6 F6 (fun S7 p7 c7 I7 F7 => ?_)
    exact M_ch (w := 2) (i := 5) (m := 0) hT hk (by omega) (lo_c (by unfold eoh; omega) rfl) rfl (by omega) (by decide) I7 F7 (fun S8 p8 c8 I8 F8 => FIN0 (i := 6) rfl I8 F8)
  · rw [and_nif (by decide), and_nif (by decide), and_nif (by decide), and_if rfl]
    exact M_chl (w := 3) (i := 0) hT hk (by omega) (lo_c (by unfold eoh; omega) rfl) rfl (by omega) (by decide) rfl I F
  · rw [and_nif (by decide), and_nif (by decide), and_nif (by decide), and_nif (by decide), and_if rfl]
    exact M_chl (w := 4) (i := 0) hT hk (by omega) (lo_c (by unfold eoh; omega) rfl) rfl (by omega) (by decide) rfl I F
  · rw [and_nif (by decide), and_nif (by decide), and_nif (by decide), and_nif (by decide), and_nif (by decide), and_if rfl]
    refine M_ch (w := 5) (i := 0) (m := 1) hT hk (by omega) (lo_c (by unfold eoh; omega) rfl) rfl (by omega) (by decide) I F (fun S4 p4 c4 I4 F4 => ⟨vp_in_nI (by omega) (by omega), ?_⟩)
    have e0 : S4.1 5 (7 * k + 1) = nI (c4 0) := (I4.2.2.2.2.2.1 0 (by omega)).1
    rw [ncl _ (by omega), e0]
    exact M_ch (w := 5) (i := 1) (m := 0) hT hk (by omega) (show c4 0 = lo 5 1 c4 from (if_pos (Or.inr ⟨rfl, rfl⟩)).symm) rfl (by omega) (by decide) I4 F4 (fun S7 p7 c7 I7 F7 => FIN0 (i := 2) rfl I7 F7)
  · rw [and_nif (by decide), and_nif (by decide), and_nif (by decide), and_nif (by decide), and_nif (by decide), and_nif (by decide), and_if rfl]
    exact M_chl (w := 6) (i := 0) hT hk (by omega) (lo_c (by unfold eoh; omega) rfl) rfl (by omega) (by decide) rfl I F
  · rw [and_nif (by decide), and_nif (by decide), and_nif (by decide), and_nif (by decide), and_nif (by decide), and_nif (by decide), and_nif (by decide), and_if rfl]
    exact FIN0 (i := 0) rfl I F
  · rw [and_nif (by decide), and_nif (by decide), and_nif (by decide), and_nif (by decide), and_nif (by decide), and_nif (by decide), and_nif (by decide), and_nif (by decide), and_if rfl]
    exact M_chl (w := 8) (i := 0) hT hk (by omega) (lo_c (by unfold eoh; omega) rfl) rfl (by omega) (by decide) rfl I F
theorem M_isLine {k pos : Nat} (hT : TM SM len B) (hk : k < 10) (h1 : FrL SM S) (h17 : S.1 0 17 = nI k) (h11 : S.1 0 11 = nI pos) (hp : pos ≤ len) (hR : ∀ j, j < 7 * k → S.1 5 j = R j)
    (F1 : (lineR len B pos).1 = true → wrd len B pos < 9 → ∀ S', IV len SM R S' k (wrd len B pos) (sz (wrd len B pos)) (lineR len B pos).2.1 (lineR len B pos).2.2 → K (nI 1) S')
    (F2 : ¬ (lineR len B pos).1 = true → ∀ S', BV SM S' (lineR len B pos).2.1 → K (nI 0) S') : q_X9_isLine S (nI (7 * k)) K := by
  have hs := run_len (c := cB) (B := B) hp
  have he := run_len (c := cL) (B := B) hs
  unfold q_X9_isLine
  refine M_tok (TM_L hT h1) h11 hp (fun S1 f1 f2 f3 => ?_)
  have g1 := FrL_T h1 f1
  have g17 : S1.1 0 17 = nI k := by rw [f1.2 17 (by omega)]; exact h17
  have gR : ∀ j, j < 7 * k → S1.1 5 j = R j := fun j hj => by rw [f1.1 5 (by omega)]; exact hR j hj
  unfold q_X9_isLine_80 q_X9_isLine_145
  by_cases c : wrd len B pos < 9
  · have e : lineR len B pos = numsR len B (wrd len B pos) (sz (wrd len B pos)) 0 (run cL len B (run cB len B pos)) (fun _ => 0) := if_pos c
    have hsp : spd B (wrd len B pos) (run cB len B pos) (run cL len B (run cB len B pos)) := wdF_sp 9 0 (by omega) c
    obtain ⟨t1, t2⟩ := TK_word hs c f3
    have tok := t1.mpr hsp
    have F : FINR len SM R K k (wrd len B pos) (numsR len B (wrd len B pos) (sz (wrd len B pos)) 0 (run cL len B (run cB len B pos)) (fun _ => 0)) := by
      rw [← e]
      exact ⟨fun a => F1 a c, F2⟩
    have G := M_161 (R := R) hT hk c g1 g17 (t2 hsp) he gR F
    rw [tok]
    generalize wrd len B pos = w at c G
    rcases (show w = 0 ∨ w = 1 ∨ w = 2 ∨ w = 3 ∨ w = 4 ∨ w = 5 ∨ w = 6 ∨ w = 7 ∨ w = 8 by omega) with rfl | rfl | rfl | rfl | rfl | rfl | rfl | rfl | rfl
    · rw [and_if (by decide), and_nif (by decide), and_nif (by decide), and_nif (by decide), and_nif (by decide), and_nif (by decide)]; exact G
    · rw [and_nif (by decide), and_if (by decide), and_nif (by decide), and_nif (by decide), and_nif (by decide), and_nif (by decide), and_nif (by decide)]; exact G
    · rw [and_nif (by decide), and_nif (by decide), and_if (by decide), and_nif (by decide), and_nif (by decide), and_nif (by decide), and_nif (by decide), and_nif (by decide)]; exact G
    · rw [and_nif (by decide), and_nif (by decide), and_nif (by decide), and_if (by decide), and_nif (by decide), and_nif (by decide), and_nif (by decide), and_nif (by decide), and_nif (by decide)]; exact G
    · rw [and_nif (by decide), and_nif (by decide), and_nif (by decide), and_nif (by decide), and_if (by decide), and_nif (by decide), and_nif (by decide), and_nif (by decide), and_nif (by decide), and_nif (by decide)]; exact G
    · rw [and_nif (by decide), and_nif (by decide), and_nif (by decide), and_nif (by decide), and_nif (by decide), and_if (by decide), and_if rfl]; exact G
    · rw [and_nif (by decide), and_nif (by decide), and_nif (by decide), and_nif (by decide), and_nif (by decide), and_nif (by decide), and_if (by decide), and_if rfl]; exact G
    · rw [and_nif (by decide), and_nif (by decide), and_nif (by decide), and_nif (by decide), and_nif (by decide), and_nif (by decide), and_nif (by decide), and_if (by decide), and_if rfl]; exact G
    · rw [and_nif (by decide), and_nif (by decide), and_nif (by decide), and_nif (by decide), and_nif (by decide), and_nif (by decide), and_nif (by decide), and_nif (by decide), and_if (by decide), and_if rfl]; exact G
  · have e : lineR len B pos = (false, run cB len B pos, fun _ => 0) := if_neg c
    rw [e] at F2
    have nn : ∀ w, w < 9 → ¬ lg_cmp (S1.2 0 13) (lN (wcT.getD w 0)) = nI 0 := fun w hw q => by
      rw [cmpE] at q
      exact wdF_no 9 0 (by omega) c w (by omega) hw ((TK_word hs hw f3).1.mp q)
    have n0 : ¬ lg_cmp (S1.2 0 13) (lN 459652) = nI 0 := nn 0 (by omega)
    have n1 : ¬ lg_cmp (S1.2 0 13) (lN 223619) = nI 0 := nn 1 (by omega)
    have n2 : ¬ lg_cmp (S1.2 0 13) (lN 10265817) = nI 0 := nn 2 (by omega)
    have n3 : ¬ lg_cmp (S1.2 0 13) (lN 8798) = nI 0 := nn 3 (by omega)
    have n4 : ¬ lg_cmp (S1.2 0 13) (lN 10502066) = nI 0 := nn 4 (by omega)
    have n5 : ¬ lg_cmp (S1.2 0 13) (lN 4786) = nI 0 := nn 5 (by omega)
    have n6 : ¬ lg_cmp (S1.2 0 13) (lN 4142521) = nI 0 := nn 6 (by omega)
    have n7 : ¬ lg_cmp (S1.2 0 13) (lN 60115) = nI 0 := nn 7 (by omega)
    have n8 : ¬ lg_cmp (S1.2 0 13) (lN 247664) = nI 0 := nn 8 (by omega)
    simp only [and_nif n0, and_nif n1, and_nif n2, and_nif n3, and_nif n4, and_nif n5, and_nif n6, and_nif n7, and_nif n8, tr_if]
    unfold q_X9_isLine_161
    rw [all_eq, all_eq, ncl _ (by omega), sI_same, and_nif (by decide), and_nif (by decide), and_nif (by decide), and_nif (by decide), and_nif (by decide), and_nif (by decide), and_nif (by decide), and_nif (by decide), and_nif (by decide)]
    refine ⟨vp_in_nI (by omega) (by omega), vp_in_nI (by omega) (by omega), ?_⟩
    unfold q_X9_fails
    rw [all_eq, sI_ne _ _ _ _ (by omega), f2]
    exact F2 Bool.false_ne_true _ ⟨FrL_I (FrL_5 g1 _) _ (by omega) (by omega), by rw [sI_same]⟩
/-- the rows of the lines that are read -/
def PR (len : Nat) (B : Nat → Nat) (S : St) (n : Nat) : Prop := ∀ k, k < n → wrd len B (lp len B k) < 9 ∧ (lineR len B (lp len B k)).1 = true ∧ S.1 5 (7 * k) = nI (wrd len B (lp len B k)) ∧ ∀ i, i < sz (wrd len B (lp len B k)) → S.1 5 (7 * k + 1 + i) = nI ((lineR len B (lp len B k)).2.2 i)
theorem sz_le (w : Nat) (hw : w < 9) : sz w ≤ 6 := (tb_N w hw).2.2.2
theorem M_isRead (hT : TM SM len B) (h1 : (outR len B 10 0).1 = true → ∀ S', FrL SM S' → S'.1 0 17 = nI (outR len B 10 0).2.2 → PR len B S' (outR len B 10 0).2.2 → K (nI 1) S')
    (h2 : ¬ (outR len B 10 0).1 = true → ∀ S', FrL SM S' → S'.1 0 16 = nI (outR len B 10 0).2.1 → K (nI 0) S') : q_X9_isRead SM K := by
  have hlen := hT.2.1
  have l : ∀ (n k : Nat) (S : St), k + n = 10 → 1 ≤ n → outR len B n k = outR len B 10 0 → FrL SM S → S.1 0 17 = nI k → S.1 0 11 = nI (lp len B k) → lp len B k ≤ len → PR len B S k → q_X9_isRead_12 K (n + 2) S (nI 1) := by
    intro n
    induction n with
    | zero => intro k S _ h; omega
    | succ n ih =>
      intro k S hk _ eo g1 g17 g11 gl gP
      rw [q_X9_isRead_12_s, and_nif (by decide), g17, pk_mul]
      refine M_isLine (R := S.1 5) hT (by omega) g1 g17 g11 gl (fun j _ => rfl) (fun a b S' I => ?_) (fun a S' I => ?_)
      · obtain ⟨i1, i2, i3, i4, i5, i6, i7⟩ := I
        rw [and_nif (by decide), all_eq, i2, nI_add]
        have hs := run_len (c := cB) (B := B) i4
        have gP' : ∀ S2, S2.1 5 = S'.1 5 → PR len B S2 (k + 1) := fun S2 e2 k' hk' => by
          rw [e2]
          by_cases q : k' = k
          · rw [q]; exact ⟨b, a, i5, fun i hi => (i6 i hi).1⟩
          · obtain ⟨p1, p2, p3, p4⟩ := gP k' (by omega)
            refine ⟨p1, p2, by rw [i7 _ (by omega)]; exact p3, fun i hi => ?_⟩
            have := sz_le _ p1
            rw [i7 _ (by omega)]; exact p4 i hi
        refine M_tok (TM_L hT (FrL_I i1 _ (by omega) (by omega))) (by rw [sI_other _ _ _ (by omega)]; exact i3) i4 (fun S2 f1 f2 f3 => ?_)
        obtain ⟨t1, t2, t3⟩ := TK_sign hs f3
        have g2 : FrL SM S2 := FrL_T (FrL_I i1 _ (by omega) (by omega)) f1
        have g217 : S2.1 0 17 = nI (k + 1) := by rw [f1.2 17 (by omega), sI_same]
        have g25 : S2.1 5 = S'.1 5 := by rw [f1.1 5 (by omega), sI_ne _ _ _ _ (by omega)]
        rw [cmpE, g217, nle _ _ (by omega) (by omega)]
        unfold q_X9_isRead_70 q_X9_isRead_71
        have eo1 : outR len B (n + 1) k = (if len ≤ run cB len B (lineR len B (lp len B k)).2.1 then (true, 0, k + 1) else if B (run cB len B (lineR len B (lp len B k)).2.1) = 59 then outR len B n (k + 1) else (false, run cB len B (lineR len B (lp len B k)).2.1, k + 1)) := if_pos a
        have fail : (∀ fp kk, outR len B 10 0 = (false, fp, kk) → fp = run cB len B (lineR len B (lp len B k)).2.1 → ¬ S2.2 0 13 = -2 → q_X9_isRead_12 K (n + 1 + 1) S2 (nI 0)) := fun fp kk e1 e2 e3 => by
          rw [q_X9_isRead_12_s, and_if rfl, cmpE, and_nif e3]
          unfold q_X9_fails
          rw [all_eq, f2]
          rw [e1] at h2
          refine ⟨fun _ => ?_, fun z => absurd rfl z⟩
          refine h2 Bool.false_ne_true _ (FrL_I g2 _ (by omega) (by omega)) ?_
          rw [sI_same]
          show _ = nI fp
          rw [e2]
        refine ⟨fun q => ?_, fun q => ?_⟩
        · obtain ⟨q1, q2⟩ := t1.mp q
          rw [if_neg (by omega), if_pos q2] at eo1
          have ns : ¬ S2.2 0 13 = -2 := fun z => by have := t2.mp z; omega
          refine ⟨fun q3 => ?_, fun q3 => ?_⟩
          · have n0 : n = 0 := by omega
            rw [n0] at eo1
            refine fail _ _ (eo.symm.trans (by rw [n0]; exact eo1)) ?_ ns
            show run cB len B (lineR len B (lp len B k)).2.1 + 1 - 1 = _
            omega
          · refine ih (k + 1) S2 (by omega) (by omega) (by rw [← eo1]; exact eo) g2 g217 (t3 q) ?_ (gP' S2 g25)
            show run cB len B (lineR len B (lp len B k)).2.1 + 1 ≤ len
            omega
        · by_cases q1 : run cB len B (lineR len B (lp len B k)).2.1 = len
          · rw [if_pos (by omega)] at eo1
            rw [q_X9_isRead_12_s, and_if rfl, cmpE, and_if (t2.mpr q1)]
            rw [← eo, eo1] at h1
            exact h1 rfl S2 g2 g217 (gP' S2 g25)
          · rw [if_neg (by omega), if_neg (fun z => q (t1.mpr ⟨by omega, z⟩))] at eo1
            exact fail _ _ (eo.symm.trans eo1) rfl (fun z => q1 (t2.mp z))
      · rw [and_if rfl]
        have eo1 : outR len B (n + 1) k = (false, (lineR len B (lp len B k)).2.1, k) := if_neg a
        rw [← eo, eo1] at h2
        exact h2 Bool.false_ne_true S' I.1 I.2
  unfold q_X9_isRead
  rw [all_eq, all_eq]
  refine ⟨12, l 10 0 _ (by omega) (by omega) rfl (FrL_I (FrL_I ⟨fun _ _ _ => rfl, fun _ _ => rfl⟩ _ (by omega) (by omega)) _ (by omega) (by omega)) (by rw [sI_same]) (by rw [sI_other _ _ _ (by omega), sI_same]; rfl) (Nat.zero_le _) (fun k hk => by omega)⟩
end LI
