def q_X8_isHeight (S : St) (a1 : Int32) (k : Int32 → Prop) : Prop := (a1 < (nI 1) → (k (nI 0))) ∧ (¬ a1 < (nI 1) → (((nI 3) < a1 → (k (nI 0))) ∧ (¬ (nI 3) < a1 → (k (nI 1)))))
set_option maxRecDepth 100000 in
set_option maxHeartbeats 4000000 in
theorem c_X8_isHeight {l : Launch} {Z : ZT} (hi : injZ 68 Z) (S : St) (a1 : Int32) (k : Int32 → Prop) (h : q_X8_isHeight S a1 k) : Mi l shX 68 Z (gX Z) yX8_isHeight cX8_isHeight 1 (Option.some .boolean) (rmk 0 0) [.int a1] S (fun r S' => S' = S ∧ (r = 0 ∨ r = 1) ∧ k r) := by
  have g := gokX hi
  refine e_i (by decide) (Nat.le_of_ble_eq_true rfl) (lv := [(0, .int a1)]) rfl (fun p e s m args below meth c C hP hS ls hl => ?_)
  have hx := C.1.1
  have hb := C.1.2.1
  unfold q_X8_isHeight at h
  refine lv_iload_n hx hb dX8_isHeight_0 rfl (lv_at hl 0 rfl) ?_
  refine lv_iconst (v := (nI 1)) hx hb dX8_isHeight_1 (by decide) ?_
  refine lv_icmp_lt (tgt := 14) hx hb dX8_isHeight_2 (by decide) (fun c_1 => ?_) (fun c_1 => ?_)
  · have h := h.1 c_1
    refine lv_iconst (v := (nI 0)) hx hb dX8_isHeight_14 (by decide) ?_
    exact s_rz C hP hS (nar_b (Or.inl rfl)) ⟨rfl, ⟨(Or.inl rfl), h⟩⟩ dX8_isHeight_15
  · have h := h.2 c_1
    refine lv_iload_n hx hb dX8_isHeight_5 rfl (lv_at hl 0 rfl) ?_
    refine lv_iconst (v := (nI 3)) hx hb dX8_isHeight_6 (by decide) ?_
    refine lv_icmp_gt (tgt := 14) hx hb dX8_isHeight_7 (by decide) (fun c_2 => ?_) (fun c_2 => ?_)
    · have h := h.1 c_2
      refine lv_iconst (v := (nI 0)) hx hb dX8_isHeight_14 (by decide) ?_
      exact s_rz C hP hS (nar_b (Or.inl rfl)) ⟨rfl, ⟨(Or.inl rfl), h⟩⟩ dX8_isHeight_15
    · have h := h.2 c_2
      refine lv_iconst (v := (nI 1)) hx hb dX8_isHeight_10 (by decide) ?_
      refine lv_goto (tgt := 15) hx hb dX8_isHeight_11 (by decide) ?_
      exact s_rz C hP hS (nar_b (Or.inr rfl)) ⟨rfl, ⟨(Or.inr rfl), h⟩⟩ dX8_isHeight_15
def q_X4_tellWind_65 (k : St → Prop) (e_21 : St → Int32 → Int32 → Prop) (S : St) (x2 : Int32) (x3 : Int32) : Prop := ∀ x3_1 : Int32, x3_1 = x3 + (nI 1) → (e_21 S x2 x3_1)
set_option maxRecDepth 100000 in
set_option maxHeartbeats 4000000 in
theorem b_X4_tellWind_65 {p : Program} {l : Launch} {e : Env} {s : State} {m : MethodId} {args : Array Value} {below : List Frame} {meth : Method} {c : Code} {Z : ZT} (hi : injZ 68 Z) (C : Cxt (gX Z) p s m meth c args yX4_tellWind cX4_tellWind 4 none) {k : St → Prop} {e_21 : St → Int32 → Int32 → Prop}  (he_21 : ∀ (S : St) (x2 : Int32) (x3 : Int32) (H : Heap) (locs : List Loc) (ls : Array Slot), va_P Z.1 vwCl (wl shX 68 Z S) H → va_S (aa 68 Z) s.heap H locs → lv_has ls 4 [(0, .ref (Z.2.2.1 4)), (1, .ref (Z.2.2.1 3)), (2, .int x2), (3, .int x3)] → e_21 S x2 x3 → W p l e (rmk 1 20) s m args below meth c H locs 0 0 (Qv below shX 68 Z args s k) (F0 m 21 ls [])) (S : St) (x2 : Int32) (x3 : Int32) (H : Heap) (locs : List Loc) (ls : Array Slot) (hP : va_P Z.1 vwCl (wl shX 68 Z S) H) (hS : va_S (aa 68 Z) s.heap H locs) (hl : lv_has ls 4 [(0, .ref (Z.2.2.1 4)), (1, .ref (Z.2.2.1 3)), (2, .int x2), (3, .int x3)]) (h : q_X4_tellWind_65 k e_21 S x2 x3) : W p l e (rmk 1 20) s m args below meth c H locs 0 0 (Qv below shX 68 Z args s k) (F0 m 65 ls []) := by
  have g := gokX hi
  have hx := C.1.1
  have hb := C.1.2.1
  unfold q_X4_tellWind_65 at h
  obtain ⟨x3_1, ex3_1⟩ : ∃ y_ : Int32, y_ = x3 + (nI 1) := ⟨_, rfl⟩
  have h := h x3_1 ex3_1
  refine lv_iinc (v := x3_1) (lv' := [(3, .int x3_1), (0, .ref (Z.2.2.1 4)), (1, .ref (Z.2.2.1 3)), (2, .int x2)]) hx hb dX4_tellWind_65 hl (k := 3) rfl (by rw [ex3_1]; rfl) (by decide) rfl (fun ls hl => ?_)
  refine lv_goto (tgt := 21) hx hb dX4_tellWind_68 (by decide) ?_
  exact he_21 _ _ _ _ _ _ hP hS (lv_sub hl [1, 2, 3, 0] rfl) h
def q_X4_tellWind_21 (k : St → Prop) : Nat → St → Int32 → Int32 → Prop := fun n_ => Nat.rec (motive := fun _ => St → Int32 → Int32 → Prop) (fun _ _ _ => False) (fun _ ih => fun S x2 x3 => ((nI 12) ≤ x3 → (k S)) ∧ (¬ (nI 12) ≤ x3 → ((x3 < (S.1 3 (nI 1).toNatClampNeg) → (q_X4_tellWind_65 k ih S x2 x3)) ∧ (¬ x3 < (S.1 3 (nI 1).toNatClampNeg) → (((S.1 3 (nI 2).toNatClampNeg) < x3 → (q_X4_tellWind_65 k ih S x2 x3)) ∧ (¬ (S.1 3 (nI 2).toNatClampNeg) < x3 → (vp_in (x2 + x3) 36 ∧ (∀ S_5 : St, S_5 = sI S 7 (x2 + x3).toNatClampNeg (S.1 3 (nI 3).toNatClampNeg) → (vp_in (x2 + x3) 36 ∧ (∀ S_7 : St, S_7 = sI S_5 8 (x2 + x3).toNatClampNeg ((S_5.1 3 (nI 4).toNatClampNeg) - (nI 3)) → (q_X4_tellWind_65 k ih S_7 x2 x3))))))))))) n_
theorem q_X4_tellWind_21_s (k : St → Prop) (n_ : Nat) (S : St) (x2 : Int32) (x3 : Int32) : q_X4_tellWind_21 k (n_ + 1) S x2 x3 = (((nI 12) ≤ x3 → (k S)) ∧ (¬ (nI 12) ≤ x3 → ((x3 < (S.1 3 (nI 1).toNatClampNeg) → (q_X4_tellWind_65 k (q_X4_tellWind_21 k n_) S x2 x3)) ∧ (¬ x3 < (S.1 3 (nI 1).toNatClampNeg) → (((S.1 3 (nI 2).toNatClampNeg) < x3 → (q_X4_tellWind_65 k (q_X4_tellWind_21 k n_) S x2 x3)) ∧ (¬ (S.1 3 (nI 2).toNatClampNeg) < x3 → (vp_in (x2 + x3) 36 ∧ (∀ S_5 : St, S_5 = sI S 7 (x2 + x3).toNatClampNeg (S.1 3 (nI 3).toNatClampNeg) → (vp_in (x2 + x3) 36 ∧ (∀ S_7 : St, S_7 = sI S_5 8 (x2 + x3).toNatClampNeg ((S_5.1 3 (nI 4).toNatClampNeg) - (nI 3)) → (q_X4_tellWind_65 k (q_X4_tellWind_21 k n_) S_7 x2 x3))))))))))) := rfl
set_option maxRecDepth 100000 in
set_option maxHeartbeats 4000000 in
theorem b_X4_tellWind_21 {p : Program} {l : Launch} {e : Env} {s : State} {m : MethodId} {args : Array Value} {below : List Frame} {meth : Method} {c : Code} {Z : ZT} (hi : injZ 68 Z) (C : Cxt (gX Z) p s m meth c args yX4_tellWind cX4_tellWind 4 none) {k : St → Prop}   : ∀ (n_ : Nat) (S : St) (x2 : Int32) (x3 : Int32) (H : Heap) (locs : List Loc) (ls : Array Slot), va_P Z.1 vwCl (wl shX 68 Z S) H → va_S (aa 68 Z) s.heap H locs → lv_has ls 4 [(0, .ref (Z.2.2.1 4)), (1, .ref (Z.2.2.1 3)), (2, .int x2), (3, .int x3)] → q_X4_tellWind_21 k n_ S x2 x3 → W p l e (rmk 1 20) s m args below meth c H locs 0 0 (Qv below shX 68 Z args s k) (F0 m 21 ls []) := by
  have g := gokX hi
  have hx := C.1.1
  have hb := C.1.2.1
  intro n_
  induction n_ with
  | zero => intro S x2 x3 H locs ls hP hS hl h; exact h.elim
  | succ n_ ih =>
    intro S x2 x3 H locs ls hP hS hl h
    rw [q_X4_tellWind_21_s] at h
    refine lv_iload_n hx hb dX4_tellWind_21 rfl (lv_at hl 3 rfl) ?_
    refine lv_bipush (v := (nI 12)) hx hb dX4_tellWind_22 (by decide) ?_
    refine lv_icmp_ge (tgt := 71) hx hb dX4_tellWind_24 (by decide) (fun c_1 => ?_) (fun c_1 => ?_)
    · have h := h.1 c_1
      exact s_rv C hP hS h dX4_tellWind_71
    · have h := h.2 c_1
      refine lv_iload_n hx hb dX4_tellWind_27 rfl (lv_at hl 3 rfl) ?_
      refine lv_aload_n hx hb dX4_tellWind_28 rfl (lv_at hl 1 rfl) ?_
      refine lv_iconst (v := (nI 1)) hx hb dX4_tellWind_29 (by decide) ?_
      refine s_aI g C hP 3 (by decide) rfl (vinL (by decide +kernel)) dX4_tellWind_30 ?_
      refine lv_icmp_lt (tgt := 65) hx hb dX4_tellWind_31 (by decide) (fun c_2 => ?_) (fun c_2 => ?_)
      · have h := h.1 c_2
        exact b_X4_tellWind_65 hi C ih _ _ _ _ _ _ hP hS (lv_sub hl [0, 1, 2, 3] rfl) h
      · have h := h.2 c_2
        refine lv_iload_n hx hb dX4_tellWind_34 rfl (lv_at hl 3 rfl) ?_
        refine lv_aload_n hx hb dX4_tellWind_35 rfl (lv_at hl 1 rfl) ?_
        refine lv_iconst (v := (nI 2)) hx hb dX4_tellWind_36 (by decide) ?_
        refine s_aI g C hP 3 (by decide) rfl (vinL (by decide +kernel)) dX4_tellWind_37 ?_
        refine lv_icmp_gt (tgt := 65) hx hb dX4_tellWind_38 (by decide) (fun c_3 => ?_) (fun c_3 => ?_)
        · have h := h.1 c_3
          exact b_X4_tellWind_65 hi C ih _ _ _ _ _ _ hP hS (lv_sub hl [0, 1, 2, 3] rfl) h
        · have h := h.2 c_3
          refine lv_aload_n hx hb dX4_tellWind_41 rfl (lv_at hl 0 rfl) ?_
          refine s_gR g C hP 4 2 7 (by decide) rfl rfl cfX4 (by decide) kFL_X4_23 dX4_tellWind_42 ?_
          refine lv_iload_n hx hb dX4_tellWind_45 rfl (lv_at hl 2 rfl) ?_
          refine lv_iload_n hx hb dX4_tellWind_46 rfl (lv_at hl 3 rfl) ?_
          refine lv_iadd hx hb dX4_tellWind_47 ?_
          refine lv_aload_n hx hb dX4_tellWind_48 rfl (lv_at hl 1 rfl) ?_
          refine lv_iconst (v := (nI 3)) hx hb dX4_tellWind_49 (by decide) ?_
          refine s_aI g C hP 3 (by decide) rfl (vinL (by decide +kernel)) dX4_tellWind_50 ?_
          have hv_4 := h.1
          have h := h.2
          refine s_stI g C hP hS 7 (by decide) rfl hv_4 dX4_tellWind_51 (fun H locs hP hS => ?_)
          obtain ⟨S_5, eS_5⟩ : ∃ z_ : St, z_ = sI S 7 (x2 + x3).toNatClampNeg (S.1 3 (nI 3).toNatClampNeg) := ⟨_, rfl⟩
          rw [← eS_5] at hP
          have h := h S_5 eS_5
          refine lv_aload_n hx hb dX4_tellWind_52 rfl (lv_at hl 0 rfl) ?_
          refine s_gR g C hP 4 3 8 (by decide) rfl rfl cfX4 (by decide) kFL_X4_27 dX4_tellWind_53 ?_
          refine lv_iload_n hx hb dX4_tellWind_56 rfl (lv_at hl 2 rfl) ?_
          refine lv_iload_n hx hb dX4_tellWind_57 rfl (lv_at hl 3 rfl) ?_
          refine lv_iadd hx hb dX4_tellWind_58 ?_
          refine lv_aload_n hx hb dX4_tellWind_59 rfl (lv_at hl 1 rfl) ?_
          refine lv_iconst (v := (nI 4)) hx hb dX4_tellWind_60 (by decide) ?_
          refine s_aI g C hP 3 (by decide) rfl (vinL (by decide +kernel)) dX4_tellWind_61 ?_
          refine lv_iconst (v := (nI 3)) hx hb dX4_tellWind_62 (by decide) ?_
          refine lv_isub hx hb dX4_tellWind_63 ?_
          have hv_6 := h.1
          have h := h.2
          refine s_stI g C hP hS 8 (by decide) rfl hv_6 dX4_tellWind_64 (fun H locs hP hS => ?_)
          obtain ⟨S_7, eS_7⟩ : ∃ z_ : St, z_ = sI S_5 8 (x2 + x3).toNatClampNeg ((S_5.1 3 (nI 4).toNatClampNeg) - (nI 3)) := ⟨_, rfl⟩
          rw [← eS_7] at hP
          have h := h S_7 eS_7
          exact b_X4_tellWind_65 hi C ih _ _ _ _ _ _ hP hS (lv_sub hl [0, 1, 2, 3] rfl) h
def q_X4_tellWind (S : St) (k : St → Prop) : Prop := q_X8_isHeight S (S.1 3 (nI 0).toNatClampNeg) (fun r_1 => ((r_1 = (nI 0) → (k S)) ∧ (¬ r_1 = (nI 0) → (∀ x2_3 : Int32, x2_3 = (((S.1 3 (nI 0).toNatClampNeg) - (nI 1)) * (nI 12)) → (∃ f_21, q_X4_tellWind_21 k f_21 S x2_3 (nI 0))))))
set_option maxRecDepth 100000 in
set_option maxHeartbeats 4000000 in
theorem c_X4_tellWind {l : Launch} {Z : ZT} (hi : injZ 68 Z) (S : St) (k : St → Prop) (h : q_X4_tellWind S k) : Mv l shX 68 Z (gX Z) yX4_tellWind cX4_tellWind 4 none (rmk 1 20) [.ref (Z.2.2.1 4), .ref (Z.2.2.1 3)] S k := by
  have g := gokX hi
  refine e_v (by decide) (Nat.le_of_ble_eq_true rfl) (lv := [(0, .ref (Z.2.2.1 4)), (1, .ref (Z.2.2.1 3))]) rfl (fun p e s m args below meth c C hP hS ls hl => ?_)
  have hx := C.1.1
  have hb := C.1.2.1
  unfold q_X4_tellWind at h
  refine lv_aload_n hx hb dX4_tellWind_0 rfl (lv_at hl 1 rfl) ?_
  refine lv_iconst (v := (nI 0)) hx hb dX4_tellWind_1 (by decide) ?_
  refine s_aI g C hP 3 (by decide) rfl (vinL (by decide +kernel)) dX4_tellWind_2 ?_
  refine go_ip (run_SN g C hP hS (As := [.int (S.1 3 (nI 0).toNatClampNeg)]) (rest := []) (c_X8_isHeight hi S (S.1 3 (nI 0).toNatClampNeg) _ h) cal_X8_isHeight (nstX C.2.2.2 10 rfl) ⟨rfl, rfl, Nat.le_of_ble_eq_true rfl, Nat.le_of_ble_eq_true rfl⟩ rfl rfl hl.1 (Nat.le_of_ble_eq_true rfl) dX4_tellWind_3) hS (fun r_1 H locs h hP hS => ?_)
  obtain ⟨hbr_1, h⟩ := h
  refine lv_if_ne (tgt := 10) hx hb dX4_tellWind_6 (by decide) (fun c_2 => ?_) (fun c_2 => ?_)
  · have h := h.2 c_2
    refine lv_aload_n hx hb dX4_tellWind_10 rfl (lv_at hl 1 rfl) ?_
    refine lv_iconst (v := (nI 0)) hx hb dX4_tellWind_11 (by decide) ?_
    refine s_aI g C hP 3 (by decide) rfl (vinL (by decide +kernel)) dX4_tellWind_12 ?_
    refine lv_iconst (v := (nI 1)) hx hb dX4_tellWind_13 (by decide) ?_
    refine lv_isub hx hb dX4_tellWind_14 ?_
    refine lv_bipush (v := (nI 12)) hx hb dX4_tellWind_15 (by decide) ?_
    refine lv_imul hx hb dX4_tellWind_17 ?_
    refine lv_topi (fun x2_3 ex2_3 => ?_)
    have h := h x2_3 ex2_3
    refine lv_istore_n (lv' := [(2, .int x2_3), (0, .ref (Z.2.2.1 4)), (1, .ref (Z.2.2.1 3))]) hx hb dX4_tellWind_18 rfl hl (by decide) rfl (fun ls hl => ?_)
    refine lv_iconst (v := (nI 0)) hx hb dX4_tellWind_19 (by decide) ?_
    refine lv_istore_n (lv' := [(3, .int (nI 0)), (2, .int x2_3), (0, .ref (Z.2.2.1 4)), (1, .ref (Z.2.2.1 3))]) hx hb dX4_tellWind_20 rfl hl (by decide) rfl (fun ls hl => ?_)
    obtain ⟨f_21, h⟩ := h
    exact b_X4_tellWind_21 hi C  f_21 _ _ _ _ _ _ hP hS (lv_sub hl [2, 3, 1, 0] rfl) h
  · have h := h.1 c_2
    exact s_rv C hP hS h dX4_tellWind_9
def q_X4_tellKite (S : St) (k : St → Prop) : Prop := ((S.1 3 (nI 0).toNatClampNeg) < (nI 0) → (k S)) ∧ (¬ (S.1 3 (nI 0).toNatClampNeg) < (nI 0) → (((S.1 3 (nI 0).toNatClampNeg) < (nI 6) → (vp_in (S.1 3 (nI 0).toNatClampNeg) 6 ∧ (∀ S_4 : St, S_4 = sI S (9 + (S.1 3 (nI 0).toNatClampNeg).toNatClampNeg) 0 (nI 1) → (∀ S_5 : St, S_5 = sI S_4 (9 + (S.1 3 (nI 0).toNatClampNeg).toNatClampNeg) 1 (S_4.1 3 (nI 1).toNatClampNeg) → (∀ S_6 : St, S_6 = sI S_5 (9 + (S.1 3 (nI 0).toNatClampNeg).toNatClampNeg) 2 (S_5.1 3 (nI 2).toNatClampNeg) → (∀ S_7 : St, S_7 = sI S_6 (9 + (S.1 3 (nI 0).toNatClampNeg).toNatClampNeg) 3 (S_6.1 3 (nI 3).toNatClampNeg) → (∀ S_8 : St, S_8 = sI S_7 (9 + (S.1 3 (nI 0).toNatClampNeg).toNatClampNeg) 4 (S_7.1 3 (nI 4).toNatClampNeg) → (∀ S_9 : St, S_9 = sI S_8 (9 + (S.1 3 (nI 0).toNatClampNeg).toNatClampNeg) 5 (S_8.1 3 (nI 5).toNatClampNeg) → (k S_9))))))))) ∧ (¬ (S.1 3 (nI 0).toNatClampNeg) < (nI 6) → (k S))))
set_option maxRecDepth 100000 in
set_option maxHeartbeats 4000000 in
theorem c_X4_tellKite {l : Launch} {Z : ZT} (hi : injZ 68 Z) (S : St) (k : St → Prop) (h : q_X4_tellKite S k) : Mv l shX 68 Z (gX Z) yX4_tellKite cX4_tellKite 3 none (rmk 0 0) [.ref (Z.2.2.1 4), .ref (Z.2.2.1 3)] S k := by
  have g := gokX hi
  refine e_v (by decide) (Nat.le_of_ble_eq_true rfl) (lv := [(0, .ref (Z.2.2.1 4)), (1, .ref (Z.2.2.1 3))]) rfl (fun p e s m args below meth c C hP hS ls hl => ?_)
  have hx := C.1.1
  have hb := C.1.2.1
  unfold q_X4_tellKite at h
  refine lv_aload_n hx hb dX4_tellKite_0 rfl (lv_at hl 1 rfl) ?_
  refine lv_iconst (v := (nI 0)) hx hb dX4_tellKite_1 (by decide) ?_
  refine s_aI g C hP 3 (by decide) rfl (vinL (by decide +kernel)) dX4_tellKite_2 ?_
  refine lv_if_lt (tgt := 14) hx hb dX4_tellKite_3 (by decide) (fun c_1 => ?_) (fun c_1 => ?_)
  · have h := h.1 c_1
    exact s_rv C hP hS h dX4_tellKite_14
  · have h := h.2 c_1
    refine lv_aload_n hx hb dX4_tellKite_6 rfl (lv_at hl 1 rfl) ?_
    refine lv_iconst (v := (nI 0)) hx hb dX4_tellKite_7 (by decide) ?_
    refine s_aI g C hP 3 (by decide) rfl (vinL (by decide +kernel)) dX4_tellKite_8 ?_
    refine lv_bipush (v := (nI 6)) hx hb dX4_tellKite_9 (by decide) ?_
    refine lv_icmp_lt (tgt := 15) hx hb dX4_tellKite_11 (by decide) (fun c_2 => ?_) (fun c_2 => ?_)
    · have h := h.1 c_2
      refine lv_aload_n hx hb dX4_tellKite_15 rfl (lv_at hl 0 rfl) ?_
      refine s_gR g C hP 4 0 5 (by decide) rfl rfl cfX4 (by decide) kFL_X4_11 dX4_tellKite_16 ?_
      refine lv_aload_n hx hb dX4_tellKite_19 rfl (lv_at hl 1 rfl) ?_
      refine lv_iconst (v := (nI 0)) hx hb dX4_tellKite_20 (by decide) ?_
      refine s_aI g C hP 3 (by decide) rfl (vinL (by decide +kernel)) dX4_tellKite_21 ?_
      have hv_3 := h.1
      have h := h.2
      refine s_aR g C hP 5 (t := 0) (by decide) rfl rfl hv_3 dX4_tellKite_22 ?_
      refine lv_astore_n (lv' := [(2, .ref (Z.2.2.1 (9 + (S.1 3 (nI 0).toNatClampNeg).toNatClampNeg))), (0, .ref (Z.2.2.1 4)), (1, .ref (Z.2.2.1 3))]) hx hb dX4_tellKite_23 rfl hl (by decide) rfl (fun ls hl => ?_)
      refine lv_aload_n hx hb dX4_tellKite_24 rfl (lv_at hl 0 rfl) ?_
      refine lv_iconst (v := (nI 1)) hx hb dX4_tellKite_25 (by decide) ?_
      refine s_pI g C hP hS (9 + (S.1 3 (nI 0).toNatClampNeg).toNatClampNeg) 0 (ltX_kite (vin_lt hv_3)) (shX_kite (vin_lt hv_3)) rfl cfX2 (by decide) rfl rfl rfl kFL_X4_67 dX4_tellKite_26 (fun H locs hP hS => ?_)
      obtain ⟨S_4, eS_4⟩ : ∃ z_ : St, z_ = sI S (9 + (S.1 3 (nI 0).toNatClampNeg).toNatClampNeg) 0 (nI 1) := ⟨_, rfl⟩
      rw [← eS_4] at hP
      have h := h S_4 eS_4
      refine lv_aload_n hx hb dX4_tellKite_29 rfl (lv_at hl 0 rfl) ?_
      refine lv_aload_n hx hb dX4_tellKite_30 rfl (lv_at hl 2 rfl) ?_
      refine lv_iconst (v := (nI 1)) hx hb dX4_tellKite_31 (by decide) ?_
      refine s_aI g C hP 3 (by decide) rfl (vinL (by decide +kernel)) dX4_tellKite_32 ?_
      refine s_pI g C hP hS (9 + (S.1 3 (nI 0).toNatClampNeg).toNatClampNeg) 1 (ltX_kite (vin_lt hv_3)) (shX_kite (vin_lt hv_3)) rfl cfX2 (by decide) rfl rfl rfl kFL_X4_71 dX4_tellKite_33 (fun H locs hP hS => ?_)
      obtain ⟨S_5, eS_5⟩ : ∃ z_ : St, z_ = sI S_4 (9 + (S.1 3 (nI 0).toNatClampNeg).toNatClampNeg) 1 (S_4.1 3 (nI 1).toNatClampNeg) := ⟨_, rfl⟩
      rw [← eS_5] at hP
      have h := h S_5 eS_5
      refine lv_aload_n hx hb dX4_tellKite_36 rfl (lv_at hl 0 rfl) ?_
      refine lv_aload_n hx hb dX4_tellKite_37 rfl (lv_at hl 2 rfl) ?_
      refine lv_iconst (v := (nI 2)) hx hb dX4_tellKite_38 (by decide) ?_
      refine s_aI g C hP 3 (by decide) rfl (vinL (by decide +kernel)) dX4_tellKite_39 ?_
      refine s_pI g C hP hS (9 + (S.1 3 (nI 0).toNatClampNeg).toNatClampNeg) 2 (ltX_kite (vin_lt hv_3)) (shX_kite (vin_lt hv_3)) rfl cfX2 (by decide) rfl rfl rfl kFL_X4_74 dX4_tellKite_40 (fun H locs hP hS => ?_)
      obtain ⟨S_6, eS_6⟩ : ∃ z_ : St, z_ = sI S_5 (9 + (S.1 3 (nI 0).toNatClampNeg).toNatClampNeg) 2 (S_5.1 3 (nI 2).toNatClampNeg) := ⟨_, rfl⟩
      rw [← eS_6] at hP
      have h := h S_6 eS_6
      refine lv_aload_n hx hb dX4_tellKite_43 rfl (lv_at hl 0 rfl) ?_
      refine lv_aload_n hx hb dX4_tellKite_44 rfl (lv_at hl 2 rfl) ?_
      refine lv_iconst (v := (nI 3)) hx hb dX4_tellKite_45 (by decide) ?_
      refine s_aI g C hP 3 (by decide) rfl (vinL (by decide +kernel)) dX4_tellKite_46 ?_
      refine s_pI g C hP hS (9 + (S.1 3 (nI 0).toNatClampNeg).toNatClampNeg) 3 (ltX_kite (vin_lt hv_3)) (shX_kite (vin_lt hv_3)) rfl cfX2 (by decide) rfl rfl rfl kFL_X4_77 dX4_tellKite_47 (fun H locs hP hS => ?_)
      obtain ⟨S_7, eS_7⟩ : ∃ z_ : St, z_ = sI S_6 (9 + (S.1 3 (nI 0).toNatClampNeg).toNatClampNeg) 3 (S_6.1 3 (nI 3).toNatClampNeg) := ⟨_, rfl⟩
      rw [← eS_7] at hP
      have h := h S_7 eS_7
      refine lv_aload_n hx hb dX4_tellKite_50 rfl (lv_at hl 0 rfl) ?_
      refine lv_aload_n hx hb dX4_tellKite_51 rfl (lv_at hl 2 rfl) ?_
      refine lv_iconst (v := (nI 4)) hx hb dX4_tellKite_52 (by decide) ?_
      refine s_aI g C hP 3 (by decide) rfl (vinL (by decide +kernel)) dX4_tellKite_53 ?_
      refine s_pI g C hP hS (9 + (S.1 3 (nI 0).toNatClampNeg).toNatClampNeg) 4 (ltX_kite (vin_lt hv_3)) (shX_kite (vin_lt hv_3)) rfl cfX2 (by decide) rfl rfl rfl kFL_X4_80 dX4_tellKite_54 (fun H locs hP hS => ?_)
      obtain ⟨S_8, eS_8⟩ : ∃ z_ : St, z_ = sI S_7 (9 + (S.1 3 (nI 0).toNatClampNeg).toNatClampNeg) 4 (S_7.1 3 (nI 4).toNatClampNeg) := ⟨_, rfl⟩
      rw [← eS_8] at hP
      have h := h S_8 eS_8
      refine lv_aload_n hx hb dX4_tellKite_57 rfl (lv_at hl 0 rfl) ?_
      refine lv_aload_n hx hb dX4_tellKite_58 rfl (lv_at hl 2 rfl) ?_
      refine lv_iconst (v := (nI 5)) hx hb dX4_tellKite_59 (by decide) ?_
      refine s_aI g C hP 3 (by decide) rfl (vinL (by decide +kernel)) dX4_tellKite_60 ?_
      refine s_pI g C hP hS (9 + (S.1 3 (nI 0).toNatClampNeg).toNatClampNeg) 5 (ltX_kite (vin_lt hv_3)) (shX_kite (vin_lt hv_3)) rfl cfX2 (by decide) rfl rfl rfl kFL_X4_83 dX4_tellKite_61 (fun H locs hP hS => ?_)
      obtain ⟨S_9, eS_9⟩ : ∃ z_ : St, z_ = sI S_8 (9 + (S.1 3 (nI 0).toNatClampNeg).toNatClampNeg) 5 (S_8.1 3 (nI 5).toNatClampNeg) := ⟨_, rfl⟩
      rw [← eS_9] at hP
      have h := h S_9 eS_9
      exact s_rv C hP hS h dX4_tellKite_64
    · have h := h.2 c_2
      exact s_rv C hP hS h dX4_tellKite_14
def q_X4_tellShoal (S : St) (k : St → Prop) : Prop := ((S.1 3 (nI 0).toNatClampNeg) < (nI 0) → (k S)) ∧ (¬ (S.1 3 (nI 0).toNatClampNeg) < (nI 0) → (((S.1 3 (nI 0).toNatClampNeg) < (nI 4) → (vp_in (S.1 3 (nI 0).toNatClampNeg) 4 ∧ (∀ S_4 : St, S_4 = sI S (15 + (S.1 3 (nI 0).toNatClampNeg).toNatClampNeg) 0 (nI 1) → (∀ S_5 : St, S_5 = sI S_4 (15 + (S.1 3 (nI 0).toNatClampNeg).toNatClampNeg) 1 (S_4.1 3 (nI 1).toNatClampNeg) → (∀ S_6 : St, S_6 = sI S_5 (15 + (S.1 3 (nI 0).toNatClampNeg).toNatClampNeg) 2 (S_5.1 3 (nI 2).toNatClampNeg) → (∀ S_7 : St, S_7 = sI S_6 (15 + (S.1 3 (nI 0).toNatClampNeg).toNatClampNeg) 3 ((S_6.1 3 (nI 3).toNatClampNeg) - (nI 1)) → (∀ S_8 : St, S_8 = sI S_7 (15 + (S.1 3 (nI 0).toNatClampNeg).toNatClampNeg) 4 ((S_7.1 3 (nI 4).toNatClampNeg) - (nI 1)) → (∀ S_9 : St, S_9 = sI S_8 (15 + (S.1 3 (nI 0).toNatClampNeg).toNatClampNeg) 5 (S_8.1 3 (nI 5).toNatClampNeg) → (k S_9))))))))) ∧ (¬ (S.1 3 (nI 0).toNatClampNeg) < (nI 4) → (k S))))
set_option maxRecDepth 100000 in
set_option maxHeartbeats 4000000 in
theorem c_X4_tellShoal {l : Launch} {Z : ZT} (hi : injZ 68 Z) (S : St) (k : St → Prop) (h : q_X4_tellShoal S k) : Mv l shX 68 Z (gX Z) yX4_tellShoal cX4_tellShoal 3 none (rmk 0 0) [.ref (Z.2.2.1 4), .ref (Z.2.2.1 3)] S k := by
  have g := gokX hi
  refine e_v (by decide) (Nat.le_of_ble_eq_true rfl) (lv := [(0, .ref (Z.2.2.1 4)), (1, .ref (Z.2.2.1 3))]) rfl (fun p e s m args below meth c C hP hS ls hl => ?_)
  have hx := C.1.1
  have hb := C.1.2.1
  unfold q_X4_tellShoal at h
  refine lv_aload_n hx hb dX4_tellShoal_0 rfl (lv_at hl 1 rfl) ?_
  refine lv_iconst (v := (nI 0)) hx hb dX4_tellShoal_1 (by decide) ?_
  refine s_aI g C hP 3 (by decide) rfl (vinL (by decide +kernel)) dX4_tellShoal_2 ?_
  refine lv_if_lt (tgt := 13) hx hb dX4_tellShoal_3 (by decide) (fun c_1 => ?_) (fun c_1 => ?_)
  · have h := h.1 c_1
    exact s_rv C hP hS h dX4_tellShoal_13
  · have h := h.2 c_1
    refine lv_aload_n hx hb dX4_tellShoal_6 rfl (lv_at hl 1 rfl) ?_
    refine lv_iconst (v := (nI 0)) hx hb dX4_tellShoal_7 (by decide) ?_
    refine s_aI g C hP 3 (by decide) rfl (vinL (by decide +kernel)) dX4_tellShoal_8 ?_
    refine lv_iconst (v := (nI 4)) hx hb dX4_tellShoal_9 (by decide) ?_
    refine lv_icmp_lt (tgt := 14) hx hb dX4_tellShoal_10 (by decide) (fun c_2 => ?_) (fun c_2 => ?_)
    · have h := h.1 c_2
      refine lv_aload_n hx hb dX4_tellShoal_14 rfl (lv_at hl 0 rfl) ?_
      refine s_gR g C hP 4 1 6 (by decide) rfl rfl cfX4 (by decide) kFL_X4_19 dX4_tellShoal_15 ?_
      refine lv_aload_n hx hb dX4_tellShoal_18 rfl (lv_at hl 1 rfl) ?_
      refine lv_iconst (v := (nI 0)) hx hb dX4_tellShoal_19 (by decide) ?_
      refine s_aI g C hP 3 (by decide) rfl (vinL (by decide +kernel)) dX4_tellShoal_20 ?_
      have hv_3 := h.1
      have h := h.2
      refine s_aR g C hP 6 (t := 1) (by decide) rfl rfl hv_3 dX4_tellShoal_21 ?_
      refine lv_astore_n (lv' := [(2, .ref (Z.2.2.1 (15 + (S.1 3 (nI 0).toNatClampNeg).toNatClampNeg))), (0, .ref (Z.2.2.1 4)), (1, .ref (Z.2.2.1 3))]) hx hb dX4_tellShoal_22 rfl hl (by decide) rfl (fun ls hl => ?_)
      refine lv_aload_n hx hb dX4_tellShoal_23 rfl (lv_at hl 0 rfl) ?_
      refine lv_iconst (v := (nI 1)) hx hb dX4_tellShoal_24 (by decide) ?_
      refine s_pI g C hP hS (15 + (S.1 3 (nI 0).toNatClampNeg).toNatClampNeg) 0 (ltX_shoal (vin_lt hv_3)) (shX_shoal (vin_lt hv_3)) rfl cfX6 (by decide) rfl rfl rfl kFL_X4_86 dX4_tellShoal_25 (fun H locs hP hS => ?_)
      obtain ⟨S_4, eS_4⟩ : ∃ z_ : St, z_ = sI S (15 + (S.1 3 (nI 0).toNatClampNeg).toNatClampNeg) 0 (nI 1) := ⟨_, rfl⟩
      rw [← eS_4] at hP
      have h := h S_4 eS_4
      refine lv_aload_n hx hb dX4_tellShoal_28 rfl (lv_at hl 0 rfl) ?_
      refine lv_aload_n hx hb dX4_tellShoal_29 rfl (lv_at hl 2 rfl) ?_
      refine lv_iconst (v := (nI 1)) hx hb dX4_tellShoal_30 (by decide) ?_
      refine s_aI g C hP 3 (by decide) rfl (vinL (by decide +kernel)) dX4_tellShoal_31 ?_
      refine s_pI g C hP hS (15 + (S.1 3 (nI 0).toNatClampNeg).toNatClampNeg) 1 (ltX_shoal (vin_lt hv_3)) (shX_shoal (vin_lt hv_3)) rfl cfX6 (by decide) rfl rfl rfl kFL_X4_87 dX4_tellShoal_32 (fun H locs hP hS => ?_)
      obtain ⟨S_5, eS_5⟩ : ∃ z_ : St, z_ = sI S_4 (15 + (S.1 3 (nI 0).toNatClampNeg).toNatClampNeg) 1 (S_4.1 3 (nI 1).toNatClampNeg) := ⟨_, rfl⟩
      rw [← eS_5] at hP
      have h := h S_5 eS_5
      refine lv_aload_n hx hb dX4_tellShoal_35 rfl (lv_at hl 0 rfl) ?_
      refine lv_aload_n hx hb dX4_tellShoal_36 rfl (lv_at hl 2 rfl) ?_
      refine lv_iconst (v := (nI 2)) hx hb dX4_tellShoal_37 (by decide) ?_
      refine s_aI g C hP 3 (by decide) rfl (vinL (by decide +kernel)) dX4_tellShoal_38 ?_
      refine s_pI g C hP hS (15 + (S.1 3 (nI 0).toNatClampNeg).toNatClampNeg) 2 (ltX_shoal (vin_lt hv_3)) (shX_shoal (vin_lt hv_3)) rfl cfX6 (by decide) rfl rfl rfl kFL_X4_90 dX4_tellShoal_39 (fun H locs hP hS => ?_)
      obtain ⟨S_6, eS_6⟩ : ∃ z_ : St, z_ = sI S_5 (15 + (S.1 3 (nI 0).toNatClampNeg).toNatClampNeg) 2 (S_5.1 3 (nI 2).toNatClampNeg) := ⟨_, rfl⟩
      rw [← eS_6] at hP
      have h := h S_6 eS_6
      refine lv_aload_n hx hb dX4_tellShoal_42 rfl (lv_at hl 0 rfl) ?_
      refine lv_aload_n hx hb dX4_tellShoal_43 rfl (lv_at hl 2 rfl) ?_
      refine lv_iconst (v := (nI 3)) hx hb dX4_tellShoal_44 (by decide) ?_
      refine s_aI g C hP 3 (by decide) rfl (vinL (by decide +kernel)) dX4_tellShoal_45 ?_
      refine lv_iconst (v := (nI 1)) hx hb dX4_tellShoal_46 (by decide) ?_
      refine lv_isub hx hb dX4_tellShoal_47 ?_
      refine s_pI g C hP hS (15 + (S.1 3 (nI 0).toNatClampNeg).toNatClampNeg) 3 (ltX_shoal (vin_lt hv_3)) (shX_shoal (vin_lt hv_3)) rfl cfX6 (by decide) rfl rfl rfl kFL_X4_93 dX4_tellShoal_48 (fun H locs hP hS => ?_)
      obtain ⟨S_7, eS_7⟩ : ∃ z_ : St, z_ = sI S_6 (15 + (S.1 3 (nI 0).toNatClampNeg).toNatClampNeg) 3 ((S_6.1 3 (nI 3).toNatClampNeg) - (nI 1)) := ⟨_, rfl⟩
      rw [← eS_7] at hP
      have h := h S_7 eS_7
      refine lv_aload_n hx hb dX4_tellShoal_51 rfl (lv_at hl 0 rfl) ?_
      refine lv_aload_n hx hb dX4_tellShoal_52 rfl (lv_at hl 2 rfl) ?_
      refine lv_iconst (v := (nI 4)) hx hb dX4_tellShoal_53 (by decide) ?_
      refine s_aI g C hP 3 (by decide) rfl (vinL (by decide +kernel)) dX4_tellShoal_54 ?_
      refine lv_iconst (v := (nI 1)) hx hb dX4_tellShoal_55 (by decide) ?_
      refine lv_isub hx hb dX4_tellShoal_56 ?_
      refine s_pI g C hP hS (15 + (S.1 3 (nI 0).toNatClampNeg).toNatClampNeg) 4 (ltX_shoal (vin_lt hv_3)) (shX_shoal (vin_lt hv_3)) rfl cfX6 (by decide) rfl rfl rfl kFL_X4_96 dX4_tellShoal_57 (fun H locs hP hS => ?_)
      obtain ⟨S_8, eS_8⟩ : ∃ z_ : St, z_ = sI S_7 (15 + (S.1 3 (nI 0).toNatClampNeg).toNatClampNeg) 4 ((S_7.1 3 (nI 4).toNatClampNeg) - (nI 1)) := ⟨_, rfl⟩
      rw [← eS_8] at hP
      have h := h S_8 eS_8
      refine lv_aload_n hx hb dX4_tellShoal_60 rfl (lv_at hl 0 rfl) ?_
      refine lv_aload_n hx hb dX4_tellShoal_61 rfl (lv_at hl 2 rfl) ?_
      refine lv_iconst (v := (nI 5)) hx hb dX4_tellShoal_62 (by decide) ?_
      refine s_aI g C hP 3 (by decide) rfl (vinL (by decide +kernel)) dX4_tellShoal_63 ?_
      refine s_pI g C hP hS (15 + (S.1 3 (nI 0).toNatClampNeg).toNatClampNeg) 5 (ltX_shoal (vin_lt hv_3)) (shX_shoal (vin_lt hv_3)) rfl cfX6 (by decide) rfl rfl rfl kFL_X4_99 dX4_tellShoal_64 (fun H locs hP hS => ?_)
      obtain ⟨S_9, eS_9⟩ : ∃ z_ : St, z_ = sI S_8 (15 + (S.1 3 (nI 0).toNatClampNeg).toNatClampNeg) 5 (S_8.1 3 (nI 5).toNatClampNeg) := ⟨_, rfl⟩
      rw [← eS_9] at hP
      have h := h S_9 eS_9
      exact s_rv C hP hS h dX4_tellShoal_67
    · have h := h.2 c_2
      exact s_rv C hP hS h dX4_tellShoal_13
def q_X4_tellFog_30 (a1 : Int32) (a2 : Int32) (k : St → Prop) (e_2 : St → Int32 → Prop) (S : St) (x3 : Int32) : Prop := ∀ x3_1 : Int32, x3_1 = x3 + (nI 1) → (e_2 S x3_1)
set_option maxRecDepth 100000 in
set_option maxHeartbeats 4000000 in
theorem b_X4_tellFog_30 {p : Program} {l : Launch} {e : Env} {s : State} {m : MethodId} {args : Array Value} {below : List Frame} {meth : Method} {c : Code} {Z : ZT} (hi : injZ 68 Z) (C : Cxt (gX Z) p s m meth c args yX4_tellFog cX4_tellFog 4 none) {a1 : Int32} {a2 : Int32} {k : St → Prop} {e_2 : St → Int32 → Prop}  (he_2 : ∀ (S : St) (x3 : Int32) (H : Heap) (locs : List Loc) (ls : Array Slot), va_P Z.1 vwCl (wl shX 68 Z S) H → va_S (aa 68 Z) s.heap H locs → lv_has ls 4 [(0, .ref (Z.2.2.1 4)), (1, .int a1), (2, .int a2), (3, .int x3)] → e_2 S x3 → W p l e (rmk 0 0) s m args below meth c H locs 0 0 (Qv below shX 68 Z args s k) (F0 m 2 ls [])) (S : St) (x3 : Int32) (H : Heap) (locs : List Loc) (ls : Array Slot) (hP : va_P Z.1 vwCl (wl shX 68 Z S) H) (hS : va_S (aa 68 Z) s.heap H locs) (hl : lv_has ls 4 [(0, .ref (Z.2.2.1 4)), (1, .int a1), (2, .int a2), (3, .int x3)]) (h : q_X4_tellFog_30 a1 a2 k e_2 S x3) : W p l e (rmk 0 0) s m args below meth c H locs 0 0 (Qv below shX 68 Z args s k) (F0 m 30 ls []) := by
  have g := gokX hi
  have hx := C.1.1
  have hb := C.1.2.1
  unfold q_X4_tellFog_30 at h
  obtain ⟨x3_1, ex3_1⟩ : ∃ y_ : Int32, y_ = x3 + (nI 1) := ⟨_, rfl⟩
  have h := h x3_1 ex3_1
  refine lv_iinc (v := x3_1) (lv' := [(3, .int x3_1), (0, .ref (Z.2.2.1 4)), (1, .int a1), (2, .int a2)]) hx hb dX4_tellFog_30 hl (k := 3) rfl (by rw [ex3_1]; rfl) (by decide) rfl (fun ls hl => ?_)
  refine lv_goto (tgt := 2) hx hb dX4_tellFog_33 (by decide) ?_
  exact he_2 _ _ _ _ _ hP hS (lv_sub hl [1, 2, 3, 0] rfl) h
def q_X4_tellFog_2 (a1 : Int32) (a2 : Int32) (k : St → Prop) : Nat → St → Int32 → Prop := fun n_ => Nat.rec (motive := fun _ => St → Int32 → Prop) (fun _ _ => False) (fun _ ih => fun S x3 => ((nI 12) ≤ x3 → (k S)) ∧ (¬ (nI 12) ≤ x3 → ((x3 < a1 → (q_X4_tellFog_30 a1 a2 k ih S x3)) ∧ (¬ x3 < a1 → ((a2 < x3 → (q_X4_tellFog_30 a1 a2 k ih S x3)) ∧ (¬ a2 < x3 → (∀ S_4 : St, S_4 = sI S 4 6 ((S.1 4 6) ||| ((nI 1) <<< (x3 &&& 31))) → (q_X4_tellFog_30 a1 a2 k ih S_4 x3)))))))) n_
theorem q_X4_tellFog_2_s (a1 : Int32) (a2 : Int32) (k : St → Prop) (n_ : Nat) (S : St) (x3 : Int32) : q_X4_tellFog_2 a1 a2 k (n_ + 1) S x3 = (((nI 12) ≤ x3 → (k S)) ∧ (¬ (nI 12) ≤ x3 → ((x3 < a1 → (q_X4_tellFog_30 a1 a2 k (q_X4_tellFog_2 a1 a2 k n_) S x3)) ∧ (¬ x3 < a1 → ((a2 < x3 → (q_X4_tellFog_30 a1 a2 k (q_X4_tellFog_2 a1 a2 k n_) S x3)) ∧ (¬ a2 < x3 → (∀ S_4 : St, S_4 = sI S 4 6 ((S.1 4 6) ||| ((nI 1) <<< (x3 &&& 31))) → (q_X4_tellFog_30 a1 a2 k (q_X4_tellFog_2 a1 a2 k n_) S_4 x3)))))))) := rfl
set_option maxRecDepth 100000 in
set_option maxHeartbeats 4000000 in
theorem b_X4_tellFog_2 {p : Program} {l : Launch} {e : Env} {s : State} {m : MethodId} {args : Array Value} {below : List Frame} {meth : Method} {c : Code} {Z : ZT} (hi : injZ 68 Z) (C : Cxt (gX Z) p s m meth c args yX4_tellFog cX4_tellFog 4 none) {a1 : Int32} {a2 : Int32} {k : St → Prop}   : ∀ (n_ : Nat) (S : St) (x3 : Int32) (H : Heap) (locs : List Loc) (ls : Array Slot), va_P Z.1 vwCl (wl shX 68 Z S) H → va_S (aa 68 Z) s.heap H locs → lv_has ls 4 [(0, .ref (Z.2.2.1 4)), (1, .int a1), (2, .int a2), (3, .int x3)] → q_X4_tellFog_2 a1 a2 k n_ S x3 → W p l e (rmk 0 0) s m args below meth c H locs 0 0 (Qv below shX 68 Z args s k) (F0 m 2 ls []) := by
  have g := gokX hi
  have hx := C.1.1
  have hb := C.1.2.1
  intro n_
  induction n_ with
  | zero => intro S x3 H locs ls hP hS hl h; exact h.elim
  | succ n_ ih =>
    intro S x3 H locs ls hP hS hl h
    rw [q_X4_tellFog_2_s] at h
    refine lv_iload_n hx hb dX4_tellFog_2 rfl (lv_at hl 3 rfl) ?_
    refine lv_bipush (v := (nI 12)) hx hb dX4_tellFog_3 (by decide) ?_
    refine lv_icmp_ge (tgt := 36) hx hb dX4_tellFog_5 (by decide) (fun c_1 => ?_) (fun c_1 => ?_)
    · have h := h.1 c_1
      exact s_rv C hP hS h dX4_tellFog_36
    · have h := h.2 c_1
      refine lv_iload_n hx hb dX4_tellFog_8 rfl (lv_at hl 3 rfl) ?_
      refine lv_iload_n hx hb dX4_tellFog_9 rfl (lv_at hl 1 rfl) ?_
      refine lv_icmp_lt (tgt := 30) hx hb dX4_tellFog_10 (by decide) (fun c_2 => ?_) (fun c_2 => ?_)
      · have h := h.1 c_2
        exact b_X4_tellFog_30 hi C ih _ _ _ _ _ hP hS (lv_sub hl [0, 1, 2, 3] rfl) h
      · have h := h.2 c_2
        refine lv_iload_n hx hb dX4_tellFog_13 rfl (lv_at hl 3 rfl) ?_
        refine lv_iload_n hx hb dX4_tellFog_14 rfl (lv_at hl 2 rfl) ?_
        refine lv_icmp_gt (tgt := 30) hx hb dX4_tellFog_15 (by decide) (fun c_3 => ?_) (fun c_3 => ?_)
        · have h := h.1 c_3
          exact b_X4_tellFog_30 hi C ih _ _ _ _ _ hP hS (lv_sub hl [0, 1, 2, 3] rfl) h
        · have h := h.2 c_3
          refine lv_aload_n hx hb dX4_tellFog_18 rfl (lv_at hl 0 rfl) ?_
          refine lv_dup hx hb dX4_tellFog_19 rfl ?_
          refine s_gI g C hP 4 6 (by decide) rfl rfl cfX4 (by decide) kFL_X4_102 dX4_tellFog_20 ?_
          refine lv_iconst (v := (nI 1)) hx hb dX4_tellFog_23 (by decide) ?_
          refine lv_iload_n hx hb dX4_tellFog_24 rfl (lv_at hl 3 rfl) ?_
          refine lv_ishl hx hb dX4_tellFog_25 ?_
          refine lv_ior hx hb dX4_tellFog_26 ?_
          refine s_pI g C hP hS 4 6 (by decide) rfl rfl cfX4 (by decide) rfl rfl rfl kFL_X4_102 dX4_tellFog_27 (fun H locs hP hS => ?_)
          obtain ⟨S_4, eS_4⟩ : ∃ z_ : St, z_ = sI S 4 6 ((S.1 4 6) ||| ((nI 1) <<< (x3 &&& 31))) := ⟨_, rfl⟩
          rw [← eS_4] at hP
          have h := h S_4 eS_4
          exact b_X4_tellFog_30 hi C ih _ _ _ _ _ hP hS (lv_sub hl [0, 1, 2, 3] rfl) h
def q_X4_tellFog (S : St) (a1 : Int32) (a2 : Int32) (k : St → Prop) : Prop := ∃ f_2, q_X4_tellFog_2 a1 a2 k f_2 S (nI 0)
set_option maxRecDepth 100000 in
set_option maxHeartbeats 4000000 in
theorem c_X4_tellFog {l : Launch} {Z : ZT} (hi : injZ 68 Z) (S : St) (a1 : Int32) (a2 : Int32) (k : St → Prop) (h : q_X4_tellFog S a1 a2 k) : Mv l shX 68 Z (gX Z) yX4_tellFog cX4_tellFog 4 none (rmk 0 0) [.ref (Z.2.2.1 4), .int a1, .int a2] S k := by
  have g := gokX hi
  refine e_v (by decide) (Nat.le_of_ble_eq_true rfl) (lv := [(0, .ref (Z.2.2.1 4)), (1, .int a1), (2, .int a2)]) rfl (fun p e s m args below meth c C hP hS ls hl => ?_)
  have hx := C.1.1
  have hb := C.1.2.1
  unfold q_X4_tellFog at h
  refine lv_iconst (v := (nI 0)) hx hb dX4_tellFog_0 (by decide) ?_
  refine lv_istore_n (lv' := [(3, .int (nI 0)), (0, .ref (Z.2.2.1 4)), (1, .int a1), (2, .int a2)]) hx hb dX4_tellFog_1 rfl hl (by decide) rfl (fun ls hl => ?_)
  obtain ⟨f_2, h⟩ := h
  exact b_X4_tellFog_2 hi C  f_2 _ _ _ _ _ hP hS (lv_sub hl [1, 2, 3, 0] rfl) h
def q_J7_fill_53178_5 (w : Nat) (nw : Nat) (a2 : Int32) (k : St → Prop) : Nat → St → Int32 → Int32 → Prop := fun n_ => Nat.rec (motive := fun _ => St → Int32 → Int32 → Prop) (fun _ _ _ => False) (fun _ ih => fun S x2 x3 => (x3 ≤ x2 → (k S)) ∧ (¬ x3 ≤ x2 → (vp_in x2 nw ∧ (∀ S_3 : St, S_3 = sI S w x2.toNatClampNeg a2 → (∀ x2_4 : Int32, x2_4 = x2 + (nI 1) → (ih S_3 x2_4 x3)))))) n_
theorem q_J7_fill_53178_5_s (w : Nat) (nw : Nat) (a2 : Int32) (k : St → Prop) (n_ : Nat) (S : St) (x2 : Int32) (x3 : Int32) : q_J7_fill_53178_5 w nw a2 k (n_ + 1) S x2 x3 = ((x3 ≤ x2 → (k S)) ∧ (¬ x3 ≤ x2 → (vp_in x2 nw ∧ (∀ S_3 : St, S_3 = sI S w x2.toNatClampNeg a2 → (∀ x2_4 : Int32, x2_4 = x2 + (nI 1) → ((q_J7_fill_53178_5 w nw a2 k n_) S_3 x2_4 x3)))))) := rfl
set_option maxRecDepth 100000 in
set_option maxHeartbeats 4000000 in
theorem b_J7_fill_53178_5 {p : Program} {l : Launch} {e : Env} {s : State} {m : MethodId} {args : Array Value} {below : List Frame} {meth : Method} {c : Code} {Z : ZT} (hi : injZ 68 Z) (C : Cxt (gX Z) p s m meth c args yJ7_fill_53178 cJ7_fill_53178 4 none) {w : Nat} {nw : Nat} {a2 : Int32} {k : St → Prop} (hw : w < 68 ∧ shX w = .inr (0, nw, 0))  : ∀ (n_ : Nat) (S : St) (x2 : Int32) (x3 : Int32) (H : Heap) (locs : List Loc) (ls : Array Slot), va_P Z.1 vwCl (wl shX 68 Z S) H → va_S (aa 68 Z) s.heap H locs → lv_has ls 4 [(0, .ref (Z.2.2.1 w)), (1, .int a2), (2, .int x2), (3, .int x3)] → q_J7_fill_53178_5 w nw a2 k n_ S x2 x3 → W p l e (rmk 0 0) s m args below meth c H locs 0 0 (Qv below shX 68 Z args s k) (F0 m 5 ls []) := by
  have g := gokX hi
  have hx := C.1.1
  have hb := C.1.2.1
  intro n_
  induction n_ with
  | zero => intro S x2 x3 H locs ls hP hS hl h; exact h.elim
  | succ n_ ih =>
    intro S x2 x3 H locs ls hP hS hl h
    rw [q_J7_fill_53178_5_s] at h
    refine lv_iload_n hx hb dJ7_fill_53178_5 rfl (lv_at hl 2 rfl) ?_
    refine lv_iload_n hx hb dJ7_fill_53178_6 rfl (lv_at hl 3 rfl) ?_
    refine lv_icmp_ge (tgt := 20) hx hb dJ7_fill_53178_7 (by decide) (fun c_1 => ?_) (fun c_1 => ?_)
    · have h := h.1 c_1
      exact s_rv C hP hS h dJ7_fill_53178_20
    · have h := h.2 c_1
      refine lv_aload_n hx hb dJ7_fill_53178_10 rfl (lv_at hl 0 rfl) ?_
      refine lv_iload_n hx hb dJ7_fill_53178_11 rfl (lv_at hl 2 rfl) ?_
      refine lv_iload_n hx hb dJ7_fill_53178_12 rfl (lv_at hl 1 rfl) ?_
      have hv_2 := h.1
      have h := h.2
      refine s_stI g C hP hS w hw.1 hw.2 hv_2 dJ7_fill_53178_13 (fun H locs hP hS => ?_)
      obtain ⟨S_3, eS_3⟩ : ∃ z_ : St, z_ = sI S w x2.toNatClampNeg a2 := ⟨_, rfl⟩
      rw [← eS_3] at hP
      have h := h S_3 eS_3
      obtain ⟨x2_4, ex2_4⟩ : ∃ y_ : Int32, y_ = x2 + (nI 1) := ⟨_, rfl⟩
      have h := h x2_4 ex2_4
      refine lv_iinc (v := x2_4) (lv' := [(2, .int x2_4), (0, .ref (Z.2.2.1 w)), (1, .int a2), (3, .int x3)]) hx hb dJ7_fill_53178_14 hl (k := 2) rfl (by rw [ex2_4]; rfl) (by decide) rfl (fun ls hl => ?_)
      refine lv_goto (tgt := 5) hx hb dJ7_fill_53178_17 (by decide) ?_
      exact ih _ _ _ _ _ _ hP hS (lv_sub hl [1, 2, 0, 3] rfl) h
def q_J7_fill_53178 (w : Nat) (nw : Nat) (S : St) (a2 : Int32) (k : St → Prop) : Prop := ∀ x3_1 : Int32, x3_1 = (nI nw) → (∃ f_5, q_J7_fill_53178_5 w nw a2 k f_5 S (nI 0) x3_1)
set_option maxRecDepth 100000 in
set_option maxHeartbeats 4000000 in
theorem c_J7_fill_53178 {l : Launch} {Z : ZT} (hi : injZ 68 Z) (w : Nat) (nw : Nat) (hw : w < 68 ∧ shX w = .inr (0, nw, 0)) (S : St) (a2 : Int32) (k : St → Prop) (h : q_J7_fill_53178 w nw S a2 k) : Mv l shX 68 Z (gX Z) yJ7_fill_53178 cJ7_fill_53178 4 none (rmk 0 0) [.ref (Z.2.2.1 w), .int a2] S k := by
  have g := gokX hi
  refine e_v (by decide) (Nat.le_of_ble_eq_true rfl) (lv := [(0, .ref (Z.2.2.1 w)), (1, .int a2)]) rfl (fun p e s m args below meth c C hP hS ls hl => ?_)
  have hx := C.1.1
  have hb := C.1.2.1
  unfold q_J7_fill_53178 at h
  refine lv_iconst (v := (nI 0)) hx hb dJ7_fill_53178_0 (by decide) ?_
  refine lv_istore_n (lv' := [(2, .int (nI 0)), (0, .ref (Z.2.2.1 w)), (1, .int a2)]) hx hb dJ7_fill_53178_1 rfl hl (by decide) rfl (fun ls hl => ?_)
  refine lv_aload_n hx hb dJ7_fill_53178_2 rfl (lv_at hl 1 rfl) ?_
  refine s_len g C hP w hw.1 hw.2 (v := nI nw) rfl dJ7_fill_53178_3 ?_
  refine lv_topi (fun x3_1 ex3_1 => ?_)
  have h := h x3_1 ex3_1
  refine lv_istore_n (lv' := [(3, .int x3_1), (2, .int (nI 0)), (0, .ref (Z.2.2.1 w)), (1, .int a2)]) hx hb dJ7_fill_53178_4 rfl hl (by decide) rfl (fun ls hl => ?_)
  obtain ⟨f_5, h⟩ := h
  exact b_J7_fill_53178_5 hi C hw f_5 _ _ _ _ _ _ hP hS (lv_sub hl [2, 3, 1, 0] rfl) h
def q_X4_tellCalm (S : St) (k : St → Prop) : Prop := q_J7_fill_53178 7 36 S (nI 0) (fun S_1 => (q_J7_fill_53178 8 36 S_1 (nI 0) (fun S_2 => (∀ S_3 : St, S_3 = sI S_2 4 6 (nI 0) → (∀ S_4 : St, S_4 = sI S_3 4 7 (nI 0) → (k S_4))))))
set_option maxRecDepth 100000 in
set_option maxHeartbeats 4000000 in
theorem c_X4_tellCalm {l : Launch} {Z : ZT} (hi : injZ 68 Z) (S : St) (k : St → Prop) (h : q_X4_tellCalm S k) : Mv l shX 68 Z (gX Z) yX4_tellCalm cX4_tellCalm 1 none (rmk 1 23) [.ref (Z.2.2.1 4)] S k := by
  have g := gokX hi
  refine e_v (by decide) (Nat.le_of_ble_eq_true rfl) (lv := [(0, .ref (Z.2.2.1 4))]) rfl (fun p e s m args below meth c C hP hS ls hl => ?_)
  have hx := C.1.1
  have hb := C.1.2.1
  unfold q_X4_tellCalm at h
  refine lv_aload_n hx hb dX4_tellCalm_0 rfl (lv_at hl 0 rfl) ?_
  refine s_gR g C hP 4 2 7 (by decide) rfl rfl cfX4 (by decide) kFL_X4_23 dX4_tellCalm_1 ?_
  refine lv_iconst (v := (nI 0)) hx hb dX4_tellCalm_4 (by decide) ?_
  refine go_v (run_S g C hP hS (As := [.ref (Z.2.2.1 7), .int (nI 0)]) (rest := []) (c_J7_fill_53178 hi 7 36 ⟨(by decide), rfl⟩ S (nI 0) _ h) cal_J7_fill_53178 kML_X4_105 ⟨rfl, rfl, Nat.le_of_ble_eq_true rfl, Nat.le_of_ble_eq_true rfl⟩ rfl rfl hl.1 (Nat.le_of_ble_eq_true rfl) dX4_tellCalm_5) hS (fun S_1 H locs h hP hS => ?_)
  refine lv_aload_n hx hb dX4_tellCalm_8 rfl (lv_at hl 0 rfl) ?_
  refine s_gR g C hP 4 3 8 (by decide) rfl rfl cfX4 (by decide) kFL_X4_27 dX4_tellCalm_9 ?_
  refine lv_iconst (v := (nI 0)) hx hb dX4_tellCalm_12 (by decide) ?_
  refine go_v (run_S g C hP hS (As := [.ref (Z.2.2.1 8), .int (nI 0)]) (rest := []) (c_J7_fill_53178 hi 8 36 ⟨(by decide), rfl⟩ S_1 (nI 0) _ h) cal_J7_fill_53178 kML_X4_105 ⟨rfl, rfl, Nat.le_of_ble_eq_true rfl, Nat.le_of_ble_eq_true rfl⟩ rfl rfl hl.1 (Nat.le_of_ble_eq_true rfl) dX4_tellCalm_13) hS (fun S_2 H locs h hP hS => ?_)
  refine lv_aload_n hx hb dX4_tellCalm_16 rfl (lv_at hl 0 rfl) ?_
  refine lv_iconst (v := (nI 0)) hx hb dX4_tellCalm_17 (by decide) ?_
  refine s_pI g C hP hS 4 6 (by decide) rfl rfl cfX4 (by decide) rfl rfl rfl kFL_X4_102 dX4_tellCalm_18 (fun H locs hP hS => ?_)
  obtain ⟨S_3, eS_3⟩ : ∃ z_ : St, z_ = sI S_2 4 6 (nI 0) := ⟨_, rfl⟩
  rw [← eS_3] at hP
  have h := h S_3 eS_3
  refine lv_aload_n hx hb dX4_tellCalm_21 rfl (lv_at hl 0 rfl) ?_
  refine lv_iconst (v := (nI 0)) hx hb dX4_tellCalm_22 (by decide) ?_
  refine s_pI g C hP hS 4 7 (by decide) rfl rfl cfX4 (by decide) rfl rfl rfl kFL_X4_53 dX4_tellCalm_23 (fun H locs hP hS => ?_)
  obtain ⟨S_4, eS_4⟩ : ∃ z_ : St, z_ = sI S_3 4 7 (nI 0) := ⟨_, rfl⟩
  rw [← eS_4] at hP
  have h := h S_4 eS_4
  exact s_rv C hP hS h dX4_tellCalm_26
def q_X4_tellLost (S : St) (a1 : Int32) (k : St → Prop) : Prop := (a1 < (nI 0) → (k S)) ∧ (¬ a1 < (nI 0) → (((nI 6) ≤ a1 → (k S)) ∧ (¬ (nI 6) ≤ a1 → (vp_in a1 6 ∧ (∀ S_4 : St, S_4 = sI S (9 + a1.toNatClampNeg) 0 (nI 0) → (k S_4))))))
set_option maxRecDepth 100000 in
set_option maxHeartbeats 4000000 in
theorem c_X4_tellLost {l : Launch} {Z : ZT} (hi : injZ 68 Z) (S : St) (a1 : Int32) (k : St → Prop) (h : q_X4_tellLost S a1 k) : Mv l shX 68 Z (gX Z) yX4_tellLost cX4_tellLost 2 none (rmk 0 0) [.ref (Z.2.2.1 4), .int a1] S k := by
  have g := gokX hi
  refine e_v (by decide) (Nat.le_of_ble_eq_true rfl) (lv := [(0, .ref (Z.2.2.1 4)), (1, .int a1)]) rfl (fun p e s m args below meth c C hP hS ls hl => ?_)
  have hx := C.1.1
  have hb := C.1.2.1
  unfold q_X4_tellLost at h
  refine lv_iload_n hx hb dX4_tellLost_0 rfl (lv_at hl 1 rfl) ?_
  refine lv_if_lt (tgt := 20) hx hb dX4_tellLost_1 (by decide) (fun c_1 => ?_) (fun c_1 => ?_)
  · have h := h.1 c_1
    exact s_rv C hP hS h dX4_tellLost_20
  · have h := h.2 c_1
    refine lv_iload_n hx hb dX4_tellLost_4 rfl (lv_at hl 1 rfl) ?_
    refine lv_bipush (v := (nI 6)) hx hb dX4_tellLost_5 (by decide) ?_
    refine lv_icmp_ge (tgt := 20) hx hb dX4_tellLost_7 (by decide) (fun c_2 => ?_) (fun c_2 => ?_)
    · have h := h.1 c_2
      exact s_rv C hP hS h dX4_tellLost_20
    · have h := h.2 c_2
      refine lv_aload_n hx hb dX4_tellLost_10 rfl (lv_at hl 0 rfl) ?_
      refine s_gR g C hP 4 0 5 (by decide) rfl rfl cfX4 (by decide) kFL_X4_11 dX4_tellLost_11 ?_
      refine lv_iload_n hx hb dX4_tellLost_14 rfl (lv_at hl 1 rfl) ?_
      have hv_3 := h.1
      have h := h.2
      refine s_aR g C hP 5 (t := 0) (by decide) rfl rfl hv_3 dX4_tellLost_15 ?_
      refine lv_iconst (v := (nI 0)) hx hb dX4_tellLost_16 (by decide) ?_
      refine s_pI g C hP hS (9 + a1.toNatClampNeg) 0 (ltX_kite (vin_lt hv_3)) (shX_kite (vin_lt hv_3)) rfl cfX2 (by decide) rfl rfl rfl kFL_X4_67 dX4_tellLost_17 (fun H locs hP hS => ?_)
      obtain ⟨S_4, eS_4⟩ : ∃ z_ : St, z_ = sI S (9 + a1.toNatClampNeg) 0 (nI 0) := ⟨_, rfl⟩
      rw [← eS_4] at hP
      have h := h S_4 eS_4
      exact s_rv C hP hS h dX4_tellLost_20
def q_X4_tell (S : St) (a1 : Int32) (k : St → Prop) : Prop := ∀ sw_1 : Int32, sw_1 = a1 → ((sw_1 = (nI 0) → (q_X4_tellWind S (fun S_3 => (k S_3)))) ∧ (¬ sw_1 = (nI 0) → ((sw_1 = (nI 1) → (q_X4_tellKite S (fun S_5 => (k S_5)))) ∧ (¬ sw_1 = (nI 1) → ((sw_1 = (nI 2) → (q_X4_tellShoal S (fun S_7 => (k S_7)))) ∧ (¬ sw_1 = (nI 2) → ((sw_1 = (nI 3) → (∀ S_9 : St, S_9 = sI S 4 4 (S.1 3 (nI 0).toNatClampNeg) → (k S_9))) ∧ (¬ sw_1 = (nI 3) → ((sw_1 = (nI 4) → (∀ S_11 : St, S_11 = sI S 4 5 (S.1 3 (nI 0).toNatClampNeg) → (k S_11))) ∧ (¬ sw_1 = (nI 4) → ((sw_1 = (nI 5) → (q_X4_tellFog S (S.1 3 (nI 0).toNatClampNeg) (S.1 3 (nI 1).toNatClampNeg) (fun S_13 => (k S_13)))) ∧ (¬ sw_1 = (nI 5) → ((sw_1 = (nI 6) → (∀ S_15 : St, S_15 = sI S 4 7 (S.1 3 (nI 0).toNatClampNeg) → (k S_15))) ∧ (¬ sw_1 = (nI 6) → ((sw_1 = (nI 7) → (q_X4_tellCalm S (fun S_17 => (k S_17)))) ∧ (¬ sw_1 = (nI 7) → (q_X4_tellLost S (S.1 3 (nI 0).toNatClampNeg) (fun S_18 => (k S_18)))))))))))))))))))
set_option maxRecDepth 100000 in
set_option maxHeartbeats 4000000 in
theorem c_X4_tell {l : Launch} {Z : ZT} (hi : injZ 68 Z) (S : St) (a1 : Int32) (k : St → Prop) (h : q_X4_tell S a1 k) : Mv l shX 68 Z (gX Z) yX4_tell cX4_tell 3 none (rmk 2 43) [.ref (Z.2.2.1 4), .int a1, .ref (Z.2.2.1 3)] S k := by
  have g := gokX hi
  refine e_v (by decide) (Nat.le_of_ble_eq_true rfl) (lv := [(0, .ref (Z.2.2.1 4)), (1, .int a1), (2, .ref (Z.2.2.1 3))]) rfl (fun p e s m args below meth c C hP hS ls hl => ?_)
  have hx := C.1.1
  have hb := C.1.2.1
  unfold q_X4_tell at h
  refine lv_iload_n hx hb dX4_tell_0 rfl (lv_at hl 1 rfl) ?_
  refine lv_topi (fun sw_1 esw_1 => ?_)
  have h := h sw_1 esw_1
  by_cases c_2 : sw_1 = (nI 0)
  · have h := h.1 c_2
    rw [c_2]
    refine lv_tableIn (tgt := 48) hx hb dX4_tell_1 (by decide) (by decide) rfl (by decide) ?_
    refine lv_aload_n hx hb dX4_tell_48 rfl (lv_at hl 0 rfl) ?_
    refine lv_aload_n hx hb dX4_tell_49 rfl (lv_at hl 2 rfl) ?_
    refine go_v (run_V g C hP hS (c0 := 4) (As := [.ref (Z.2.2.1 3)]) (rest := []) (c_X4_tellWind hi S _ h) cal_X4_tellWind kML_X4_36 (by decide) rfl cfX4 ⟨rfl, rfl, Nat.le_of_ble_eq_true rfl, Nat.le_of_ble_eq_true rfl⟩ rfl rfl hl.1 (Nat.le_of_ble_eq_true rfl) dX4_tell_50) hS (fun S_3 H locs h hP hS => ?_)
    refine lv_goto (tgt := 129) hx hb dX4_tell_53 (by decide) ?_
    exact s_rv C hP hS h dX4_tell_129
  · have h := h.2 c_2
    by_cases c_4 : sw_1 = (nI 1)
    · have h := h.1 c_4
      rw [c_4]
      refine lv_tableIn (tgt := 56) hx hb dX4_tell_1 (by decide) (by decide) rfl (by decide) ?_
      refine lv_aload_n hx hb dX4_tell_56 rfl (lv_at hl 0 rfl) ?_
      refine lv_aload_n hx hb dX4_tell_57 rfl (lv_at hl 2 rfl) ?_
      refine go_v (run_V g C hP hS (c0 := 4) (As := [.ref (Z.2.2.1 3)]) (rest := []) (c_X4_tellKite hi S _ h) cal_X4_tellKite kML_X4_40 (by decide) rfl cfX4 ⟨rfl, rfl, Nat.le_of_ble_eq_true rfl, Nat.le_of_ble_eq_true rfl⟩ rfl rfl hl.1 (Nat.le_of_ble_eq_true rfl) dX4_tell_58) hS (fun S_5 H locs h hP hS => ?_)
      refine lv_goto (tgt := 129) hx hb dX4_tell_61 (by decide) ?_
      exact s_rv C hP hS h dX4_tell_129
    · have h := h.2 c_4
      by_cases c_6 : sw_1 = (nI 2)
      · have h := h.1 c_6
        rw [c_6]
        refine lv_tableIn (tgt := 64) hx hb dX4_tell_1 (by decide) (by decide) rfl (by decide) ?_
        refine lv_aload_n hx hb dX4_tell_64 rfl (lv_at hl 0 rfl) ?_
        refine lv_aload_n hx hb dX4_tell_65 rfl (lv_at hl 2 rfl) ?_
        refine go_v (run_V g C hP hS (c0 := 4) (As := [.ref (Z.2.2.1 3)]) (rest := []) (c_X4_tellShoal hi S _ h) cal_X4_tellShoal kML_X4_43 (by decide) rfl cfX4 ⟨rfl, rfl, Nat.le_of_ble_eq_true rfl, Nat.le_of_ble_eq_true rfl⟩ rfl rfl hl.1 (Nat.le_of_ble_eq_true rfl) dX4_tell_66) hS (fun S_7 H locs h hP hS => ?_)
        refine lv_goto (tgt := 129) hx hb dX4_tell_69 (by decide) ?_
        exact s_rv C hP hS h dX4_tell_129
      · have h := h.2 c_6
        by_cases c_8 : sw_1 = (nI 3)
        · have h := h.1 c_8
          rw [c_8]
          refine lv_tableIn (tgt := 72) hx hb dX4_tell_1 (by decide) (by decide) rfl (by decide) ?_
          refine lv_aload_n hx hb dX4_tell_72 rfl (lv_at hl 0 rfl) ?_
          refine lv_aload_n hx hb dX4_tell_73 rfl (lv_at hl 2 rfl) ?_
          refine lv_iconst (v := (nI 0)) hx hb dX4_tell_74 (by decide) ?_
          refine s_aI g C hP 3 (by decide) rfl (vinL (by decide +kernel)) dX4_tell_75 ?_
          refine s_pI g C hP hS 4 4 (by decide) rfl rfl cfX4 (by decide) rfl rfl rfl kFL_X4_46 dX4_tell_76 (fun H locs hP hS => ?_)
          obtain ⟨S_9, eS_9⟩ : ∃ z_ : St, z_ = sI S 4 4 (S.1 3 (nI 0).toNatClampNeg) := ⟨_, rfl⟩
          rw [← eS_9] at hP
          have h := h S_9 eS_9
          refine lv_goto (tgt := 129) hx hb dX4_tell_79 (by decide) ?_
          exact s_rv C hP hS h dX4_tell_129
        · have h := h.2 c_8
          by_cases c_10 : sw_1 = (nI 4)
          · have h := h.1 c_10
            rw [c_10]
            refine lv_tableIn (tgt := 82) hx hb dX4_tell_1 (by decide) (by decide) rfl (by decide) ?_
            refine lv_aload_n hx hb dX4_tell_82 rfl (lv_at hl 0 rfl) ?_
            refine lv_aload_n hx hb dX4_tell_83 rfl (lv_at hl 2 rfl) ?_
            refine lv_iconst (v := (nI 0)) hx hb dX4_tell_84 (by decide) ?_
            refine s_aI g C hP 3 (by decide) rfl (vinL (by decide +kernel)) dX4_tell_85 ?_
            refine s_pI g C hP hS 4 5 (by decide) rfl rfl cfX4 (by decide) rfl rfl rfl kFL_X4_30 dX4_tell_86 (fun H locs hP hS => ?_)
            obtain ⟨S_11, eS_11⟩ : ∃ z_ : St, z_ = sI S 4 5 (S.1 3 (nI 0).toNatClampNeg) := ⟨_, rfl⟩
            rw [← eS_11] at hP
            have h := h S_11 eS_11
            refine lv_goto (tgt := 129) hx hb dX4_tell_89 (by decide) ?_
            exact s_rv C hP hS h dX4_tell_129
          · have h := h.2 c_10
            by_cases c_12 : sw_1 = (nI 5)
            · have h := h.1 c_12
              rw [c_12]
              refine lv_tableIn (tgt := 92) hx hb dX4_tell_1 (by decide) (by decide) rfl (by decide) ?_
              refine lv_aload_n hx hb dX4_tell_92 rfl (lv_at hl 0 rfl) ?_
              refine lv_aload_n hx hb dX4_tell_93 rfl (lv_at hl 2 rfl) ?_
              refine lv_iconst (v := (nI 0)) hx hb dX4_tell_94 (by decide) ?_
              refine s_aI g C hP 3 (by decide) rfl (vinL (by decide +kernel)) dX4_tell_95 ?_
              refine lv_aload_n hx hb dX4_tell_96 rfl (lv_at hl 2 rfl) ?_
              refine lv_iconst (v := (nI 1)) hx hb dX4_tell_97 (by decide) ?_
              refine s_aI g C hP 3 (by decide) rfl (vinL (by decide +kernel)) dX4_tell_98 ?_
              refine go_v (run_V g C hP hS (c0 := 4) (As := [.int (S.1 3 (nI 0).toNatClampNeg), .int (S.1 3 (nI 1).toNatClampNeg)]) (rest := []) (c_X4_tellFog hi S (S.1 3 (nI 0).toNatClampNeg) (S.1 3 (nI 1).toNatClampNeg) _ h) cal_X4_tellFog kML_X4_49 (by decide) rfl cfX4 ⟨rfl, rfl, Nat.le_of_ble_eq_true rfl, Nat.le_of_ble_eq_true rfl⟩ rfl rfl hl.1 (Nat.le_of_ble_eq_true rfl) dX4_tell_99) hS (fun S_13 H locs h hP hS => ?_)
              refine lv_goto (tgt := 129) hx hb dX4_tell_102 (by decide) ?_
              exact s_rv C hP hS h dX4_tell_129
            · have h := h.2 c_12
              by_cases c_14 : sw_1 = (nI 6)
              · have h := h.1 c_14
                rw [c_14]
                refine lv_tableIn (tgt := 105) hx hb dX4_tell_1 (by decide) (by decide) rfl (by decide) ?_
                refine lv_aload_n hx hb dX4_tell_105 rfl (lv_at hl 0 rfl) ?_
                refine lv_aload_n hx hb dX4_tell_106 rfl (lv_at hl 2 rfl) ?_
                refine lv_iconst (v := (nI 0)) hx hb dX4_tell_107 (by decide) ?_
                refine s_aI g C hP 3 (by decide) rfl (vinL (by decide +kernel)) dX4_tell_108 ?_
                refine s_pI g C hP hS 4 7 (by decide) rfl rfl cfX4 (by decide) rfl rfl rfl kFL_X4_53 dX4_tell_109 (fun H locs hP hS => ?_)
                obtain ⟨S_15, eS_15⟩ : ∃ z_ : St, z_ = sI S 4 7 (S.1 3 (nI 0).toNatClampNeg) := ⟨_, rfl⟩
                rw [← eS_15] at hP
                have h := h S_15 eS_15
                refine lv_goto (tgt := 129) hx hb dX4_tell_112 (by decide) ?_
                exact s_rv C hP hS h dX4_tell_129
              · have h := h.2 c_14
                by_cases c_16 : sw_1 = (nI 7)
                · have h := h.1 c_16
                  rw [c_16]
                  refine lv_tableIn (tgt := 115) hx hb dX4_tell_1 (by decide) (by decide) rfl (by decide) ?_
                  refine lv_aload_n hx hb dX4_tell_115 rfl (lv_at hl 0 rfl) ?_
                  refine go_v (run_V g C hP hS (c0 := 4) (As := []) (rest := []) (c_X4_tellCalm hi S _ h) cal_X4_tellCalm kML_X4_56 (by decide) rfl cfX4 ⟨rfl, rfl, Nat.le_of_ble_eq_true rfl, Nat.le_of_ble_eq_true rfl⟩ rfl rfl hl.1 (Nat.le_of_ble_eq_true rfl) dX4_tell_116) hS (fun S_17 H locs h hP hS => ?_)
                  refine lv_goto (tgt := 129) hx hb dX4_tell_119 (by decide) ?_
                  exact s_rv C hP hS h dX4_tell_129
                · have h := h.2 c_16
                  have c_2_ := tIne c_2 (z := 0) (by decide)
                  have c_4_ := tIne c_4 (z := 1) (by decide)
                  have c_6_ := tIne c_6 (z := 2) (by decide)
                  have c_8_ := tIne c_8 (z := 3) (by decide)
                  have c_10_ := tIne c_10 (z := 4) (by decide)
                  have c_12_ := tIne c_12 (z := 5) (by decide)
                  have c_14_ := tIne c_14 (z := 6) (by decide)
                  have c_16_ := tIne c_16 (z := 7) (by decide)
                  refine lv_tableOut (tgt := 122) hx hb dX4_tell_1 (by omega) (by decide) ?_
                  refine lv_aload_n hx hb dX4_tell_122 rfl (lv_at hl 0 rfl) ?_
                  refine lv_aload_n hx hb dX4_tell_123 rfl (lv_at hl 2 rfl) ?_
                  refine lv_iconst (v := (nI 0)) hx hb dX4_tell_124 (by decide) ?_
                  refine s_aI g C hP 3 (by decide) rfl (vinL (by decide +kernel)) dX4_tell_125 ?_
                  refine go_v (run_V g C hP hS (c0 := 4) (As := [.int (S.1 3 (nI 0).toNatClampNeg)]) (rest := []) (c_X4_tellLost hi S (S.1 3 (nI 0).toNatClampNeg) _ h) cal_X4_tellLost kML_X4_59 (by decide) rfl cfX4 ⟨rfl, rfl, Nat.le_of_ble_eq_true rfl, Nat.le_of_ble_eq_true rfl⟩ rfl rfl hl.1 (Nat.le_of_ble_eq_true rfl) dX4_tell_126) hS (fun S_18 H locs h hP hS => ?_)
                  exact s_rv C hP hS h dX4_tell_129
def q_X4_windAt (w : Nat) (S : St) (a2 : Int32) (a3 : Int32) (k : Int32 → Prop) : Prop := ∀ x3_1 : Int32, x3_1 = (((a2 - (nI 1)) * (nI 12)) + a3) → ((x3_1 < (nI 0) → (k (nI 0))) ∧ (¬ x3_1 < (nI 0) → (((nI 36) ≤ x3_1 → (k (nI 0))) ∧ (¬ (nI 36) ≤ x3_1 → (vp_in x3_1 36 ∧ (k (S.1 w x3_1.toNatClampNeg)))))))
set_option maxRecDepth 100000 in
set_option maxHeartbeats 4000000 in
theorem c_X4_windAt {l : Launch} {Z : ZT} (hi : injZ 68 Z) (w : Nat) (hw : w < 68 ∧ shX w = .inr (0, 36, 0)) (S : St) (a2 : Int32) (a3 : Int32) (k : Int32 → Prop) (h : q_X4_windAt w S a2 a3 k) : Mi l shX 68 Z (gX Z) yX4_windAt cX4_windAt 4 (Option.some .int) (rmk 0 0) [.ref (Z.2.2.1 w), .int a2, .int a3] S (fun r S' => S' = S ∧ k r) := by
  have g := gokX hi
  refine e_i (by decide) (Nat.le_of_ble_eq_true rfl) (lv := [(0, .ref (Z.2.2.1 w)), (1, .int a2), (2, .int a3)]) rfl (fun p e s m args below meth c C hP hS ls hl => ?_)
  have hx := C.1.1
  have hb := C.1.2.1
  unfold q_X4_windAt at h
  refine lv_iload_n hx hb dX4_windAt_0 rfl (lv_at hl 1 rfl) ?_
  refine lv_iconst (v := (nI 1)) hx hb dX4_windAt_1 (by decide) ?_
  refine lv_isub hx hb dX4_windAt_2 ?_
  refine lv_bipush (v := (nI 12)) hx hb dX4_windAt_3 (by decide) ?_
  refine lv_imul hx hb dX4_windAt_5 ?_
  refine lv_iload_n hx hb dX4_windAt_6 rfl (lv_at hl 2 rfl) ?_
  refine lv_iadd hx hb dX4_windAt_7 ?_
  refine lv_topi (fun x3_1 ex3_1 => ?_)
  have h := h x3_1 ex3_1
  refine lv_istore_n (lv' := [(3, .int x3_1), (0, .ref (Z.2.2.1 w)), (1, .int a2), (2, .int a3)]) hx hb dX4_windAt_8 rfl hl (by decide) rfl (fun ls hl => ?_)
  refine lv_iload_n hx hb dX4_windAt_9 rfl (lv_at hl 0 rfl) ?_
  refine lv_if_lt (tgt := 25) hx hb dX4_windAt_10 (by decide) (fun c_2 => ?_) (fun c_2 => ?_)
  · have h := h.1 c_2
    refine lv_iconst (v := (nI 0)) hx hb dX4_windAt_25 (by decide) ?_
    exact s_ri C hP hS ⟨rfl, h⟩ dX4_windAt_26
  · have h := h.2 c_2
    refine lv_iload_n hx hb dX4_windAt_13 rfl (lv_at hl 0 rfl) ?_
    refine lv_aload_n hx hb dX4_windAt_14 rfl (lv_at hl 1 rfl) ?_
    refine s_len g C hP w hw.1 hw.2 (v := (nI 36)) (by decide) dX4_windAt_15 ?_
    refine lv_icmp_ge (tgt := 25) hx hb dX4_windAt_16 (by decide) (fun c_3 => ?_) (fun c_3 => ?_)
    · have h := h.1 c_3
      refine lv_iconst (v := (nI 0)) hx hb dX4_windAt_25 (by decide) ?_
      exact s_ri C hP hS ⟨rfl, h⟩ dX4_windAt_26
    · have h := h.2 c_3
      refine lv_aload_n hx hb dX4_windAt_19 rfl (lv_at hl 1 rfl) ?_
      refine lv_iload_n hx hb dX4_windAt_20 rfl (lv_at hl 0 rfl) ?_
      have hv_4 := h.1
      have h := h.2
      refine s_aI g C hP w hw.1 hw.2 hv_4 dX4_windAt_21 ?_
      refine lv_goto (tgt := 26) hx hb dX4_windAt_22 (by decide) ?_
      exact s_ri C hP hS ⟨rfl, h⟩ dX4_windAt_26
def q_X4_isToldKite (S : St) (a1 : Int32) (k : Int32 → Prop) : Prop := (a1 < (nI 0) → (k (nI 0))) ∧ (¬ a1 < (nI 0) → (((nI 6) ≤ a1 → (k (nI 0))) ∧ (¬ (nI 6) ≤ a1 → (vp_in a1 6 ∧ (((S.1 (9 + a1.toNatClampNeg) 0) = (nI 0) → (k (nI 0))) ∧ (¬ (S.1 (9 + a1.toNatClampNeg) 0) = (nI 0) → (k (nI 1))))))))
set_option maxRecDepth 100000 in
set_option maxHeartbeats 4000000 in
theorem c_X4_isToldKite {l : Launch} {Z : ZT} (hi : injZ 68 Z) (S : St) (a1 : Int32) (k : Int32 → Prop) (h : q_X4_isToldKite S a1 k) : Mi l shX 68 Z (gX Z) yX4_isToldKite cX4_isToldKite 2 (Option.some .boolean) (rmk 0 0) [.ref (Z.2.2.1 4), .int a1] S (fun r S' => S' = S ∧ (r = 0 ∨ r = 1) ∧ k r) := by
  have g := gokX hi
  refine e_i (by decide) (Nat.le_of_ble_eq_true rfl) (lv := [(0, .ref (Z.2.2.1 4)), (1, .int a1)]) rfl (fun p e s m args below meth c C hP hS ls hl => ?_)
  have hx := C.1.1
  have hb := C.1.2.1
  unfold q_X4_isToldKite at h
  refine lv_iload_n hx hb dX4_isToldKite_0 rfl (lv_at hl 1 rfl) ?_
  refine lv_if_lt (tgt := 26) hx hb dX4_isToldKite_1 (by decide) (fun c_1 => ?_) (fun c_1 => ?_)
  · have h := h.1 c_1
    refine lv_iconst (v := (nI 0)) hx hb dX4_isToldKite_26 (by decide) ?_
    exact s_rz C hP hS (nar_b (Or.inl rfl)) ⟨rfl, ⟨(Or.inl rfl), h⟩⟩ dX4_isToldKite_27
  · have h := h.2 c_1
    refine lv_iload_n hx hb dX4_isToldKite_4 rfl (lv_at hl 1 rfl) ?_
    refine lv_bipush (v := (nI 6)) hx hb dX4_isToldKite_5 (by decide) ?_
    refine lv_icmp_ge (tgt := 26) hx hb dX4_isToldKite_7 (by decide) (fun c_2 => ?_) (fun c_2 => ?_)
    · have h := h.1 c_2
      refine lv_iconst (v := (nI 0)) hx hb dX4_isToldKite_26 (by decide) ?_
      exact s_rz C hP hS (nar_b (Or.inl rfl)) ⟨rfl, ⟨(Or.inl rfl), h⟩⟩ dX4_isToldKite_27
    · have h := h.2 c_2
      refine lv_aload_n hx hb dX4_isToldKite_10 rfl (lv_at hl 0 rfl) ?_
      refine s_gR g C hP 4 0 5 (by decide) rfl rfl cfX4 (by decide) kFL_X4_11 dX4_isToldKite_11 ?_
      refine lv_iload_n hx hb dX4_isToldKite_14 rfl (lv_at hl 1 rfl) ?_
      have hv_3 := h.1
      have h := h.2
      refine s_aR g C hP 5 (t := 0) (by decide) rfl rfl hv_3 dX4_isToldKite_15 ?_
      refine s_gI g C hP (9 + a1.toNatClampNeg) 0 (ltX_kite (vin_lt hv_3)) (shX_kite (vin_lt hv_3)) rfl cfX2 (by decide) kFL_X4_67 dX4_isToldKite_16 ?_
      refine lv_if_eq (tgt := 26) hx hb dX4_isToldKite_19 (by decide) (fun c_4 => ?_) (fun c_4 => ?_)
      · have h := h.1 c_4
        refine lv_iconst (v := (nI 0)) hx hb dX4_isToldKite_26 (by decide) ?_
        exact s_rz C hP hS (nar_b (Or.inl rfl)) ⟨rfl, ⟨(Or.inl rfl), h⟩⟩ dX4_isToldKite_27
      · have h := h.2 c_4
        refine lv_iconst (v := (nI 1)) hx hb dX4_isToldKite_22 (by decide) ?_
        refine lv_goto (tgt := 27) hx hb dX4_isToldKite_23 (by decide) ?_
        exact s_rz C hP hS (nar_b (Or.inr rfl)) ⟨rfl, ⟨(Or.inr rfl), h⟩⟩ dX4_isToldKite_27
def q_X4_isToldShoal (S : St) (a1 : Int32) (k : Int32 → Prop) : Prop := (a1 < (nI 0) → (k (nI 0))) ∧ (¬ a1 < (nI 0) → (((nI 4) ≤ a1 → (k (nI 0))) ∧ (¬ (nI 4) ≤ a1 → (vp_in a1 4 ∧ (((S.1 (15 + a1.toNatClampNeg) 0) = (nI 0) → (k (nI 0))) ∧ (¬ (S.1 (15 + a1.toNatClampNeg) 0) = (nI 0) → (k (nI 1))))))))
set_option maxRecDepth 100000 in
set_option maxHeartbeats 4000000 in
theorem c_X4_isToldShoal {l : Launch} {Z : ZT} (hi : injZ 68 Z) (S : St) (a1 : Int32) (k : Int32 → Prop) (h : q_X4_isToldShoal S a1 k) : Mi l shX 68 Z (gX Z) yX4_isToldShoal cX4_isToldShoal 2 (Option.some .boolean) (rmk 0 0) [.ref (Z.2.2.1 4), .int a1] S (fun r S' => S' = S ∧ (r = 0 ∨ r = 1) ∧ k r) := by
  have g := gokX hi
  refine e_i (by decide) (Nat.le_of_ble_eq_true rfl) (lv := [(0, .ref (Z.2.2.1 4)), (1, .int a1)]) rfl (fun p e s m args below meth c C hP hS ls hl => ?_)
  have hx := C.1.1
  have hb := C.1.2.1
  unfold q_X4_isToldShoal at h
  refine lv_iload_n hx hb dX4_isToldShoal_0 rfl (lv_at hl 1 rfl) ?_
  refine lv_if_lt (tgt := 25) hx hb dX4_isToldShoal_1 (by decide) (fun c_1 => ?_) (fun c_1 => ?_)
  · have h := h.1 c_1
    refine lv_iconst (v := (nI 0)) hx hb dX4_isToldShoal_25 (by decide) ?_
    exact s_rz C hP hS (nar_b (Or.inl rfl)) ⟨rfl, ⟨(Or.inl rfl), h⟩⟩ dX4_isToldShoal_26
  · have h := h.2 c_1
    refine lv_iload_n hx hb dX4_isToldShoal_4 rfl (lv_at hl 1 rfl) ?_
    refine lv_iconst (v := (nI 4)) hx hb dX4_isToldShoal_5 (by decide) ?_
    refine lv_icmp_ge (tgt := 25) hx hb dX4_isToldShoal_6 (by decide) (fun c_2 => ?_) (fun c_2 => ?_)
    · have h := h.1 c_2
      refine lv_iconst (v := (nI 0)) hx hb dX4_isToldShoal_25 (by decide) ?_
      exact s_rz C hP hS (nar_b (Or.inl rfl)) ⟨rfl, ⟨(Or.inl rfl), h⟩⟩ dX4_isToldShoal_26
    · have h := h.2 c_2
      refine lv_aload_n hx hb dX4_isToldShoal_9 rfl (lv_at hl 0 rfl) ?_
      refine s_gR g C hP 4 1 6 (by decide) rfl rfl cfX4 (by decide) kFL_X4_19 dX4_isToldShoal_10 ?_
      refine lv_iload_n hx hb dX4_isToldShoal_13 rfl (lv_at hl 1 rfl) ?_
      have hv_3 := h.1
      have h := h.2
      refine s_aR g C hP 6 (t := 1) (by decide) rfl rfl hv_3 dX4_isToldShoal_14 ?_
      refine s_gI g C hP (15 + a1.toNatClampNeg) 0 (ltX_shoal (vin_lt hv_3)) (shX_shoal (vin_lt hv_3)) rfl cfX6 (by decide) kFL_X4_86 dX4_isToldShoal_15 ?_
      refine lv_if_eq (tgt := 25) hx hb dX4_isToldShoal_18 (by decide) (fun c_4 => ?_) (fun c_4 => ?_)
      · have h := h.1 c_4
        refine lv_iconst (v := (nI 0)) hx hb dX4_isToldShoal_25 (by decide) ?_
        exact s_rz C hP hS (nar_b (Or.inl rfl)) ⟨rfl, ⟨(Or.inl rfl), h⟩⟩ dX4_isToldShoal_26
      · have h := h.2 c_4
        refine lv_iconst (v := (nI 1)) hx hb dX4_isToldShoal_21 (by decide) ?_
        refine lv_goto (tgt := 26) hx hb dX4_isToldShoal_22 (by decide) ?_
        exact s_rz C hP hS (nar_b (Or.inr rfl)) ⟨rfl, ⟨(Or.inr rfl), h⟩⟩ dX4_isToldShoal_26
def q_X8_isIn (S : St) (a1 : Int32) (a2 : Int32) (k : Int32 → Prop) : Prop := (((a1 >>> (a2 &&& 31)) &&& (nI 1)) = (nI 1) → (k (nI 1))) ∧ (¬ ((a1 >>> (a2 &&& 31)) &&& (nI 1)) = (nI 1) → (k (nI 0)))
set_option maxRecDepth 100000 in
set_option maxHeartbeats 4000000 in
theorem c_X8_isIn {l : Launch} {Z : ZT} (hi : injZ 68 Z) (S : St) (a1 : Int32) (a2 : Int32) (k : Int32 → Prop) (h : q_X8_isIn S a1 a2 k) : Mi l shX 68 Z (gX Z) yX8_isIn cX8_isIn 2 (Option.some .boolean) (rmk 0 0) [.int a1, .int a2] S (fun r S' => S' = S ∧ (r = 0 ∨ r = 1) ∧ k r) := by
  have g := gokX hi
  refine e_i (by decide) (Nat.le_of_ble_eq_true rfl) (lv := [(0, .int a1), (1, .int a2)]) rfl (fun p e s m args below meth c C hP hS ls hl => ?_)
  have hx := C.1.1
  have hb := C.1.2.1
  unfold q_X8_isIn at h
  refine lv_iload_n hx hb dX8_isIn_0 rfl (lv_at hl 0 rfl) ?_
  refine lv_iload_n hx hb dX8_isIn_1 rfl (lv_at hl 1 rfl) ?_
  refine lv_ishr hx hb dX8_isIn_2 ?_
  refine lv_iconst (v := (nI 1)) hx hb dX8_isIn_3 (by decide) ?_
  refine lv_iand hx hb dX8_isIn_4 ?_
  refine lv_iconst (v := (nI 1)) hx hb dX8_isIn_5 (by decide) ?_
  refine lv_icmp_ne (tgt := 13) hx hb dX8_isIn_6 (by decide) (fun c_1 => ?_) (fun c_1 => ?_)
  · have h := h.2 c_1
    refine lv_iconst (v := (nI 0)) hx hb dX8_isIn_13 (by decide) ?_
    exact s_rz C hP hS (nar_b (Or.inl rfl)) ⟨rfl, ⟨(Or.inl rfl), h⟩⟩ dX8_isIn_14
  · have h := h.1 c_1
    refine lv_iconst (v := (nI 1)) hx hb dX8_isIn_9 (by decide) ?_
    refine lv_goto (tgt := 14) hx hb dX8_isIn_10 (by decide) ?_
    exact s_rz C hP hS (nar_b (Or.inr rfl)) ⟨rfl, ⟨(Or.inr rfl), h⟩⟩ dX8_isIn_14
def q_X4_isFoggy (S : St) (a1 : Int32) (k : Int32 → Prop) : Prop := q_X8_isIn S (S.1 4 6) a1 (fun r_1 => (k r_1))
set_option maxRecDepth 100000 in
set_option maxHeartbeats 4000000 in
theorem c_X4_isFoggy {l : Launch} {Z : ZT} (hi : injZ 68 Z) (S : St) (a1 : Int32) (k : Int32 → Prop) (h : q_X4_isFoggy S a1 k) : Mi l shX 68 Z (gX Z) yX4_isFoggy cX4_isFoggy 2 (Option.some .boolean) (rmk 1 21) [.ref (Z.2.2.1 4), .int a1] S (fun r S' => S' = S ∧ (r = 0 ∨ r = 1) ∧ k r) := by
  have g := gokX hi
  refine e_i (by decide) (Nat.le_of_ble_eq_true rfl) (lv := [(0, .ref (Z.2.2.1 4)), (1, .int a1)]) rfl (fun p e s m args below meth c C hP hS ls hl => ?_)
  have hx := C.1.1
  have hb := C.1.2.1
  unfold q_X4_isFoggy at h
  refine lv_aload_n hx hb dX4_isFoggy_0 rfl (lv_at hl 0 rfl) ?_
  refine s_gI g C hP 4 6 (by decide) rfl rfl cfX4 (by decide) kFL_X4_102 dX4_isFoggy_1 ?_
  refine lv_iload_n hx hb dX4_isFoggy_4 rfl (lv_at hl 1 rfl) ?_
  refine go_ip (run_SN g C hP hS (As := [.int (S.1 4 6), .int a1]) (rest := []) (c_X8_isIn hi S (S.1 4 6) a1 _ h) cal_X8_isIn (nstX C.2.2.2 11 rfl) ⟨rfl, rfl, Nat.le_of_ble_eq_true rfl, Nat.le_of_ble_eq_true rfl⟩ rfl rfl hl.1 (Nat.le_of_ble_eq_true rfl) dX4_isFoggy_5) hS (fun r_1 H locs h hP hS => ?_)
  obtain ⟨hbr_1, h⟩ := h
  exact s_rz C hP hS (nar_b hbr_1) ⟨rfl, ⟨hbr_1, h⟩⟩ dX4_isFoggy_8
def q_X4_kiteBits_30 (S : St) (k : Int32 → Prop) (e_4 : Int32 → Int32 → Prop) (x2 : Int32) (t0 : Int32) (t1 : Int32) : Prop := ∀ x1_1 : Int32, x1_1 = (t1 ||| t0) → (∀ x2_2 : Int32, x2_2 = x2 + (nI 1) → (e_4 x1_1 x2_2))
set_option maxRecDepth 100000 in
set_option maxHeartbeats 4000000 in
theorem b_X4_kiteBits_30 {p : Program} {l : Launch} {e : Env} {s : State} {m : MethodId} {args : Array Value} {below : List Frame} {meth : Method} {c : Code} {Z : ZT} (hi : injZ 68 Z) (C : Cxt (gX Z) p s m meth c args yX4_kiteBits cX4_kiteBits 3 (Option.some .int)) {S : St} {k : Int32 → Prop} {e_4 : Int32 → Int32 → Prop}  (he_4 : ∀ (x1 : Int32) (x2 : Int32) (H : Heap) (locs : List Loc) (ls : Array Slot), va_P Z.1 vwCl (wl shX 68 Z S) H → va_S (aa 68 Z) s.heap H locs → lv_has ls 3 [(0, .ref (Z.2.2.1 4)), (1, .int x1), (2, .int x2)] → e_4 x1 x2 → W p l e (rmk 0 0) s m args below meth c H locs 0 0 (Qi below shX 68 Z args s (fun r S' => S' = S ∧ k r)) (F0 m 4 ls [])) (x2 : Int32) (t0 : Int32) (t1 : Int32) (H : Heap) (locs : List Loc) (ls : Array Slot) (hP : va_P Z.1 vwCl (wl shX 68 Z S) H) (hS : va_S (aa 68 Z) s.heap H locs) (hl : lv_has ls 3 [(0, .ref (Z.2.2.1 4)), (2, .int x2)]) (h : q_X4_kiteBits_30 S k e_4 x2 t0 t1) : W p l e (rmk 0 0) s m args below meth c H locs 0 0 (Qi below shX 68 Z args s (fun r S' => S' = S ∧ k r)) (F0 m 30 ls [.int t0, .int t1]) := by
  have g := gokX hi
  have hx := C.1.1
  have hb := C.1.2.1
  unfold q_X4_kiteBits_30 at h
  refine lv_ior hx hb dX4_kiteBits_30 ?_
  refine lv_topi (fun x1_1 ex1_1 => ?_)
  have h := h x1_1 ex1_1
  refine lv_istore_n (lv' := [(1, .int x1_1), (0, .ref (Z.2.2.1 4)), (2, .int x2)]) hx hb dX4_kiteBits_31 rfl hl (by decide) rfl (fun ls hl => ?_)
  obtain ⟨x2_2, ex2_2⟩ : ∃ y_ : Int32, y_ = x2 + (nI 1) := ⟨_, rfl⟩
  have h := h x2_2 ex2_2
  refine lv_iinc (v := x2_2) (lv' := [(2, .int x2_2), (1, .int x1_1), (0, .ref (Z.2.2.1 4))]) hx hb dX4_kiteBits_32 hl (k := 2) rfl (by rw [ex2_2]; rfl) (by decide) rfl (fun ls hl => ?_)
  refine lv_goto (tgt := 4) hx hb dX4_kiteBits_35 (by decide) ?_
  exact he_4 _ _ _ _ _ hP hS (lv_sub hl [2, 1, 0] rfl) h
def q_X4_kiteBits_4 (S : St) (k : Int32 → Prop) : Nat → Int32 → Int32 → Prop := fun n_ => Nat.rec (motive := fun _ => Int32 → Int32 → Prop) (fun _ _ => False) (fun _ ih => fun x1 x2 => ((nI 6) ≤ x2 → (k x1)) ∧ (¬ (nI 6) ≤ x2 → (vp_in x2 6 ∧ (((S.1 (9 + x2.toNatClampNeg) 0) = (nI 0) → (q_X4_kiteBits_30 S k ih x2 (nI 0) x1)) ∧ (¬ (S.1 (9 + x2.toNatClampNeg) 0) = (nI 0) → (q_X4_kiteBits_30 S k ih x2 ((nI 1) <<< (x2 &&& 31)) x1)))))) n_
theorem q_X4_kiteBits_4_s (S : St) (k : Int32 → Prop) (n_ : Nat) (x1 : Int32) (x2 : Int32) : q_X4_kiteBits_4 S k (n_ + 1) x1 x2 = (((nI 6) ≤ x2 → (k x1)) ∧ (¬ (nI 6) ≤ x2 → (vp_in x2 6 ∧ (((S.1 (9 + x2.toNatClampNeg) 0) = (nI 0) → (q_X4_kiteBits_30 S k (q_X4_kiteBits_4 S k n_) x2 (nI 0) x1)) ∧ (¬ (S.1 (9 + x2.toNatClampNeg) 0) = (nI 0) → (q_X4_kiteBits_30 S k (q_X4_kiteBits_4 S k n_) x2 ((nI 1) <<< (x2 &&& 31)) x1)))))) := rfl
set_option maxRecDepth 100000 in
set_option maxHeartbeats 4000000 in
theorem b_X4_kiteBits_4 {p : Program} {l : Launch} {e : Env} {s : State} {m : MethodId} {args : Array Value} {below : List Frame} {meth : Method} {c : Code} {Z : ZT} (hi : injZ 68 Z) (C : Cxt (gX Z) p s m meth c args yX4_kiteBits cX4_kiteBits 3 (Option.some .int)) {S : St} {k : Int32 → Prop}   : ∀ (n_ : Nat) (x1 : Int32) (x2 : Int32) (H : Heap) (locs : List Loc) (ls : Array Slot), va_P Z.1 vwCl (wl shX 68 Z S) H → va_S (aa 68 Z) s.heap H locs → lv_has ls 3 [(0, .ref (Z.2.2.1 4)), (1, .int x1), (2, .int x2)] → q_X4_kiteBits_4 S k n_ x1 x2 → W p l e (rmk 0 0) s m args below meth c H locs 0 0 (Qi below shX 68 Z args s (fun r S' => S' = S ∧ k r)) (F0 m 4 ls []) := by
  have g := gokX hi
  have hx := C.1.1
  have hb := C.1.2.1
  intro n_
  induction n_ with
  | zero => intro x1 x2 H locs ls hP hS hl h; exact h.elim
  | succ n_ ih =>
    intro x1 x2 H locs ls hP hS hl h
    rw [q_X4_kiteBits_4_s] at h
    refine lv_iload_n hx hb dX4_kiteBits_4 rfl (lv_at hl 2 rfl) ?_
    refine lv_bipush (v := (nI 6)) hx hb dX4_kiteBits_5 (by decide) ?_
    refine lv_icmp_ge (tgt := 38) hx hb dX4_kiteBits_7 (by decide) (fun c_1 => ?_) (fun c_1 => ?_)
    · have h := h.1 c_1
      refine lv_iload_n hx hb dX4_kiteBits_38 rfl (lv_at hl 1 rfl) ?_
      exact s_ri C hP hS ⟨rfl, h⟩ dX4_kiteBits_39
    · have h := h.2 c_1
      refine lv_iload_n hx hb dX4_kiteBits_10 rfl (lv_at hl 1 rfl) ?_
      refine lv_aload_n hx hb dX4_kiteBits_11 rfl (lv_at hl 0 rfl) ?_
      refine s_gR g C hP 4 0 5 (by decide) rfl rfl cfX4 (by decide) kFL_X4_11 dX4_kiteBits_12 ?_
      refine lv_iload_n hx hb dX4_kiteBits_15 rfl (lv_at hl 2 rfl) ?_
      have hv_2 := h.1
      have h := h.2
      refine s_aR g C hP 5 (t := 0) (by decide) rfl rfl hv_2 dX4_kiteBits_16 ?_
      refine s_gI g C hP (9 + x2.toNatClampNeg) 0 (ltX_kite (vin_lt hv_2)) (shX_kite (vin_lt hv_2)) rfl cfX2 (by decide) kFL_X4_67 dX4_kiteBits_17 ?_
      refine lv_if_eq (tgt := 29) hx hb dX4_kiteBits_20 (by decide) (fun c_3 => ?_) (fun c_3 => ?_)
      · have h := h.1 c_3
        refine lv_iconst (v := (nI 0)) hx hb dX4_kiteBits_29 (by decide) ?_
        exact b_X4_kiteBits_30 hi C ih _ _ _ _ _ _ hP hS (lv_sub hl [0, 2] rfl) h
      · have h := h.2 c_3
        refine lv_iconst (v := (nI 1)) hx hb dX4_kiteBits_23 (by decide) ?_
        refine lv_iload_n hx hb dX4_kiteBits_24 rfl (lv_at hl 2 rfl) ?_
        refine lv_ishl hx hb dX4_kiteBits_25 ?_
        refine lv_goto (tgt := 30) hx hb dX4_kiteBits_26 (by decide) ?_
        exact b_X4_kiteBits_30 hi C ih _ _ _ _ _ _ hP hS (lv_sub hl [0, 2] rfl) h
def q_X4_kiteBits (S : St) (k : Int32 → Prop) : Prop := ∃ f_4, q_X4_kiteBits_4 S k f_4 (nI 0) (nI 0)
set_option maxRecDepth 100000 in
set_option maxHeartbeats 4000000 in
theorem c_X4_kiteBits {l : Launch} {Z : ZT} (hi : injZ 68 Z) (S : St) (k : Int32 → Prop) (h : q_X4_kiteBits S k) : Mi l shX 68 Z (gX Z) yX4_kiteBits cX4_kiteBits 3 (Option.some .int) (rmk 0 0) [.ref (Z.2.2.1 4)] S (fun r S' => S' = S ∧ k r) := by
  have g := gokX hi
  refine e_i (by decide) (Nat.le_of_ble_eq_true rfl) (lv := [(0, .ref (Z.2.2.1 4))]) rfl (fun p e s m args below meth c C hP hS ls hl => ?_)
  have hx := C.1.1
  have hb := C.1.2.1
  unfold q_X4_kiteBits at h
  refine lv_iconst (v := (nI 0)) hx hb dX4_kiteBits_0 (by decide) ?_
  refine lv_istore_n (lv' := [(1, .int (nI 0)), (0, .ref (Z.2.2.1 4))]) hx hb dX4_kiteBits_1 rfl hl (by decide) rfl (fun ls hl => ?_)
  refine lv_iconst (v := (nI 0)) hx hb dX4_kiteBits_2 (by decide) ?_
  refine lv_istore_n (lv' := [(2, .int (nI 0)), (1, .int (nI 0)), (0, .ref (Z.2.2.1 4))]) hx hb dX4_kiteBits_3 rfl hl (by decide) rfl (fun ls hl => ?_)
  obtain ⟨f_4, h⟩ := h
  exact b_X4_kiteBits_4 hi C  f_4 _ _ _ _ _ hP hS (lv_sub hl [2, 1, 0] rfl) h
def q_X4_shoalBits_29 (S : St) (k : Int32 → Prop) (e_4 : Int32 → Int32 → Prop) (x2 : Int32) (t0 : Int32) (t1 : Int32) : Prop := ∀ x1_1 : Int32, x1_1 = (t1 ||| t0) → (∀ x2_2 : Int32, x2_2 = x2 + (nI 1) → (e_4 x1_1 x2_2))
set_option maxRecDepth 100000 in
set_option maxHeartbeats 4000000 in
theorem b_X4_shoalBits_29 {p : Program} {l : Launch} {e : Env} {s : State} {m : MethodId} {args : Array Value} {below : List Frame} {meth : Method} {c : Code} {Z : ZT} (hi : injZ 68 Z) (C : Cxt (gX Z) p s m meth c args yX4_shoalBits cX4_shoalBits 3 (Option.some .int)) {S : St} {k : Int32 → Prop} {e_4 : Int32 → Int32 → Prop}  (he_4 : ∀ (x1 : Int32) (x2 : Int32) (H : Heap) (locs : List Loc) (ls : Array Slot), va_P Z.1 vwCl (wl shX 68 Z S) H → va_S (aa 68 Z) s.heap H locs → lv_has ls 3 [(0, .ref (Z.2.2.1 4)), (1, .int x1), (2, .int x2)] → e_4 x1 x2 → W p l e (rmk 0 0) s m args below meth c H locs 0 0 (Qi below shX 68 Z args s (fun r S' => S' = S ∧ k r)) (F0 m 4 ls [])) (x2 : Int32) (t0 : Int32) (t1 : Int32) (H : Heap) (locs : List Loc) (ls : Array Slot) (hP : va_P Z.1 vwCl (wl shX 68 Z S) H) (hS : va_S (aa 68 Z) s.heap H locs) (hl : lv_has ls 3 [(0, .ref (Z.2.2.1 4)), (2, .int x2)]) (h : q_X4_shoalBits_29 S k e_4 x2 t0 t1) : W p l e (rmk 0 0) s m args below meth c H locs 0 0 (Qi below shX 68 Z args s (fun r S' => S' = S ∧ k r)) (F0 m 29 ls [.int t0, .int t1]) := by
  have g := gokX hi
  have hx := C.1.1
  have hb := C.1.2.1
  unfold q_X4_shoalBits_29 at h
  refine lv_ior hx hb dX4_shoalBits_29 ?_
  refine lv_topi (fun x1_1 ex1_1 => ?_)
  have h := h x1_1 ex1_1
  refine lv_istore_n (lv' := [(1, .int x1_1), (0, .ref (Z.2.2.1 4)), (2, .int x2)]) hx hb dX4_shoalBits_30 rfl hl (by decide) rfl (fun ls hl => ?_)
  obtain ⟨x2_2, ex2_2⟩ : ∃ y_ : Int32, y_ = x2 + (nI 1) := ⟨_, rfl⟩
  have h := h x2_2 ex2_2
  refine lv_iinc (v := x2_2) (lv' := [(2, .int x2_2), (1, .int x1_1), (0, .ref (Z.2.2.1 4))]) hx hb dX4_shoalBits_31 hl (k := 2) rfl (by rw [ex2_2]; rfl) (by decide) rfl (fun ls hl => ?_)
  refine lv_goto (tgt := 4) hx hb dX4_shoalBits_34 (by decide) ?_
  exact he_4 _ _ _ _ _ hP hS (lv_sub hl [2, 1, 0] rfl) h
def q_X4_shoalBits_4 (S : St) (k : Int32 → Prop) : Nat → Int32 → Int32 → Prop := fun n_ => Nat.rec (motive := fun _ => Int32 → Int32 → Prop) (fun _ _ => False) (fun _ ih => fun x1 x2 => ((nI 4) ≤ x2 → (k x1)) ∧ (¬ (nI 4) ≤ x2 → (vp_in x2 4 ∧ (((S.1 (15 + x2.toNatClampNeg) 0) = (nI 0) → (q_X4_shoalBits_29 S k ih x2 (nI 0) x1)) ∧ (¬ (S.1 (15 + x2.toNatClampNeg) 0) = (nI 0) → (q_X4_shoalBits_29 S k ih x2 ((nI 1) <<< (x2 &&& 31)) x1)))))) n_
theorem q_X4_shoalBits_4_s (S : St) (k : Int32 → Prop) (n_ : Nat) (x1 : Int32) (x2 : Int32) : q_X4_shoalBits_4 S k (n_ + 1) x1 x2 = (((nI 4) ≤ x2 → (k x1)) ∧ (¬ (nI 4) ≤ x2 → (vp_in x2 4 ∧ (((S.1 (15 + x2.toNatClampNeg) 0) = (nI 0) → (q_X4_shoalBits_29 S k (q_X4_shoalBits_4 S k n_) x2 (nI 0) x1)) ∧ (¬ (S.1 (15 + x2.toNatClampNeg) 0) = (nI 0) → (q_X4_shoalBits_29 S k (q_X4_shoalBits_4 S k n_) x2 ((nI 1) <<< (x2 &&& 31)) x1)))))) := rfl
set_option maxRecDepth 100000 in
set_option maxHeartbeats 4000000 in
theorem b_X4_shoalBits_4 {p : Program} {l : Launch} {e : Env} {s : State} {m : MethodId} {args : Array Value} {below : List Frame} {meth : Method} {c : Code} {Z : ZT} (hi : injZ 68 Z) (C : Cxt (gX Z) p s m meth c args yX4_shoalBits cX4_shoalBits 3 (Option.some .int)) {S : St} {k : Int32 → Prop}   : ∀ (n_ : Nat) (x1 : Int32) (x2 : Int32) (H : Heap) (locs : List Loc) (ls : Array Slot), va_P Z.1 vwCl (wl shX 68 Z S) H → va_S (aa 68 Z) s.heap H locs → lv_has ls 3 [(0, .ref (Z.2.2.1 4)), (1, .int x1), (2, .int x2)] → q_X4_shoalBits_4 S k n_ x1 x2 → W p l e (rmk 0 0) s m args below meth c H locs 0 0 (Qi below shX 68 Z args s (fun r S' => S' = S ∧ k r)) (F0 m 4 ls []) := by
  have g := gokX hi
  have hx := C.1.1
  have hb := C.1.2.1
  intro n_
  induction n_ with
  | zero => intro x1 x2 H locs ls hP hS hl h; exact h.elim
  | succ n_ ih =>
    intro x1 x2 H locs ls hP hS hl h
    rw [q_X4_shoalBits_4_s] at h
    refine lv_iload_n hx hb dX4_shoalBits_4 rfl (lv_at hl 2 rfl) ?_
    refine lv_iconst (v := (nI 4)) hx hb dX4_shoalBits_5 (by decide) ?_
    refine lv_icmp_ge (tgt := 37) hx hb dX4_shoalBits_6 (by decide) (fun c_1 => ?_) (fun c_1 => ?_)
    · have h := h.1 c_1
      refine lv_iload_n hx hb dX4_shoalBits_37 rfl (lv_at hl 1 rfl) ?_
      exact s_ri C hP hS ⟨rfl, h⟩ dX4_shoalBits_38
    · have h := h.2 c_1
      refine lv_iload_n hx hb dX4_shoalBits_9 rfl (lv_at hl 1 rfl) ?_
      refine lv_aload_n hx hb dX4_shoalBits_10 rfl (lv_at hl 0 rfl) ?_
      refine s_gR g C hP 4 1 6 (by decide) rfl rfl cfX4 (by decide) kFL_X4_19 dX4_shoalBits_11 ?_
      refine lv_iload_n hx hb dX4_shoalBits_14 rfl (lv_at hl 2 rfl) ?_
      have hv_2 := h.1
      have h := h.2
      refine s_aR g C hP 6 (t := 1) (by decide) rfl rfl hv_2 dX4_shoalBits_15 ?_
      refine s_gI g C hP (15 + x2.toNatClampNeg) 0 (ltX_shoal (vin_lt hv_2)) (shX_shoal (vin_lt hv_2)) rfl cfX6 (by decide) kFL_X4_86 dX4_shoalBits_16 ?_
      refine lv_if_eq (tgt := 28) hx hb dX4_shoalBits_19 (by decide) (fun c_3 => ?_) (fun c_3 => ?_)
      · have h := h.1 c_3
        refine lv_iconst (v := (nI 0)) hx hb dX4_shoalBits_28 (by decide) ?_
        exact b_X4_shoalBits_29 hi C ih _ _ _ _ _ _ hP hS (lv_sub hl [0, 2] rfl) h
      · have h := h.2 c_3
        refine lv_iconst (v := (nI 1)) hx hb dX4_shoalBits_22 (by decide) ?_
        refine lv_iload_n hx hb dX4_shoalBits_23 rfl (lv_at hl 2 rfl) ?_
        refine lv_ishl hx hb dX4_shoalBits_24 ?_
        refine lv_goto (tgt := 29) hx hb dX4_shoalBits_25 (by decide) ?_
        exact b_X4_shoalBits_29 hi C ih _ _ _ _ _ _ hP hS (lv_sub hl [0, 2] rfl) h
def q_X4_shoalBits (S : St) (k : Int32 → Prop) : Prop := ∃ f_4, q_X4_shoalBits_4 S k f_4 (nI 0) (nI 0)
set_option maxRecDepth 100000 in
set_option maxHeartbeats 4000000 in
theorem c_X4_shoalBits {l : Launch} {Z : ZT} (hi : injZ 68 Z) (S : St) (k : Int32 → Prop) (h : q_X4_shoalBits S k) : Mi l shX 68 Z (gX Z) yX4_shoalBits cX4_shoalBits 3 (Option.some .int) (rmk 0 0) [.ref (Z.2.2.1 4)] S (fun r S' => S' = S ∧ k r) := by
  have g := gokX hi
  refine e_i (by decide) (Nat.le_of_ble_eq_true rfl) (lv := [(0, .ref (Z.2.2.1 4))]) rfl (fun p e s m args below meth c C hP hS ls hl => ?_)
  have hx := C.1.1
  have hb := C.1.2.1
  unfold q_X4_shoalBits at h
  refine lv_iconst (v := (nI 0)) hx hb dX4_shoalBits_0 (by decide) ?_
  refine lv_istore_n (lv' := [(1, .int (nI 0)), (0, .ref (Z.2.2.1 4))]) hx hb dX4_shoalBits_1 rfl hl (by decide) rfl (fun ls hl => ?_)
  refine lv_iconst (v := (nI 0)) hx hb dX4_shoalBits_2 (by decide) ?_
  refine lv_istore_n (lv' := [(2, .int (nI 0)), (1, .int (nI 0)), (0, .ref (Z.2.2.1 4))]) hx hb dX4_shoalBits_3 rfl hl (by decide) rfl (fun ls hl => ?_)
  obtain ⟨f_4, h⟩ := h
  exact b_X4_shoalBits_4 hi C  f_4 _ _ _ _ _ hP hS (lv_sub hl [2, 1, 0] rfl) h
def q_X4_shoalX (S : St) (a1 : Int32) (a2 : Int32) (k : Int32 → Prop) : Prop := q_X4_isToldShoal S a1 (fun r_1 => ((r_1 = (nI 0) → (k (-1 : Int32))) ∧ (¬ r_1 = (nI 0) → (vp_in a1 4 ∧ (vp_in a1 4 ∧ (k ((S.1 (15 + a1.toNatClampNeg) 1) + (a2 * (S.1 (15 + a1.toNatClampNeg) 3)))))))))
set_option maxRecDepth 100000 in
set_option maxHeartbeats 4000000 in
theorem c_X4_shoalX {l : Launch} {Z : ZT} (hi : injZ 68 Z) (S : St) (a1 : Int32) (a2 : Int32) (k : Int32 → Prop) (h : q_X4_shoalX S a1 a2 k) : Mi l shX 68 Z (gX Z) yX4_shoalX cX4_shoalX 3 (Option.some .int) (rmk 1 21) [.ref (Z.2.2.1 4), .int a1, .int a2] S (fun r S' => S' = S ∧ k r) := by
  have g := gokX hi
  refine e_i (by decide) (Nat.le_of_ble_eq_true rfl) (lv := [(0, .ref (Z.2.2.1 4)), (1, .int a1), (2, .int a2)]) rfl (fun p e s m args below meth c C hP hS ls hl => ?_)
  have hx := C.1.1
  have hb := C.1.2.1
  unfold q_X4_shoalX at h
  refine lv_aload_n hx hb dX4_shoalX_0 rfl (lv_at hl 0 rfl) ?_
  refine lv_iload_n hx hb dX4_shoalX_1 rfl (lv_at hl 1 rfl) ?_
  refine go_ip (run_V g C hP hS (c0 := 4) (As := [.int a1]) (rest := []) (c_X4_isToldShoal hi S a1 _ h) cal_X4_isToldShoal kML_X4_115 (by decide) rfl cfX4 ⟨rfl, rfl, Nat.le_of_ble_eq_true rfl, Nat.le_of_ble_eq_true rfl⟩ rfl rfl hl.1 (Nat.le_of_ble_eq_true rfl) dX4_shoalX_2) hS (fun r_1 H locs h hP hS => ?_)
  obtain ⟨hbr_1, h⟩ := h
  refine lv_if_eq (tgt := 32) hx hb dX4_shoalX_5 (by decide) (fun c_2 => ?_) (fun c_2 => ?_)
  · have h := h.1 c_2
    refine lv_iconst (v := (-1 : Int32)) hx hb dX4_shoalX_32 (by decide) ?_
    exact s_ri C hP hS ⟨rfl, h⟩ dX4_shoalX_33
  · have h := h.2 c_2
    refine lv_aload_n hx hb dX4_shoalX_8 rfl (lv_at hl 0 rfl) ?_
    refine s_gR g C hP 4 1 6 (by decide) rfl rfl cfX4 (by decide) kFL_X4_19 dX4_shoalX_9 ?_
    refine lv_iload_n hx hb dX4_shoalX_12 rfl (lv_at hl 1 rfl) ?_
    have hv_3 := h.1
    have h := h.2
    refine s_aR g C hP 6 (t := 1) (by decide) rfl rfl hv_3 dX4_shoalX_13 ?_
    refine s_gI g C hP (15 + a1.toNatClampNeg) 1 (ltX_shoal (vin_lt hv_3)) (shX_shoal (vin_lt hv_3)) rfl cfX6 (by decide) kFL_X4_87 dX4_shoalX_14 ?_
    refine lv_iload_n hx hb dX4_shoalX_17 rfl (lv_at hl 2 rfl) ?_
    refine lv_aload_n hx hb dX4_shoalX_18 rfl (lv_at hl 0 rfl) ?_
    refine s_gR g C hP 4 1 6 (by decide) rfl rfl cfX4 (by decide) kFL_X4_19 dX4_shoalX_19 ?_
    refine lv_iload_n hx hb dX4_shoalX_22 rfl (lv_at hl 1 rfl) ?_
    have hv_4 := h.1
    have h := h.2
    refine s_aR g C hP 6 (t := 1) (by decide) rfl rfl hv_4 dX4_shoalX_23 ?_
    refine s_gI g C hP (15 + a1.toNatClampNeg) 3 (ltX_shoal (vin_lt hv_4)) (shX_shoal (vin_lt hv_4)) rfl cfX6 (by decide) kFL_X4_93 dX4_shoalX_24 ?_
    refine lv_imul hx hb dX4_shoalX_27 ?_
    refine lv_iadd hx hb dX4_shoalX_28 ?_
    refine lv_goto (tgt := 33) hx hb dX4_shoalX_29 (by decide) ?_
    exact s_ri C hP hS ⟨rfl, h⟩ dX4_shoalX_33
def q_X4_shoalY (S : St) (a1 : Int32) (a2 : Int32) (k : Int32 → Prop) : Prop := q_X4_isToldShoal S a1 (fun r_1 => ((r_1 = (nI 0) → (k (-1 : Int32))) ∧ (¬ r_1 = (nI 0) → (vp_in a1 4 ∧ (vp_in a1 4 ∧ (k ((S.1 (15 + a1.toNatClampNeg) 2) + (a2 * (S.1 (15 + a1.toNatClampNeg) 4)))))))))
set_option maxRecDepth 100000 in
set_option maxHeartbeats 4000000 in
theorem c_X4_shoalY {l : Launch} {Z : ZT} (hi : injZ 68 Z) (S : St) (a1 : Int32) (a2 : Int32) (k : Int32 → Prop) (h : q_X4_shoalY S a1 a2 k) : Mi l shX 68 Z (gX Z) yX4_shoalY cX4_shoalY 3 (Option.some .int) (rmk 1 21) [.ref (Z.2.2.1 4), .int a1, .int a2] S (fun r S' => S' = S ∧ k r) := by
  have g := gokX hi
  refine e_i (by decide) (Nat.le_of_ble_eq_true rfl) (lv := [(0, .ref (Z.2.2.1 4)), (1, .int a1), (2, .int a2)]) rfl (fun p e s m args below meth c C hP hS ls hl => ?_)
  have hx := C.1.1
  have hb := C.1.2.1
  unfold q_X4_shoalY at h
  refine lv_aload_n hx hb dX4_shoalY_0 rfl (lv_at hl 0 rfl) ?_
  refine lv_iload_n hx hb dX4_shoalY_1 rfl (lv_at hl 1 rfl) ?_
  refine go_ip (run_V g C hP hS (c0 := 4) (As := [.int a1]) (rest := []) (c_X4_isToldShoal hi S a1 _ h) cal_X4_isToldShoal kML_X4_115 (by decide) rfl cfX4 ⟨rfl, rfl, Nat.le_of_ble_eq_true rfl, Nat.le_of_ble_eq_true rfl⟩ rfl rfl hl.1 (Nat.le_of_ble_eq_true rfl) dX4_shoalY_2) hS (fun r_1 H locs h hP hS => ?_)
  obtain ⟨hbr_1, h⟩ := h
  refine lv_if_eq (tgt := 32) hx hb dX4_shoalY_5 (by decide) (fun c_2 => ?_) (fun c_2 => ?_)
  · have h := h.1 c_2
    refine lv_iconst (v := (-1 : Int32)) hx hb dX4_shoalY_32 (by decide) ?_
    exact s_ri C hP hS ⟨rfl, h⟩ dX4_shoalY_33
  · have h := h.2 c_2
    refine lv_aload_n hx hb dX4_shoalY_8 rfl (lv_at hl 0 rfl) ?_
    refine s_gR g C hP 4 1 6 (by decide) rfl rfl cfX4 (by decide) kFL_X4_19 dX4_shoalY_9 ?_
    refine lv_iload_n hx hb dX4_shoalY_12 rfl (lv_at hl 1 rfl) ?_
    have hv_3 := h.1
    have h := h.2
    refine s_aR g C hP 6 (t := 1) (by decide) rfl rfl hv_3 dX4_shoalY_13 ?_
    refine s_gI g C hP (15 + a1.toNatClampNeg) 2 (ltX_shoal (vin_lt hv_3)) (shX_shoal (vin_lt hv_3)) rfl cfX6 (by decide) kFL_X4_90 dX4_shoalY_14 ?_
    refine lv_iload_n hx hb dX4_shoalY_17 rfl (lv_at hl 2 rfl) ?_
    refine lv_aload_n hx hb dX4_shoalY_18 rfl (lv_at hl 0 rfl) ?_
    refine s_gR g C hP 4 1 6 (by decide) rfl rfl cfX4 (by decide) kFL_X4_19 dX4_shoalY_19 ?_
    refine lv_iload_n hx hb dX4_shoalY_22 rfl (lv_at hl 1 rfl) ?_
    have hv_4 := h.1
    have h := h.2
    refine s_aR g C hP 6 (t := 1) (by decide) rfl rfl hv_4 dX4_shoalY_23 ?_
    refine s_gI g C hP (15 + a1.toNatClampNeg) 4 (ltX_shoal (vin_lt hv_4)) (shX_shoal (vin_lt hv_4)) rfl cfX6 (by decide) kFL_X4_96 dX4_shoalY_24 ?_
    refine lv_imul hx hb dX4_shoalY_27 ?_
    refine lv_iadd hx hb dX4_shoalY_28 ?_
    refine lv_goto (tgt := 33) hx hb dX4_shoalY_29 (by decide) ?_
    exact s_ri C hP hS ⟨rfl, h⟩ dX4_shoalY_33
def q_X4_kiteX (S : St) (a1 : Int32) (a2 : Int32) (a3 : Int32) (k : Int32 → Prop) : Prop := q_X4_isToldKite S a1 (fun r_1 => ((r_1 = (nI 0) → (k (-1 : Int32))) ∧ (¬ r_1 = (nI 0) → (vp_in a1 6 ∧ (q_X4_windAt 8 S a2 a3 (fun r_4 => (vp_in a1 6 ∧ (k ((S.1 (9 + a1.toNatClampNeg) 1) + ((r_4 * (S.1 (9 + a1.toNatClampNeg) 3)) / (nI 3)))))))))))
set_option maxRecDepth 100000 in
set_option maxHeartbeats 4000000 in
theorem c_X4_kiteX {l : Launch} {Z : ZT} (hi : injZ 68 Z) (S : St) (a1 : Int32) (a2 : Int32) (a3 : Int32) (k : Int32 → Prop) (h : q_X4_kiteX S a1 a2 a3 k) : Mi l shX 68 Z (gX Z) yX4_kiteX cX4_kiteX 4 (Option.some .int) (rmk 1 23) [.ref (Z.2.2.1 4), .int a1, .int a2, .int a3] S (fun r S' => S' = S ∧ k r) := by
  have g := gokX hi
  refine e_i (by decide) (Nat.le_of_ble_eq_true rfl) (lv := [(0, .ref (Z.2.2.1 4)), (1, .int a1), (2, .int a2), (3, .int a3)]) rfl (fun p e s m args below meth c C hP hS ls hl => ?_)
  have hx := C.1.1
  have hb := C.1.2.1
  unfold q_X4_kiteX at h
  refine lv_aload_n hx hb dX4_kiteX_0 rfl (lv_at hl 0 rfl) ?_
  refine lv_iload_n hx hb dX4_kiteX_1 rfl (lv_at hl 1 rfl) ?_
  refine go_ip (run_V g C hP hS (c0 := 4) (As := [.int a1]) (rest := []) (c_X4_isToldKite hi S a1 _ h) cal_X4_isToldKite kML_X4_118 (by decide) rfl cfX4 ⟨rfl, rfl, Nat.le_of_ble_eq_true rfl, Nat.le_of_ble_eq_true rfl⟩ rfl rfl hl.1 (Nat.le_of_ble_eq_true rfl) dX4_kiteX_2) hS (fun r_1 H locs h hP hS => ?_)
  obtain ⟨hbr_1, h⟩ := h
  refine lv_if_eq (tgt := 42) hx hb dX4_kiteX_5 (by decide) (fun c_2 => ?_) (fun c_2 => ?_)
  · have h := h.1 c_2
    refine lv_iconst (v := (-1 : Int32)) hx hb dX4_kiteX_42 (by decide) ?_
    exact s_ri C hP hS ⟨rfl, h⟩ dX4_kiteX_43
  · have h := h.2 c_2
    refine lv_aload_n hx hb dX4_kiteX_8 rfl (lv_at hl 0 rfl) ?_
    refine s_gR g C hP 4 0 5 (by decide) rfl rfl cfX4 (by decide) kFL_X4_11 dX4_kiteX_9 ?_
    refine lv_iload_n hx hb dX4_kiteX_12 rfl (lv_at hl 1 rfl) ?_
    have hv_3 := h.1
    have h := h.2
    refine s_aR g C hP 5 (t := 0) (by decide) rfl rfl hv_3 dX4_kiteX_13 ?_
    refine s_gI g C hP (9 + a1.toNatClampNeg) 1 (ltX_kite (vin_lt hv_3)) (shX_kite (vin_lt hv_3)) rfl cfX2 (by decide) kFL_X4_71 dX4_kiteX_14 ?_
    refine lv_aload_n hx hb dX4_kiteX_17 rfl (lv_at hl 0 rfl) ?_
    refine s_gR g C hP 4 3 8 (by decide) rfl rfl cfX4 (by decide) kFL_X4_27 dX4_kiteX_18 ?_
    refine lv_iload_n hx hb dX4_kiteX_21 rfl (lv_at hl 2 rfl) ?_
    refine lv_iload_n hx hb dX4_kiteX_22 rfl (lv_at hl 3 rfl) ?_
    refine go_ip (run_S g C hP hS (As := [.ref (Z.2.2.1 8), .int a2, .int a3]) (rest := [.int (S.1 (9 + a1.toNatClampNeg) 1)]) (c_X4_windAt hi 8 ⟨(by decide), rfl⟩ S a2 a3 _ h) cal_X4_windAt kML_X4_121 ⟨rfl, rfl, Nat.le_of_ble_eq_true rfl, Nat.le_of_ble_eq_true rfl⟩ rfl rfl hl.1 (Nat.le_of_ble_eq_true rfl) dX4_kiteX_23) hS (fun r_4 H locs h hP hS => ?_)
    refine lv_aload_n hx hb dX4_kiteX_26 rfl (lv_at hl 0 rfl) ?_
    refine s_gR g C hP 4 0 5 (by decide) rfl rfl cfX4 (by decide) kFL_X4_11 dX4_kiteX_27 ?_
    refine lv_iload_n hx hb dX4_kiteX_30 rfl (lv_at hl 1 rfl) ?_
    have hv_5 := h.1
    have h := h.2
    refine s_aR g C hP 5 (t := 0) (by decide) rfl rfl hv_5 dX4_kiteX_31 ?_
    refine s_gI g C hP (9 + a1.toNatClampNeg) 3 (ltX_kite (vin_lt hv_5)) (shX_kite (vin_lt hv_5)) rfl cfX2 (by decide) kFL_X4_77 dX4_kiteX_32 ?_
    refine lv_imul hx hb dX4_kiteX_35 ?_
    refine lv_iconst (v := (nI 3)) hx hb dX4_kiteX_36 (by decide) ?_
    refine lv_idiv hx hb dX4_kiteX_37 (by decide) ?_
    refine lv_iadd hx hb dX4_kiteX_38 ?_
    refine lv_goto (tgt := 43) hx hb dX4_kiteX_39 (by decide) ?_
    exact s_ri C hP hS ⟨rfl, h⟩ dX4_kiteX_43
def q_X4_kiteY (S : St) (a1 : Int32) (a2 : Int32) (k : Int32 → Prop) : Prop := q_X4_isToldKite S a1 (fun r_1 => ((r_1 = (nI 0) → (k (-1 : Int32))) ∧ (¬ r_1 = (nI 0) → (vp_in a1 6 ∧ (k ((S.1 (9 + a1.toNatClampNeg) 3) - a2))))))
set_option maxRecDepth 100000 in
set_option maxHeartbeats 4000000 in
theorem c_X4_kiteY {l : Launch} {Z : ZT} (hi : injZ 68 Z) (S : St) (a1 : Int32) (a2 : Int32) (k : Int32 → Prop) (h : q_X4_kiteY S a1 a2 k) : Mi l shX 68 Z (gX Z) yX4_kiteY cX4_kiteY 3 (Option.some .int) (rmk 1 21) [.ref (Z.2.2.1 4), .int a1, .int a2] S (fun r S' => S' = S ∧ k r) := by
  have g := gokX hi
  refine e_i (by decide) (Nat.le_of_ble_eq_true rfl) (lv := [(0, .ref (Z.2.2.1 4)), (1, .int a1), (2, .int a2)]) rfl (fun p e s m args below meth c C hP hS ls hl => ?_)
  have hx := C.1.1
  have hb := C.1.2.1
  unfold q_X4_kiteY at h
  refine lv_aload_n hx hb dX4_kiteY_0 rfl (lv_at hl 0 rfl) ?_
  refine lv_iload_n hx hb dX4_kiteY_1 rfl (lv_at hl 1 rfl) ?_
  refine go_ip (run_V g C hP hS (c0 := 4) (As := [.int a1]) (rest := []) (c_X4_isToldKite hi S a1 _ h) cal_X4_isToldKite kML_X4_118 (by decide) rfl cfX4 ⟨rfl, rfl, Nat.le_of_ble_eq_true rfl, Nat.le_of_ble_eq_true rfl⟩ rfl rfl hl.1 (Nat.le_of_ble_eq_true rfl) dX4_kiteY_2) hS (fun r_1 H locs h hP hS => ?_)
  obtain ⟨hbr_1, h⟩ := h
  refine lv_if_eq (tgt := 22) hx hb dX4_kiteY_5 (by decide) (fun c_2 => ?_) (fun c_2 => ?_)
  · have h := h.1 c_2
    refine lv_iconst (v := (-1 : Int32)) hx hb dX4_kiteY_22 (by decide) ?_
    exact s_ri C hP hS ⟨rfl, h⟩ dX4_kiteY_23
  · have h := h.2 c_2
    refine lv_aload_n hx hb dX4_kiteY_8 rfl (lv_at hl 0 rfl) ?_
    refine s_gR g C hP 4 0 5 (by decide) rfl rfl cfX4 (by decide) kFL_X4_11 dX4_kiteY_9 ?_
    refine lv_iload_n hx hb dX4_kiteY_12 rfl (lv_at hl 1 rfl) ?_
    have hv_3 := h.1
    have h := h.2
    refine s_aR g C hP 5 (t := 0) (by decide) rfl rfl hv_3 dX4_kiteY_13 ?_
    refine s_gI g C hP (9 + a1.toNatClampNeg) 3 (ltX_kite (vin_lt hv_3)) (shX_kite (vin_lt hv_3)) rfl cfX2 (by decide) kFL_X4_77 dX4_kiteY_14 ?_
    refine lv_iload_n hx hb dX4_kiteY_17 rfl (lv_at hl 2 rfl) ?_
    refine lv_isub hx hb dX4_kiteY_18 ?_
    refine lv_goto (tgt := 23) hx hb dX4_kiteY_19 (by decide) ?_
    exact s_ri C hP hS ⟨rfl, h⟩ dX4_kiteY_23
def q_X4_isInSea (S : St) (a1 : Int32) (a2 : Int32) (a3 : Int32) (k : Int32 → Prop) : Prop := q_X4_kiteX S a1 a2 a3 (fun r_1 => (q_X4_kiteY S a1 a2 (fun r_2 => ((r_1 < (nI 0) → (k (nI 0))) ∧ (¬ r_1 < (nI 0) → (((nI 9) < r_1 → (k (nI 0))) ∧ (¬ (nI 9) < r_1 → ((r_2 < (nI 1) → (k (nI 0))) ∧ (¬ r_2 < (nI 1) → (((nI 6) < r_2 → (k (nI 0))) ∧ (¬ (nI 6) < r_2 → (k (nI 1)))))))))))))
set_option maxRecDepth 100000 in
set_option maxHeartbeats 4000000 in
theorem c_X4_isInSea {l : Launch} {Z : ZT} (hi : injZ 68 Z) (S : St) (a1 : Int32) (a2 : Int32) (a3 : Int32) (k : Int32 → Prop) (h : q_X4_isInSea S a1 a2 a3 k) : Mi l shX 68 Z (gX Z) yX4_isInSea cX4_isInSea 6 (Option.some .boolean) (rmk 2 46) [.ref (Z.2.2.1 4), .int a1, .int a2, .int a3] S (fun r S' => S' = S ∧ (r = 0 ∨ r = 1) ∧ k r) := by
  have g := gokX hi
  refine e_i (by decide) (Nat.le_of_ble_eq_true rfl) (lv := [(0, .ref (Z.2.2.1 4)), (1, .int a1), (2, .int a2), (3, .int a3)]) rfl (fun p e s m args below meth c C hP hS ls hl => ?_)
  have hx := C.1.1
  have hb := C.1.2.1
  unfold q_X4_isInSea at h
  refine lv_aload_n hx hb dX4_isInSea_0 rfl (lv_at hl 0 rfl) ?_
  refine lv_iload_n hx hb dX4_isInSea_1 rfl (lv_at hl 1 rfl) ?_
  refine lv_iload_n hx hb dX4_isInSea_2 rfl (lv_at hl 2 rfl) ?_
  refine lv_iload_n hx hb dX4_isInSea_3 rfl (lv_at hl 3 rfl) ?_
  refine go_ip (run_V g C hP hS (c0 := 4) (As := [.int a1, .int a2, .int a3]) (rest := []) (c_X4_kiteX hi S a1 a2 a3 _ h) cal_X4_kiteX kML_X4_125 (by decide) rfl cfX4 ⟨rfl, rfl, Nat.le_of_ble_eq_true rfl, Nat.le_of_ble_eq_true rfl⟩ rfl rfl hl.1 (Nat.le_of_ble_eq_true rfl) dX4_isInSea_4) hS (fun r_1 H locs h hP hS => ?_)
  refine lv_istore (lv' := [(4, .int r_1), (0, .ref (Z.2.2.1 4)), (1, .int a1), (2, .int a2), (3, .int a3)]) hx hb dX4_isInSea_7 hl (by decide) rfl (fun ls hl => ?_)
  refine lv_aload_n hx hb dX4_isInSea_9 rfl (lv_at hl 1 rfl) ?_
  refine lv_iload_n hx hb dX4_isInSea_10 rfl (lv_at hl 2 rfl) ?_
  refine lv_iload_n hx hb dX4_isInSea_11 rfl (lv_at hl 3 rfl) ?_
  refine go_ip (run_V g C hP hS (c0 := 4) (As := [.int a1, .int a2]) (rest := []) (c_X4_kiteY hi S a1 a2 _ h) cal_X4_kiteY kML_X4_129 (by decide) rfl cfX4 ⟨rfl, rfl, Nat.le_of_ble_eq_true rfl, Nat.le_of_ble_eq_true rfl⟩ rfl rfl hl.1 (Nat.le_of_ble_eq_true rfl) dX4_isInSea_12) hS (fun r_2 H locs h hP hS => ?_)
  refine lv_istore (lv' := [(5, .int r_2), (4, .int r_1), (0, .ref (Z.2.2.1 4)), (1, .int a1), (2, .int a2), (3, .int a3)]) hx hb dX4_isInSea_15 hl (by decide) rfl (fun ls hl => ?_)
  refine lv_iload hx hb dX4_isInSea_17 (lv_at hl 1 rfl) ?_
  refine lv_if_lt (tgt := 46) hx hb dX4_isInSea_19 (by decide) (fun c_3 => ?_) (fun c_3 => ?_)
  · have h := h.1 c_3
    refine lv_iconst (v := (nI 0)) hx hb dX4_isInSea_46 (by decide) ?_
    exact s_rz C hP hS (nar_b (Or.inl rfl)) ⟨rfl, ⟨(Or.inl rfl), h⟩⟩ dX4_isInSea_47
  · have h := h.2 c_3
    refine lv_iload hx hb dX4_isInSea_22 (lv_at hl 1 rfl) ?_
    refine lv_bipush (v := (nI 9)) hx hb dX4_isInSea_24 (by decide) ?_
    refine lv_icmp_gt (tgt := 46) hx hb dX4_isInSea_26 (by decide) (fun c_4 => ?_) (fun c_4 => ?_)
    · have h := h.1 c_4
      refine lv_iconst (v := (nI 0)) hx hb dX4_isInSea_46 (by decide) ?_
      exact s_rz C hP hS (nar_b (Or.inl rfl)) ⟨rfl, ⟨(Or.inl rfl), h⟩⟩ dX4_isInSea_47
    · have h := h.2 c_4
      refine lv_iload hx hb dX4_isInSea_29 (lv_at hl 0 rfl) ?_
      refine lv_iconst (v := (nI 1)) hx hb dX4_isInSea_31 (by decide) ?_
      refine lv_icmp_lt (tgt := 46) hx hb dX4_isInSea_32 (by decide) (fun c_5 => ?_) (fun c_5 => ?_)
      · have h := h.1 c_5
        refine lv_iconst (v := (nI 0)) hx hb dX4_isInSea_46 (by decide) ?_
        exact s_rz C hP hS (nar_b (Or.inl rfl)) ⟨rfl, ⟨(Or.inl rfl), h⟩⟩ dX4_isInSea_47
      · have h := h.2 c_5
        refine lv_iload hx hb dX4_isInSea_35 (lv_at hl 0 rfl) ?_
        refine lv_bipush (v := (nI 6)) hx hb dX4_isInSea_37 (by decide) ?_
        refine lv_icmp_gt (tgt := 46) hx hb dX4_isInSea_39 (by decide) (fun c_6 => ?_) (fun c_6 => ?_)
        · have h := h.1 c_6
          refine lv_iconst (v := (nI 0)) hx hb dX4_isInSea_46 (by decide) ?_
          exact s_rz C hP hS (nar_b (Or.inl rfl)) ⟨rfl, ⟨(Or.inl rfl), h⟩⟩ dX4_isInSea_47
        · have h := h.2 c_6
          refine lv_iconst (v := (nI 1)) hx hb dX4_isInSea_42 (by decide) ?_
          refine lv_goto (tgt := 47) hx hb dX4_isInSea_43 (by decide) ?_
          exact s_rz C hP hS (nar_b (Or.inr rfl)) ⟨rfl, ⟨(Or.inr rfl), h⟩⟩ dX4_isInSea_47
def q_X4_hasLift (S : St) (a1 : Int32) (a2 : Int32) (a3 : Int32) (k : Int32 → Prop) : Prop := q_X4_isToldKite S a1 (fun r_1 => ((r_1 = (nI 0) → (k (nI 0))) ∧ (¬ r_1 = (nI 0) → (vp_in a1 6 ∧ (q_X4_windAt 7 S a2 a3 (fun r_4 => (vp_in a1 6 ∧ ((((S.1 (9 + a1.toNatClampNeg) 2) * r_4) < (S.1 (9 + a1.toNatClampNeg) 4) → (k (nI 0))) ∧ (¬ ((S.1 (9 + a1.toNatClampNeg) 2) * r_4) < (S.1 (9 + a1.toNatClampNeg) 4) → (k (nI 1)))))))))))
set_option maxRecDepth 100000 in
set_option maxHeartbeats 4000000 in
theorem c_X4_hasLift {l : Launch} {Z : ZT} (hi : injZ 68 Z) (S : St) (a1 : Int32) (a2 : Int32) (a3 : Int32) (k : Int32 → Prop) (h : q_X4_hasLift S a1 a2 a3 k) : Mi l shX 68 Z (gX Z) yX4_hasLift cX4_hasLift 4 (Option.some .boolean) (rmk 1 23) [.ref (Z.2.2.1 4), .int a1, .int a2, .int a3] S (fun r S' => S' = S ∧ (r = 0 ∨ r = 1) ∧ k r) := by
  have g := gokX hi
  refine e_i (by decide) (Nat.le_of_ble_eq_true rfl) (lv := [(0, .ref (Z.2.2.1 4)), (1, .int a1), (2, .int a2), (3, .int a3)]) rfl (fun p e s m args below meth c C hP hS ls hl => ?_)
  have hx := C.1.1
  have hb := C.1.2.1
  unfold q_X4_hasLift at h
  refine lv_aload_n hx hb dX4_hasLift_0 rfl (lv_at hl 0 rfl) ?_
  refine lv_iload_n hx hb dX4_hasLift_1 rfl (lv_at hl 1 rfl) ?_
  refine go_ip (run_V g C hP hS (c0 := 4) (As := [.int a1]) (rest := []) (c_X4_isToldKite hi S a1 _ h) cal_X4_isToldKite kML_X4_118 (by decide) rfl cfX4 ⟨rfl, rfl, Nat.le_of_ble_eq_true rfl, Nat.le_of_ble_eq_true rfl⟩ rfl rfl hl.1 (Nat.le_of_ble_eq_true rfl) dX4_hasLift_2) hS (fun r_1 H locs h hP hS => ?_)
  obtain ⟨hbr_1, h⟩ := h
  refine lv_if_eq (tgt := 43) hx hb dX4_hasLift_5 (by decide) (fun c_2 => ?_) (fun c_2 => ?_)
  · have h := h.1 c_2
    refine lv_iconst (v := (nI 0)) hx hb dX4_hasLift_43 (by decide) ?_
    exact s_rz C hP hS (nar_b (Or.inl rfl)) ⟨rfl, ⟨(Or.inl rfl), h⟩⟩ dX4_hasLift_44
  · have h := h.2 c_2
    refine lv_aload_n hx hb dX4_hasLift_8 rfl (lv_at hl 0 rfl) ?_
    refine s_gR g C hP 4 0 5 (by decide) rfl rfl cfX4 (by decide) kFL_X4_11 dX4_hasLift_9 ?_
    refine lv_iload_n hx hb dX4_hasLift_12 rfl (lv_at hl 1 rfl) ?_
    have hv_3 := h.1
    have h := h.2
    refine s_aR g C hP 5 (t := 0) (by decide) rfl rfl hv_3 dX4_hasLift_13 ?_
    refine s_gI g C hP (9 + a1.toNatClampNeg) 2 (ltX_kite (vin_lt hv_3)) (shX_kite (vin_lt hv_3)) rfl cfX2 (by decide) kFL_X4_74 dX4_hasLift_14 ?_
    refine lv_aload_n hx hb dX4_hasLift_17 rfl (lv_at hl 0 rfl) ?_
    refine s_gR g C hP 4 2 7 (by decide) rfl rfl cfX4 (by decide) kFL_X4_23 dX4_hasLift_18 ?_
    refine lv_iload_n hx hb dX4_hasLift_21 rfl (lv_at hl 2 rfl) ?_
    refine lv_iload_n hx hb dX4_hasLift_22 rfl (lv_at hl 3 rfl) ?_
    refine go_ip (run_S g C hP hS (As := [.ref (Z.2.2.1 7), .int a2, .int a3]) (rest := [.int (S.1 (9 + a1.toNatClampNeg) 2)]) (c_X4_windAt hi 7 ⟨(by decide), rfl⟩ S a2 a3 _ h) cal_X4_windAt kML_X4_121 ⟨rfl, rfl, Nat.le_of_ble_eq_true rfl, Nat.le_of_ble_eq_true rfl⟩ rfl rfl hl.1 (Nat.le_of_ble_eq_true rfl) dX4_hasLift_23) hS (fun r_4 H locs h hP hS => ?_)
    refine lv_imul hx hb dX4_hasLift_26 ?_
    refine lv_aload_n hx hb dX4_hasLift_27 rfl (lv_at hl 0 rfl) ?_
    refine s_gR g C hP 4 0 5 (by decide) rfl rfl cfX4 (by decide) kFL_X4_11 dX4_hasLift_28 ?_
    refine lv_iload_n hx hb dX4_hasLift_31 rfl (lv_at hl 1 rfl) ?_
    have hv_5 := h.1
    have h := h.2
    refine s_aR g C hP 5 (t := 0) (by decide) rfl rfl hv_5 dX4_hasLift_32 ?_
    refine s_gI g C hP (9 + a1.toNatClampNeg) 4 (ltX_kite (vin_lt hv_5)) (shX_kite (vin_lt hv_5)) rfl cfX2 (by decide) kFL_X4_80 dX4_hasLift_33 ?_
    refine lv_icmp_lt (tgt := 43) hx hb dX4_hasLift_36 (by decide) (fun c_6 => ?_) (fun c_6 => ?_)
    · have h := h.1 c_6
      refine lv_iconst (v := (nI 0)) hx hb dX4_hasLift_43 (by decide) ?_
      exact s_rz C hP hS (nar_b (Or.inl rfl)) ⟨rfl, ⟨(Or.inl rfl), h⟩⟩ dX4_hasLift_44
    · have h := h.2 c_6
      refine lv_iconst (v := (nI 1)) hx hb dX4_hasLift_39 (by decide) ?_
      refine lv_goto (tgt := 44) hx hb dX4_hasLift_40 (by decide) ?_
      exact s_rz C hP hS (nar_b (Or.inr rfl)) ⟨rfl, ⟨(Or.inr rfl), h⟩⟩ dX4_hasLift_44
def q_X4_wouldCross (S : St) (a1 : Int32) (a2 : Int32) (a3 : Int32) (a4 : Int32) (k : Int32 → Prop) : Prop := q_X4_isToldKite S a1 (fun r_1 => ((r_1 = (nI 0) → (k (nI 0))) ∧ (¬ r_1 = (nI 0) → (q_X4_isToldKite S a2 (fun r_3 => ((r_3 = (nI 0) → (k (nI 0))) ∧ (¬ r_3 = (nI 0) → (vp_in a1 6 ∧ (vp_in a2 6 ∧ (∀ x5_7 : Int32, x5_7 = ((S.1 (9 + a1.toNatClampNeg) 1) - (S.1 (9 + a2.toNatClampNeg) 1)) → (q_X4_kiteX S a1 a3 a4 (fun r_8 => (q_X4_kiteX S a2 a3 a4 (fun r_9 => (∀ x6_10 : Int32, x6_10 = (r_8 - r_9) → ((x5_7 = (nI 0) → (k (nI 1))) ∧ (¬ x5_7 = (nI 0) → (((nI 0) ≤ x5_7 → (((nI 0) < x6_10 → (k (nI 0))) ∧ (¬ (nI 0) < x6_10 → (k (nI 1))))) ∧ (¬ (nI 0) ≤ x5_7 → ((x6_10 < (nI 0) → (k (nI 0))) ∧ (¬ x6_10 < (nI 0) → (k (nI 1)))))))))))))))))))))))
set_option maxRecDepth 100000 in
set_option maxHeartbeats 4000000 in
theorem c_X4_wouldCross {l : Launch} {Z : ZT} (hi : injZ 68 Z) (S : St) (a1 : Int32) (a2 : Int32) (a3 : Int32) (a4 : Int32) (k : Int32 → Prop) (h : q_X4_wouldCross S a1 a2 a3 a4 k) : Mi l shX 68 Z (gX Z) yX4_wouldCross cX4_wouldCross 7 (Option.some .boolean) (rmk 2 46) [.ref (Z.2.2.1 4), .int a1, .int a2, .int a3, .int a4] S (fun r S' => S' = S ∧ (r = 0 ∨ r = 1) ∧ k r) := by
  have g := gokX hi
  refine e_i (by decide) (Nat.le_of_ble_eq_true rfl) (lv := [(0, .ref (Z.2.2.1 4)), (1, .int a1), (2, .int a2), (3, .int a3), (4, .int a4)]) rfl (fun p e s m args below meth c C hP hS ls hl => ?_)
  have hx := C.1.1
  have hb := C.1.2.1
  unfold q_X4_wouldCross at h
  refine lv_aload_n hx hb dX4_wouldCross_0 rfl (lv_at hl 0 rfl) ?_
  refine lv_iload_n hx hb dX4_wouldCross_1 rfl (lv_at hl 1 rfl) ?_
  refine go_ip (run_V g C hP hS (c0 := 4) (As := [.int a1]) (rest := []) (c_X4_isToldKite hi S a1 _ h) cal_X4_isToldKite kML_X4_118 (by decide) rfl cfX4 ⟨rfl, rfl, Nat.le_of_ble_eq_true rfl, Nat.le_of_ble_eq_true rfl⟩ rfl rfl hl.1 (Nat.le_of_ble_eq_true rfl) dX4_wouldCross_2) hS (fun r_1 H locs h hP hS => ?_)
  obtain ⟨hbr_1, h⟩ := h
  refine lv_if_eq (tgt := 16) hx hb dX4_wouldCross_5 (by decide) (fun c_2 => ?_) (fun c_2 => ?_)
  · have h := h.1 c_2
    refine lv_iconst (v := (nI 0)) hx hb dX4_wouldCross_16 (by decide) ?_
    exact s_rz C hP hS (nar_b (Or.inl rfl)) ⟨rfl, ⟨(Or.inl rfl), h⟩⟩ dX4_wouldCross_17
  · have h := h.2 c_2
    refine lv_aload_n hx hb dX4_wouldCross_8 rfl (lv_at hl 0 rfl) ?_
    refine lv_iload_n hx hb dX4_wouldCross_9 rfl (lv_at hl 2 rfl) ?_
    refine go_ip (run_V g C hP hS (c0 := 4) (As := [.int a2]) (rest := []) (c_X4_isToldKite hi S a2 _ h) cal_X4_isToldKite kML_X4_118 (by decide) rfl cfX4 ⟨rfl, rfl, Nat.le_of_ble_eq_true rfl, Nat.le_of_ble_eq_true rfl⟩ rfl rfl hl.1 (Nat.le_of_ble_eq_true rfl) dX4_wouldCross_10) hS (fun r_3 H locs h hP hS => ?_)
    obtain ⟨hbr_3, h⟩ := h
    refine lv_if_ne (tgt := 18) hx hb dX4_wouldCross_13 (by decide) (fun c_4 => ?_) (fun c_4 => ?_)
    · have h := h.2 c_4
      refine lv_aload_n hx hb dX4_wouldCross_18 rfl (lv_at hl 0 rfl) ?_
      refine s_gR g C hP 4 0 5 (by decide) rfl rfl cfX4 (by decide) kFL_X4_11 dX4_wouldCross_19 ?_
      refine lv_iload_n hx hb dX4_wouldCross_22 rfl (lv_at hl 1 rfl) ?_
      have hv_5 := h.1
      have h := h.2
      refine s_aR g C hP 5 (t := 0) (by decide) rfl rfl hv_5 dX4_wouldCross_23 ?_
      refine s_gI g C hP (9 + a1.toNatClampNeg) 1 (ltX_kite (vin_lt hv_5)) (shX_kite (vin_lt hv_5)) rfl cfX2 (by decide) kFL_X4_71 dX4_wouldCross_24 ?_
      refine lv_aload_n hx hb dX4_wouldCross_27 rfl (lv_at hl 0 rfl) ?_
      refine s_gR g C hP 4 0 5 (by decide) rfl rfl cfX4 (by decide) kFL_X4_11 dX4_wouldCross_28 ?_
      refine lv_iload_n hx hb dX4_wouldCross_31 rfl (lv_at hl 2 rfl) ?_
      have hv_6 := h.1
      have h := h.2
      refine s_aR g C hP 5 (t := 0) (by decide) rfl rfl hv_6 dX4_wouldCross_32 ?_
      refine s_gI g C hP (9 + a2.toNatClampNeg) 1 (ltX_kite (vin_lt hv_6)) (shX_kite (vin_lt hv_6)) rfl cfX2 (by decide) kFL_X4_71 dX4_wouldCross_33 ?_
      refine lv_isub hx hb dX4_wouldCross_36 ?_
      refine lv_topi (fun x5_7 ex5_7 => ?_)
      have h := h x5_7 ex5_7
      refine lv_istore (lv' := [(5, .int x5_7), (0, .ref (Z.2.2.1 4)), (1, .int a1), (2, .int a2), (3, .int a3), (4, .int a4)]) hx hb dX4_wouldCross_37 hl (by decide) rfl (fun ls hl => ?_)
      refine lv_aload_n hx hb dX4_wouldCross_39 rfl (lv_at hl 1 rfl) ?_
      refine lv_iload_n hx hb dX4_wouldCross_40 rfl (lv_at hl 2 rfl) ?_
      refine lv_iload_n hx hb dX4_wouldCross_41 rfl (lv_at hl 4 rfl) ?_
      refine lv_iload hx hb dX4_wouldCross_42 (lv_at hl 5 rfl) ?_
      refine go_ip (run_V g C hP hS (c0 := 4) (As := [.int a1, .int a3, .int a4]) (rest := []) (c_X4_kiteX hi S a1 a3 a4 _ h) cal_X4_kiteX kML_X4_125 (by decide) rfl cfX4 ⟨rfl, rfl, Nat.le_of_ble_eq_true rfl, Nat.le_of_ble_eq_true rfl⟩ rfl rfl hl.1 (Nat.le_of_ble_eq_true rfl) dX4_wouldCross_44) hS (fun r_8 H locs h hP hS => ?_)
      refine lv_aload_n hx hb dX4_wouldCross_47 rfl (lv_at hl 1 rfl) ?_
      refine lv_iload_n hx hb dX4_wouldCross_48 rfl (lv_at hl 3 rfl) ?_
      refine lv_iload_n hx hb dX4_wouldCross_49 rfl (lv_at hl 4 rfl) ?_
      refine lv_iload hx hb dX4_wouldCross_50 (lv_at hl 5 rfl) ?_
      refine go_ip (run_V g C hP hS (c0 := 4) (As := [.int a2, .int a3, .int a4]) (rest := [.int r_8]) (c_X4_kiteX hi S a2 a3 a4 _ h) cal_X4_kiteX kML_X4_125 (by decide) rfl cfX4 ⟨rfl, rfl, Nat.le_of_ble_eq_true rfl, Nat.le_of_ble_eq_true rfl⟩ rfl rfl hl.1 (Nat.le_of_ble_eq_true rfl) dX4_wouldCross_52) hS (fun r_9 H locs h hP hS => ?_)
      refine lv_isub hx hb dX4_wouldCross_55 ?_
      refine lv_topi (fun x6_10 ex6_10 => ?_)
      have h := h x6_10 ex6_10
      refine lv_istore (lv' := [(6, .int x6_10), (5, .int x5_7), (0, .ref (Z.2.2.1 4)), (1, .int a1), (2, .int a2), (3, .int a3), (4, .int a4)]) hx hb dX4_wouldCross_56 hl (by decide) rfl (fun ls hl => ?_)
      refine lv_iload hx hb dX4_wouldCross_58 (lv_at hl 1 rfl) ?_
      refine lv_if_ne (tgt := 65) hx hb dX4_wouldCross_60 (by decide) (fun c_11 => ?_) (fun c_11 => ?_)
      · have h := h.2 c_11
        refine lv_iload hx hb dX4_wouldCross_65 (lv_at hl 1 rfl) ?_
        refine lv_if_ge (tgt := 83) hx hb dX4_wouldCross_67 (by decide) (fun c_12 => ?_) (fun c_12 => ?_)
        · have h := h.1 c_12
          refine lv_iload hx hb dX4_wouldCross_83 (lv_at hl 0 rfl) ?_
          refine lv_if_gt (tgt := 92) hx hb dX4_wouldCross_85 (by decide) (fun c_13 => ?_) (fun c_13 => ?_)
          · have h := h.1 c_13
            refine lv_iconst (v := (nI 0)) hx hb dX4_wouldCross_92 (by decide) ?_
            exact s_rz C hP hS (nar_b (Or.inl rfl)) ⟨rfl, ⟨(Or.inl rfl), h⟩⟩ dX4_wouldCross_93
          · have h := h.2 c_13
            refine lv_iconst (v := (nI 1)) hx hb dX4_wouldCross_88 (by decide) ?_
            refine lv_goto (tgt := 93) hx hb dX4_wouldCross_89 (by decide) ?_
            exact s_rz C hP hS (nar_b (Or.inr rfl)) ⟨rfl, ⟨(Or.inr rfl), h⟩⟩ dX4_wouldCross_93
        · have h := h.2 c_12
          refine lv_iload hx hb dX4_wouldCross_70 (lv_at hl 0 rfl) ?_
          refine lv_if_lt (tgt := 79) hx hb dX4_wouldCross_72 (by decide) (fun c_14 => ?_) (fun c_14 => ?_)
          · have h := h.1 c_14
            refine lv_iconst (v := (nI 0)) hx hb dX4_wouldCross_79 (by decide) ?_
            refine lv_goto (tgt := 93) hx hb dX4_wouldCross_80 (by decide) ?_
            exact s_rz C hP hS (nar_b (Or.inl rfl)) ⟨rfl, ⟨(Or.inl rfl), h⟩⟩ dX4_wouldCross_93
          · have h := h.2 c_14
            refine lv_iconst (v := (nI 1)) hx hb dX4_wouldCross_75 (by decide) ?_
            refine lv_goto (tgt := 93) hx hb dX4_wouldCross_76 (by decide) ?_
            exact s_rz C hP hS (nar_b (Or.inr rfl)) ⟨rfl, ⟨(Or.inr rfl), h⟩⟩ dX4_wouldCross_93
      · have h := h.1 c_11
        refine lv_iconst (v := (nI 1)) hx hb dX4_wouldCross_63 (by decide) ?_
        exact s_rz C hP hS (nar_b (Or.inr rfl)) ⟨rfl, ⟨(Or.inr rfl), h⟩⟩ dX4_wouldCross_64
    · have h := h.1 c_4
      refine lv_iconst (v := (nI 0)) hx hb dX4_wouldCross_16 (by decide) ?_
      exact s_rz C hP hS (nar_b (Or.inl rfl)) ⟨rfl, ⟨(Or.inl rfl), h⟩⟩ dX4_wouldCross_17
def q_X4_givingWay_98 (a1 : Int32) (a2 : Int32) (a3 : Int32) (S : St) (k : Int32 → Prop) (t0 : Int32) : Prop := (t0 = (nI 0) → (k a2)) ∧ (¬ t0 = (nI 0) → (k a1))
set_option maxRecDepth 100000 in
set_option maxHeartbeats 4000000 in
theorem b_X4_givingWay_98 {p : Program} {l : Launch} {e : Env} {s : State} {m : MethodId} {args : Array Value} {below : List Frame} {meth : Method} {c : Code} {Z : ZT} (hi : injZ 68 Z) (C : Cxt (gX Z) p s m meth c args yX4_givingWay cX4_givingWay 7 (Option.some .int)) {a1 : Int32} {a2 : Int32} {a3 : Int32} {S : St} {k : Int32 → Prop}   (t0 : Int32) (H : Heap) (locs : List Loc) (ls : Array Slot) (hP : va_P Z.1 vwCl (wl shX 68 Z S) H) (hS : va_S (aa 68 Z) s.heap H locs) (hl : lv_has ls 7 [(1, .int a1), (2, .int a2)]) (h : q_X4_givingWay_98 a1 a2 a3 S k t0) : W p l e (rmk 1 21) s m args below meth c H locs 0 0 (Qi below shX 68 Z args s (fun r S' => S' = S ∧ k r)) (F0 m 98 ls [.int t0]) := by
  have g := gokX hi
  have hx := C.1.1
  have hb := C.1.2.1
  unfold q_X4_givingWay_98 at h
  refine lv_istore (lv' := [(6, .int t0), (1, .int a1), (2, .int a2)]) hx hb dX4_givingWay_98 hl (by decide) rfl (fun ls hl => ?_)
  refine lv_iload hx hb dX4_givingWay_100 (lv_at hl 0 rfl) ?_
  refine lv_if_eq (tgt := 109) hx hb dX4_givingWay_102 (by decide) (fun c_1 => ?_) (fun c_1 => ?_)
  · have h := h.1 c_1
    refine lv_iload_n hx hb dX4_givingWay_109 rfl (lv_at hl 2 rfl) ?_
    exact s_ri C hP hS ⟨rfl, h⟩ dX4_givingWay_110
  · have h := h.2 c_1
    refine lv_iload_n hx hb dX4_givingWay_105 rfl (lv_at hl 1 rfl) ?_
    refine lv_goto (tgt := 110) hx hb dX4_givingWay_106 (by decide) ?_
    exact s_ri C hP hS ⟨rfl, h⟩ dX4_givingWay_110
def q_X4_givingWay_97 (a1 : Int32) (a2 : Int32) (a3 : Int32) (S : St) (k : Int32 → Prop)  : Prop := q_X4_givingWay_98 a1 a2 a3 S k (nI 0)
set_option maxRecDepth 100000 in
set_option maxHeartbeats 4000000 in
theorem b_X4_givingWay_97 {p : Program} {l : Launch} {e : Env} {s : State} {m : MethodId} {args : Array Value} {below : List Frame} {meth : Method} {c : Code} {Z : ZT} (hi : injZ 68 Z) (C : Cxt (gX Z) p s m meth c args yX4_givingWay cX4_givingWay 7 (Option.some .int)) {a1 : Int32} {a2 : Int32} {a3 : Int32} {S : St} {k : Int32 → Prop}   (H : Heap) (locs : List Loc) (ls : Array Slot) (hP : va_P Z.1 vwCl (wl shX 68 Z S) H) (hS : va_S (aa 68 Z) s.heap H locs) (hl : lv_has ls 7 [(1, .int a1), (2, .int a2)]) (h : q_X4_givingWay_97 a1 a2 a3 S k ) : W p l e (rmk 1 21) s m args below meth c H locs 0 0 (Qi below shX 68 Z args s (fun r S' => S' = S ∧ k r)) (F0 m 97 ls []) := by
  have g := gokX hi
  have hx := C.1.1
  have hb := C.1.2.1
  unfold q_X4_givingWay_97 at h
  refine lv_iconst (v := (nI 0)) hx hb dX4_givingWay_97 (by decide) ?_
  exact b_X4_givingWay_98 hi C  _ _ _ _ hP hS (lv_sub hl [0, 1] rfl) h
def q_X4_givingWay_93 (a1 : Int32) (a2 : Int32) (a3 : Int32) (S : St) (k : Int32 → Prop)  : Prop := q_X4_givingWay_98 a1 a2 a3 S k (nI 1)
set_option maxRecDepth 100000 in
set_option maxHeartbeats 4000000 in
theorem b_X4_givingWay_93 {p : Program} {l : Launch} {e : Env} {s : State} {m : MethodId} {args : Array Value} {below : List Frame} {meth : Method} {c : Code} {Z : ZT} (hi : injZ 68 Z) (C : Cxt (gX Z) p s m meth c args yX4_givingWay cX4_givingWay 7 (Option.some .int)) {a1 : Int32} {a2 : Int32} {a3 : Int32} {S : St} {k : Int32 → Prop}   (H : Heap) (locs : List Loc) (ls : Array Slot) (hP : va_P Z.1 vwCl (wl shX 68 Z S) H) (hS : va_S (aa 68 Z) s.heap H locs) (hl : lv_has ls 7 [(1, .int a1), (2, .int a2)]) (h : q_X4_givingWay_93 a1 a2 a3 S k ) : W p l e (rmk 1 21) s m args below meth c H locs 0 0 (Qi below shX 68 Z args s (fun r S' => S' = S ∧ k r)) (F0 m 93 ls []) := by
  have g := gokX hi
  have hx := C.1.1
  have hb := C.1.2.1
  unfold q_X4_givingWay_93 at h
  refine lv_iconst (v := (nI 1)) hx hb dX4_givingWay_93 (by decide) ?_
  refine lv_goto (tgt := 98) hx hb dX4_givingWay_94 (by decide) ?_
  exact b_X4_givingWay_98 hi C  _ _ _ _ hP hS (lv_sub hl [0, 1] rfl) h
def q_X4_givingWay_83 (a1 : Int32) (a2 : Int32) (a3 : Int32) (S : St) (k : Int32 → Prop) (x5 : Int32) : Prop := (a3 = (nI 1) → ((x5 = (nI 0) → (q_X4_givingWay_97 a1 a2 a3 S k )) ∧ (¬ x5 = (nI 0) → (q_X4_givingWay_93 a1 a2 a3 S k )))) ∧ (¬ a3 = (nI 1) → (q_X4_givingWay_97 a1 a2 a3 S k ))
set_option maxRecDepth 100000 in
set_option maxHeartbeats 4000000 in
theorem b_X4_givingWay_83 {p : Program} {l : Launch} {e : Env} {s : State} {m : MethodId} {args : Array Value} {below : List Frame} {meth : Method} {c : Code} {Z : ZT} (hi : injZ 68 Z) (C : Cxt (gX Z) p s m meth c args yX4_givingWay cX4_givingWay 7 (Option.some .int)) {a1 : Int32} {a2 : Int32} {a3 : Int32} {S : St} {k : Int32 → Prop}   (x5 : Int32) (H : Heap) (locs : List Loc) (ls : Array Slot) (hP : va_P Z.1 vwCl (wl shX 68 Z S) H) (hS : va_S (aa 68 Z) s.heap H locs) (hl : lv_has ls 7 [(1, .int a1), (2, .int a2), (3, .int a3), (5, .int x5)]) (h : q_X4_givingWay_83 a1 a2 a3 S k x5) : W p l e (rmk 1 21) s m args below meth c H locs 0 0 (Qi below shX 68 Z args s (fun r S' => S' = S ∧ k r)) (F0 m 83 ls []) := by
  have g := gokX hi
  have hx := C.1.1
  have hb := C.1.2.1
  unfold q_X4_givingWay_83 at h
  refine lv_iload_n hx hb dX4_givingWay_83 rfl (lv_at hl 2 rfl) ?_
  refine lv_iconst (v := (nI 1)) hx hb dX4_givingWay_84 (by decide) ?_
  refine lv_icmp_ne (tgt := 97) hx hb dX4_givingWay_85 (by decide) (fun c_1 => ?_) (fun c_1 => ?_)
  · have h := h.2 c_1
    exact b_X4_givingWay_97 hi C  _ _ _ hP hS (lv_sub hl [0, 1] rfl) h
  · have h := h.1 c_1
    refine lv_iload hx hb dX4_givingWay_88 (lv_at hl 3 rfl) ?_
    refine lv_if_eq (tgt := 97) hx hb dX4_givingWay_90 (by decide) (fun c_2 => ?_) (fun c_2 => ?_)
    · have h := h.1 c_2
      exact b_X4_givingWay_97 hi C  _ _ _ hP hS (lv_sub hl [0, 1] rfl) h
    · have h := h.2 c_2
      exact b_X4_givingWay_93 hi C  _ _ _ hP hS (lv_sub hl [0, 1] rfl) h
def q_X4_givingWay_72 (a1 : Int32) (a2 : Int32) (a3 : Int32) (S : St) (k : Int32 → Prop) (x4 : Int32) (t0 : Int32) : Prop := (a3 = (nI 0) → ((x4 = (nI 0) → (q_X4_givingWay_83 a1 a2 a3 S k t0)) ∧ (¬ x4 = (nI 0) → (q_X4_givingWay_93 a1 a2 a3 S k )))) ∧ (¬ a3 = (nI 0) → (q_X4_givingWay_83 a1 a2 a3 S k t0))
set_option maxRecDepth 100000 in
set_option maxHeartbeats 4000000 in
theorem b_X4_givingWay_72 {p : Program} {l : Launch} {e : Env} {s : State} {m : MethodId} {args : Array Value} {below : List Frame} {meth : Method} {c : Code} {Z : ZT} (hi : injZ 68 Z) (C : Cxt (gX Z) p s m meth c args yX4_givingWay cX4_givingWay 7 (Option.some .int)) {a1 : Int32} {a2 : Int32} {a3 : Int32} {S : St} {k : Int32 → Prop}   (x4 : Int32) (t0 : Int32) (H : Heap) (locs : List Loc) (ls : Array Slot) (hP : va_P Z.1 vwCl (wl shX 68 Z S) H) (hS : va_S (aa 68 Z) s.heap H locs) (hl : lv_has ls 7 [(1, .int a1), (2, .int a2), (3, .int a3), (4, .int x4)]) (h : q_X4_givingWay_72 a1 a2 a3 S k x4 t0) : W p l e (rmk 1 21) s m args below meth c H locs 0 0 (Qi below shX 68 Z args s (fun r S' => S' = S ∧ k r)) (F0 m 72 ls [.int t0]) := by
  have g := gokX hi
  have hx := C.1.1
  have hb := C.1.2.1
  unfold q_X4_givingWay_72 at h
  refine lv_istore (lv' := [(5, .int t0), (1, .int a1), (2, .int a2), (3, .int a3), (4, .int x4)]) hx hb dX4_givingWay_72 hl (by decide) rfl (fun ls hl => ?_)
  refine lv_iload_n hx hb dX4_givingWay_74 rfl (lv_at hl 3 rfl) ?_
  refine lv_if_ne (tgt := 83) hx hb dX4_givingWay_75 (by decide) (fun c_1 => ?_) (fun c_1 => ?_)
  · have h := h.2 c_1
    exact b_X4_givingWay_83 hi C  _ _ _ _ hP hS (lv_sub hl [1, 2, 3, 0] rfl) h
  · have h := h.1 c_1
    refine lv_iload hx hb dX4_givingWay_78 (lv_at hl 4 rfl) ?_
    refine lv_if_ne (tgt := 93) hx hb dX4_givingWay_80 (by decide) (fun c_2 => ?_) (fun c_2 => ?_)
    · have h := h.2 c_2
      exact b_X4_givingWay_93 hi C  _ _ _ hP hS (lv_sub hl [1, 2] rfl) h
    · have h := h.1 c_2
      exact b_X4_givingWay_83 hi C  _ _ _ _ hP hS (lv_sub hl [1, 2, 3, 0] rfl) h
def q_X4_givingWay_44 (a1 : Int32) (a2 : Int32) (a3 : Int32) (S : St) (k : Int32 → Prop) (t0 : Int32) : Prop := vp_in a1 6 ∧ (vp_in a2 6 ∧ (((S.1 (9 + a1.toNatClampNeg) 5) ≤ (S.1 (9 + a2.toNatClampNeg) 5) → (q_X4_givingWay_72 a1 a2 a3 S k t0 (nI 0))) ∧ (¬ (S.1 (9 + a1.toNatClampNeg) 5) ≤ (S.1 (9 + a2.toNatClampNeg) 5) → (q_X4_givingWay_72 a1 a2 a3 S k t0 (nI 1)))))
set_option maxRecDepth 100000 in
set_option maxHeartbeats 4000000 in
theorem b_X4_givingWay_44 {p : Program} {l : Launch} {e : Env} {s : State} {m : MethodId} {args : Array Value} {below : List Frame} {meth : Method} {c : Code} {Z : ZT} (hi : injZ 68 Z) (C : Cxt (gX Z) p s m meth c args yX4_givingWay cX4_givingWay 7 (Option.some .int)) {a1 : Int32} {a2 : Int32} {a3 : Int32} {S : St} {k : Int32 → Prop}   (t0 : Int32) (H : Heap) (locs : List Loc) (ls : Array Slot) (hP : va_P Z.1 vwCl (wl shX 68 Z S) H) (hS : va_S (aa 68 Z) s.heap H locs) (hl : lv_has ls 7 [(0, .ref (Z.2.2.1 4)), (1, .int a1), (2, .int a2), (3, .int a3)]) (h : q_X4_givingWay_44 a1 a2 a3 S k t0) : W p l e (rmk 1 21) s m args below meth c H locs 0 0 (Qi below shX 68 Z args s (fun r S' => S' = S ∧ k r)) (F0 m 44 ls [.int t0]) := by
  have g := gokX hi
  have hx := C.1.1
  have hb := C.1.2.1
  unfold q_X4_givingWay_44 at h
  refine lv_istore (lv' := [(4, .int t0), (0, .ref (Z.2.2.1 4)), (1, .int a1), (2, .int a2), (3, .int a3)]) hx hb dX4_givingWay_44 hl (by decide) rfl (fun ls hl => ?_)
  refine lv_aload_n hx hb dX4_givingWay_46 rfl (lv_at hl 1 rfl) ?_
  refine s_gR g C hP 4 0 5 (by decide) rfl rfl cfX4 (by decide) kFL_X4_11 dX4_givingWay_47 ?_
  refine lv_iload_n hx hb dX4_givingWay_50 rfl (lv_at hl 2 rfl) ?_
  have hv_1 := h.1
  have h := h.2
  refine s_aR g C hP 5 (t := 0) (by decide) rfl rfl hv_1 dX4_givingWay_51 ?_
  refine s_gI g C hP (9 + a1.toNatClampNeg) 5 (ltX_kite (vin_lt hv_1)) (shX_kite (vin_lt hv_1)) rfl cfX2 (by decide) kFL_X4_83 dX4_givingWay_52 ?_
  refine lv_aload_n hx hb dX4_givingWay_55 rfl (lv_at hl 1 rfl) ?_
  refine s_gR g C hP 4 0 5 (by decide) rfl rfl cfX4 (by decide) kFL_X4_11 dX4_givingWay_56 ?_
  refine lv_iload_n hx hb dX4_givingWay_59 rfl (lv_at hl 3 rfl) ?_
  have hv_2 := h.1
  have h := h.2
  refine s_aR g C hP 5 (t := 0) (by decide) rfl rfl hv_2 dX4_givingWay_60 ?_
  refine s_gI g C hP (9 + a2.toNatClampNeg) 5 (ltX_kite (vin_lt hv_2)) (shX_kite (vin_lt hv_2)) rfl cfX2 (by decide) kFL_X4_83 dX4_givingWay_61 ?_
  refine lv_icmp_le (tgt := 71) hx hb dX4_givingWay_64 (by decide) (fun c_3 => ?_) (fun c_3 => ?_)
  · have h := h.1 c_3
    refine lv_iconst (v := (nI 0)) hx hb dX4_givingWay_71 (by decide) ?_
    exact b_X4_givingWay_72 hi C  _ _ _ _ _ hP hS (lv_sub hl [2, 3, 4, 0] rfl) h
  · have h := h.2 c_3
    refine lv_iconst (v := (nI 1)) hx hb dX4_givingWay_67 (by decide) ?_
    refine lv_goto (tgt := 72) hx hb dX4_givingWay_68 (by decide) ?_
    exact b_X4_givingWay_72 hi C  _ _ _ _ _ hP hS (lv_sub hl [2, 3, 4, 0] rfl) h
def q_X4_givingWay (S : St) (a1 : Int32) (a2 : Int32) (a3 : Int32) (k : Int32 → Prop) : Prop := q_X4_isToldKite S a1 (fun r_1 => ((r_1 = (nI 0) → (k a2)) ∧ (¬ r_1 = (nI 0) → (q_X4_isToldKite S a2 (fun r_3 => ((r_3 = (nI 0) → (k a2)) ∧ (¬ r_3 = (nI 0) → (vp_in a1 6 ∧ (vp_in a2 6 ∧ (((S.1 (9 + a2.toNatClampNeg) 2) ≤ (S.1 (9 + a1.toNatClampNeg) 2) → (q_X4_givingWay_44 a1 a2 a3 S k (nI 0))) ∧ (¬ (S.1 (9 + a2.toNatClampNeg) 2) ≤ (S.1 (9 + a1.toNatClampNeg) 2) → (q_X4_givingWay_44 a1 a2 a3 S k (nI 1)))))))))))))
set_option maxRecDepth 100000 in
set_option maxHeartbeats 4000000 in
theorem c_X4_givingWay {l : Launch} {Z : ZT} (hi : injZ 68 Z) (S : St) (a1 : Int32) (a2 : Int32) (a3 : Int32) (k : Int32 → Prop) (h : q_X4_givingWay S a1 a2 a3 k) : Mi l shX 68 Z (gX Z) yX4_givingWay cX4_givingWay 7 (Option.some .int) (rmk 1 21) [.ref (Z.2.2.1 4), .int a1, .int a2, .int a3] S (fun r S' => S' = S ∧ k r) := by
  have g := gokX hi
  refine e_i (by decide) (Nat.le_of_ble_eq_true rfl) (lv := [(0, .ref (Z.2.2.1 4)), (1, .int a1), (2, .int a2), (3, .int a3)]) rfl (fun p e s m args below meth c C hP hS ls hl => ?_)
  have hx := C.1.1
  have hb := C.1.2.1
  unfold q_X4_givingWay at h
  refine lv_aload_n hx hb dX4_givingWay_0 rfl (lv_at hl 0 rfl) ?_
  refine lv_iload_n hx hb dX4_givingWay_1 rfl (lv_at hl 1 rfl) ?_
  refine go_ip (run_V g C hP hS (c0 := 4) (As := [.int a1]) (rest := []) (c_X4_isToldKite hi S a1 _ h) cal_X4_isToldKite kML_X4_118 (by decide) rfl cfX4 ⟨rfl, rfl, Nat.le_of_ble_eq_true rfl, Nat.le_of_ble_eq_true rfl⟩ rfl rfl hl.1 (Nat.le_of_ble_eq_true rfl) dX4_givingWay_2) hS (fun r_1 H locs h hP hS => ?_)
  obtain ⟨hbr_1, h⟩ := h
  refine lv_if_eq (tgt := 16) hx hb dX4_givingWay_5 (by decide) (fun c_2 => ?_) (fun c_2 => ?_)
  · have h := h.1 c_2
    refine lv_iload_n hx hb dX4_givingWay_16 rfl (lv_at hl 2 rfl) ?_
    exact s_ri C hP hS ⟨rfl, h⟩ dX4_givingWay_17
  · have h := h.2 c_2
    refine lv_aload_n hx hb dX4_givingWay_8 rfl (lv_at hl 0 rfl) ?_
    refine lv_iload_n hx hb dX4_givingWay_9 rfl (lv_at hl 2 rfl) ?_
    refine go_ip (run_V g C hP hS (c0 := 4) (As := [.int a2]) (rest := []) (c_X4_isToldKite hi S a2 _ h) cal_X4_isToldKite kML_X4_118 (by decide) rfl cfX4 ⟨rfl, rfl, Nat.le_of_ble_eq_true rfl, Nat.le_of_ble_eq_true rfl⟩ rfl rfl hl.1 (Nat.le_of_ble_eq_true rfl) dX4_givingWay_10) hS (fun r_3 H locs h hP hS => ?_)
    obtain ⟨hbr_3, h⟩ := h
    refine lv_if_ne (tgt := 18) hx hb dX4_givingWay_13 (by decide) (fun c_4 => ?_) (fun c_4 => ?_)
    · have h := h.2 c_4
      refine lv_aload_n hx hb dX4_givingWay_18 rfl (lv_at hl 0 rfl) ?_
      refine s_gR g C hP 4 0 5 (by decide) rfl rfl cfX4 (by decide) kFL_X4_11 dX4_givingWay_19 ?_
      refine lv_iload_n hx hb dX4_givingWay_22 rfl (lv_at hl 1 rfl) ?_
      have hv_5 := h.1
      have h := h.2
      refine s_aR g C hP 5 (t := 0) (by decide) rfl rfl hv_5 dX4_givingWay_23 ?_
      refine s_gI g C hP (9 + a1.toNatClampNeg) 2 (ltX_kite (vin_lt hv_5)) (shX_kite (vin_lt hv_5)) rfl cfX2 (by decide) kFL_X4_74 dX4_givingWay_24 ?_
      refine lv_aload_n hx hb dX4_givingWay_27 rfl (lv_at hl 0 rfl) ?_
      refine s_gR g C hP 4 0 5 (by decide) rfl rfl cfX4 (by decide) kFL_X4_11 dX4_givingWay_28 ?_
      refine lv_iload_n hx hb dX4_givingWay_31 rfl (lv_at hl 2 rfl) ?_
      have hv_6 := h.1
      have h := h.2
      refine s_aR g C hP 5 (t := 0) (by decide) rfl rfl hv_6 dX4_givingWay_32 ?_
      refine s_gI g C hP (9 + a2.toNatClampNeg) 2 (ltX_kite (vin_lt hv_6)) (shX_kite (vin_lt hv_6)) rfl cfX2 (by decide) kFL_X4_74 dX4_givingWay_33 ?_
      refine lv_icmp_ge (tgt := 43) hx hb dX4_givingWay_36 (by decide) (fun c_7 => ?_) (fun c_7 => ?_)
      · have h := h.1 c_7
        refine lv_iconst (v := (nI 0)) hx hb dX4_givingWay_43 (by decide) ?_
        exact b_X4_givingWay_44 hi C  _ _ _ _ hP hS (lv_sub hl [0, 1, 2, 3] rfl) h
      · have h := h.2 c_7
        refine lv_iconst (v := (nI 1)) hx hb dX4_givingWay_39 (by decide) ?_
        refine lv_goto (tgt := 44) hx hb dX4_givingWay_40 (by decide) ?_
        exact b_X4_givingWay_44 hi C  _ _ _ _ hP hS (lv_sub hl [0, 1, 2, 3] rfl) h
    · have h := h.1 c_4
      refine lv_iload_n hx hb dX4_givingWay_16 rfl (lv_at hl 2 rfl) ?_
      exact s_ri C hP hS ⟨rfl, h⟩ dX4_givingWay_17
def q_X4_afterGulls (S : St) (a1 : Int32) (k : Int32 → Prop) : Prop := ((S.1 4 7) ≤ (nI 0) → (k a1)) ∧ (¬ (S.1 4 7) ≤ (nI 0) → (¬ (S.1 4 7) = (nI 0) ∧ (k (a1 - (a1 / (S.1 4 7))))))
set_option maxRecDepth 100000 in
set_option maxHeartbeats 4000000 in
theorem c_X4_afterGulls {l : Launch} {Z : ZT} (hi : injZ 68 Z) (S : St) (a1 : Int32) (k : Int32 → Prop) (h : q_X4_afterGulls S a1 k) : Mi l shX 68 Z (gX Z) yX4_afterGulls cX4_afterGulls 2 (Option.some .int) (rmk 0 0) [.ref (Z.2.2.1 4), .int a1] S (fun r S' => S' = S ∧ k r) := by
  have g := gokX hi
  refine e_i (by decide) (Nat.le_of_ble_eq_true rfl) (lv := [(0, .ref (Z.2.2.1 4)), (1, .int a1)]) rfl (fun p e s m args below meth c C hP hS ls hl => ?_)
  have hx := C.1.1
  have hb := C.1.2.1
  unfold q_X4_afterGulls at h
  refine lv_aload_n hx hb dX4_afterGulls_0 rfl (lv_at hl 0 rfl) ?_
  refine s_gI g C hP 4 7 (by decide) rfl rfl cfX4 (by decide) kFL_X4_53 dX4_afterGulls_1 ?_
  refine lv_if_le (tgt := 18) hx hb dX4_afterGulls_4 (by decide) (fun c_1 => ?_) (fun c_1 => ?_)
  · have h := h.1 c_1
    refine lv_iload_n hx hb dX4_afterGulls_18 rfl (lv_at hl 1 rfl) ?_
    exact s_ri C hP hS ⟨rfl, h⟩ dX4_afterGulls_19
  · have h := h.2 c_1
    refine lv_iload_n hx hb dX4_afterGulls_7 rfl (lv_at hl 1 rfl) ?_
    refine lv_iload_n hx hb dX4_afterGulls_8 rfl (lv_at hl 1 rfl) ?_
    refine lv_aload_n hx hb dX4_afterGulls_9 rfl (lv_at hl 0 rfl) ?_
    refine s_gI g C hP 4 7 (by decide) rfl rfl cfX4 (by decide) kFL_X4_53 dX4_afterGulls_10 ?_
    have hn_2 := h.1
    have h := h.2
    refine lv_idiv hx hb dX4_afterGulls_13 hn_2 ?_
    refine lv_isub hx hb dX4_afterGulls_14 ?_
    refine lv_goto (tgt := 19) hx hb dX4_afterGulls_15 (by decide) ?_
    exact s_ri C hP hS ⟨rfl, h⟩ dX4_afterGulls_19
def q_X4_shareOf_163 (a1 : Int32) (a2 : Int32) (S : St) (k : Int32 → Prop) (e_82 : Int32 → Int32 → Int32 → Int32 → Int32 → Prop) (x3 : Int32) (x4 : Int32) (x5 : Int32) (x6 : Int32) (x7 : Int32) : Prop := ∀ x7_1 : Int32, x7_1 = x7 + (nI 1) → (e_82 x3 x4 x5 x6 x7_1)
set_option maxRecDepth 100000 in
set_option maxHeartbeats 4000000 in
theorem b_X4_shareOf_163 {p : Program} {l : Launch} {e : Env} {s : State} {m : MethodId} {args : Array Value} {below : List Frame} {meth : Method} {c : Code} {Z : ZT} (hi : injZ 68 Z) (C : Cxt (gX Z) p s m meth c args yX4_shareOf cX4_shareOf 9 (Option.some .int)) {a1 : Int32} {a2 : Int32} {S : St} {k : Int32 → Prop} {e_82 : Int32 → Int32 → Int32 → Int32 → Int32 → Prop}  (he_82 : ∀ (x3 : Int32) (x4 : Int32) (x5 : Int32) (x6 : Int32) (x7 : Int32) (H : Heap) (locs : List Loc) (ls : Array Slot), va_P Z.1 vwCl (wl shX 68 Z S) H → va_S (aa 68 Z) s.heap H locs → lv_has ls 9 [(0, .ref (Z.2.2.1 4)), (1, .int a1), (2, .int a2), (3, .int x3), (4, .int x4), (5, .int x5), (6, .int x6), (7, .int x7)] → e_82 x3 x4 x5 x6 x7 → W p l e (rmk 1 21) s m args below meth c H locs 0 0 (Qi below shX 68 Z args s (fun r S' => S' = S ∧ k r)) (F0 m 82 ls [])) (x3 : Int32) (x4 : Int32) (x5 : Int32) (x6 : Int32) (x7 : Int32) (H : Heap) (locs : List Loc) (ls : Array Slot) (hP : va_P Z.1 vwCl (wl shX 68 Z S) H) (hS : va_S (aa 68 Z) s.heap H locs) (hl : lv_has ls 9 [(0, .ref (Z.2.2.1 4)), (1, .int a1), (2, .int a2), (3, .int x3), (4, .int x4), (5, .int x5), (6, .int x6), (7, .int x7)]) (h : q_X4_shareOf_163 a1 a2 S k e_82 x3 x4 x5 x6 x7) : W p l e (rmk 1 21) s m args below meth c H locs 0 0 (Qi below shX 68 Z args s (fun r S' => S' = S ∧ k r)) (F0 m 163 ls []) := by
  have g := gokX hi
  have hx := C.1.1
  have hb := C.1.2.1
  unfold q_X4_shareOf_163 at h
  obtain ⟨x7_1, ex7_1⟩ : ∃ y_ : Int32, y_ = x7 + (nI 1) := ⟨_, rfl⟩
  have h := h x7_1 ex7_1
  refine lv_iinc (v := x7_1) (lv' := [(7, .int x7_1), (0, .ref (Z.2.2.1 4)), (1, .int a1), (2, .int a2), (3, .int x3), (4, .int x4), (5, .int x5), (6, .int x6)]) hx hb dX4_shareOf_163 hl (k := 7) rfl (by rw [ex7_1]; rfl) (by decide) rfl (fun ls hl => ?_)
  refine lv_goto (tgt := 82) hx hb dX4_shareOf_166 (by decide) ?_
  exact he_82 _ _ _ _ _ _ _ _ hP hS (lv_sub hl [1, 2, 3, 4, 5, 6, 7, 0] rfl) h
def q_X4_shareOf_160 (a1 : Int32) (a2 : Int32) (S : St) (k : Int32 → Prop) (e_82 : Int32 → Int32 → Int32 → Int32 → Int32 → Prop) (x3 : Int32) (x4 : Int32) (x5 : Int32) (x7 : Int32) (t0 : Int32) (t1 : Int32) : Prop := ∀ x6_1 : Int32, x6_1 = (t1 + t0) → (q_X4_shareOf_163 a1 a2 S k e_82 x3 x4 x5 x6_1 x7)
set_option maxRecDepth 100000 in
set_option maxHeartbeats 4000000 in
theorem b_X4_shareOf_160 {p : Program} {l : Launch} {e : Env} {s : State} {m : MethodId} {args : Array Value} {below : List Frame} {meth : Method} {c : Code} {Z : ZT} (hi : injZ 68 Z) (C : Cxt (gX Z) p s m meth c args yX4_shareOf cX4_shareOf 9 (Option.some .int)) {a1 : Int32} {a2 : Int32} {S : St} {k : Int32 → Prop} {e_82 : Int32 → Int32 → Int32 → Int32 → Int32 → Prop}  (he_82 : ∀ (x3 : Int32) (x4 : Int32) (x5 : Int32) (x6 : Int32) (x7 : Int32) (H : Heap) (locs : List Loc) (ls : Array Slot), va_P Z.1 vwCl (wl shX 68 Z S) H → va_S (aa 68 Z) s.heap H locs → lv_has ls 9 [(0, .ref (Z.2.2.1 4)), (1, .int a1), (2, .int a2), (3, .int x3), (4, .int x4), (5, .int x5), (6, .int x6), (7, .int x7)] → e_82 x3 x4 x5 x6 x7 → W p l e (rmk 1 21) s m args below meth c H locs 0 0 (Qi below shX 68 Z args s (fun r S' => S' = S ∧ k r)) (F0 m 82 ls [])) (x3 : Int32) (x4 : Int32) (x5 : Int32) (x7 : Int32) (t0 : Int32) (t1 : Int32) (H : Heap) (locs : List Loc) (ls : Array Slot) (hP : va_P Z.1 vwCl (wl shX 68 Z S) H) (hS : va_S (aa 68 Z) s.heap H locs) (hl : lv_has ls 9 [(0, .ref (Z.2.2.1 4)), (1, .int a1), (2, .int a2), (3, .int x3), (4, .int x4), (5, .int x5), (7, .int x7)]) (h : q_X4_shareOf_160 a1 a2 S k e_82 x3 x4 x5 x7 t0 t1) : W p l e (rmk 1 21) s m args below meth c H locs 0 0 (Qi below shX 68 Z args s (fun r S' => S' = S ∧ k r)) (F0 m 160 ls [.int t0, .int t1]) := by
  have g := gokX hi
  have hx := C.1.1
  have hb := C.1.2.1
  unfold q_X4_shareOf_160 at h
  refine lv_iadd hx hb dX4_shareOf_160 ?_
  refine lv_topi (fun x6_1 ex6_1 => ?_)
  have h := h x6_1 ex6_1
  refine lv_istore (lv' := [(6, .int x6_1), (0, .ref (Z.2.2.1 4)), (1, .int a1), (2, .int a2), (3, .int x3), (4, .int x4), (5, .int x5), (7, .int x7)]) hx hb dX4_shareOf_161 hl (by decide) rfl (fun ls hl => ?_)
  exact b_X4_shareOf_163 hi C he_82 _ _ _ _ _ _ _ _ hP hS (lv_sub hl [1, 2, 3, 4, 5, 6, 0, 7] rfl) h
def q_X4_shareOf_155 (a1 : Int32) (a2 : Int32) (S : St) (k : Int32 → Prop) (e_82 : Int32 → Int32 → Int32 → Int32 → Int32 → Prop) (x3 : Int32) (x4 : Int32) (x5 : Int32) (x7 : Int32) (t0 : Int32) : Prop := q_X4_shareOf_160 a1 a2 S k e_82 x3 x4 x5 x7 (nI 1) t0
set_option maxRecDepth 100000 in
set_option maxHeartbeats 4000000 in
theorem b_X4_shareOf_155 {p : Program} {l : Launch} {e : Env} {s : State} {m : MethodId} {args : Array Value} {below : List Frame} {meth : Method} {c : Code} {Z : ZT} (hi : injZ 68 Z) (C : Cxt (gX Z) p s m meth c args yX4_shareOf cX4_shareOf 9 (Option.some .int)) {a1 : Int32} {a2 : Int32} {S : St} {k : Int32 → Prop} {e_82 : Int32 → Int32 → Int32 → Int32 → Int32 → Prop}  (he_82 : ∀ (x3 : Int32) (x4 : Int32) (x5 : Int32) (x6 : Int32) (x7 : Int32) (H : Heap) (locs : List Loc) (ls : Array Slot), va_P Z.1 vwCl (wl shX 68 Z S) H → va_S (aa 68 Z) s.heap H locs → lv_has ls 9 [(0, .ref (Z.2.2.1 4)), (1, .int a1), (2, .int a2), (3, .int x3), (4, .int x4), (5, .int x5), (6, .int x6), (7, .int x7)] → e_82 x3 x4 x5 x6 x7 → W p l e (rmk 1 21) s m args below meth c H locs 0 0 (Qi below shX 68 Z args s (fun r S' => S' = S ∧ k r)) (F0 m 82 ls [])) (x3 : Int32) (x4 : Int32) (x5 : Int32) (x7 : Int32) (t0 : Int32) (H : Heap) (locs : List Loc) (ls : Array Slot) (hP : va_P Z.1 vwCl (wl shX 68 Z S) H) (hS : va_S (aa 68 Z) s.heap H locs) (hl : lv_has ls 9 [(0, .ref (Z.2.2.1 4)), (1, .int a1), (2, .int a2), (3, .int x3), (4, .int x4), (5, .int x5), (7, .int x7)]) (h : q_X4_shareOf_155 a1 a2 S k e_82 x3 x4 x5 x7 t0) : W p l e (rmk 1 21) s m args below meth c H locs 0 0 (Qi below shX 68 Z args s (fun r S' => S' = S ∧ k r)) (F0 m 155 ls [.int t0]) := by
  have g := gokX hi
  have hx := C.1.1
  have hb := C.1.2.1
  unfold q_X4_shareOf_155 at h
  refine lv_iconst (v := (nI 1)) hx hb dX4_shareOf_155 (by decide) ?_
  refine lv_goto (tgt := 160) hx hb dX4_shareOf_156 (by decide) ?_
  exact b_X4_shareOf_160 hi C he_82 _ _ _ _ _ _ _ _ _ hP hS (lv_sub hl [0, 1, 2, 3, 4, 5, 6] rfl) h
def q_X4_shareOf_159 (a1 : Int32) (a2 : Int32) (S : St) (k : Int32 → Prop) (e_82 : Int32 → Int32 → Int32 → Int32 → Int32 → Prop) (x3 : Int32) (x4 : Int32) (x5 : Int32) (x7 : Int32) (t0 : Int32) : Prop := q_X4_shareOf_160 a1 a2 S k e_82 x3 x4 x5 x7 (nI 0) t0
set_option maxRecDepth 100000 in
set_option maxHeartbeats 4000000 in
theorem b_X4_shareOf_159 {p : Program} {l : Launch} {e : Env} {s : State} {m : MethodId} {args : Array Value} {below : List Frame} {meth : Method} {c : Code} {Z : ZT} (hi : injZ 68 Z) (C : Cxt (gX Z) p s m meth c args yX4_shareOf cX4_shareOf 9 (Option.some .int)) {a1 : Int32} {a2 : Int32} {S : St} {k : Int32 → Prop} {e_82 : Int32 → Int32 → Int32 → Int32 → Int32 → Prop}  (he_82 : ∀ (x3 : Int32) (x4 : Int32) (x5 : Int32) (x6 : Int32) (x7 : Int32) (H : Heap) (locs : List Loc) (ls : Array Slot), va_P Z.1 vwCl (wl shX 68 Z S) H → va_S (aa 68 Z) s.heap H locs → lv_has ls 9 [(0, .ref (Z.2.2.1 4)), (1, .int a1), (2, .int a2), (3, .int x3), (4, .int x4), (5, .int x5), (6, .int x6), (7, .int x7)] → e_82 x3 x4 x5 x6 x7 → W p l e (rmk 1 21) s m args below meth c H locs 0 0 (Qi below shX 68 Z args s (fun r S' => S' = S ∧ k r)) (F0 m 82 ls [])) (x3 : Int32) (x4 : Int32) (x5 : Int32) (x7 : Int32) (t0 : Int32) (H : Heap) (locs : List Loc) (ls : Array Slot) (hP : va_P Z.1 vwCl (wl shX 68 Z S) H) (hS : va_S (aa 68 Z) s.heap H locs) (hl : lv_has ls 9 [(0, .ref (Z.2.2.1 4)), (1, .int a1), (2, .int a2), (3, .int x3), (4, .int x4), (5, .int x5), (7, .int x7)]) (h : q_X4_shareOf_159 a1 a2 S k e_82 x3 x4 x5 x7 t0) : W p l e (rmk 1 21) s m args below meth c H locs 0 0 (Qi below shX 68 Z args s (fun r S' => S' = S ∧ k r)) (F0 m 159 ls [.int t0]) := by
  have g := gokX hi
  have hx := C.1.1
  have hb := C.1.2.1
  unfold q_X4_shareOf_159 at h
  refine lv_iconst (v := (nI 0)) hx hb dX4_shareOf_159 (by decide) ?_
  exact b_X4_shareOf_160 hi C he_82 _ _ _ _ _ _ _ _ _ hP hS (lv_sub hl [0, 1, 2, 3, 4, 5, 6] rfl) h
def q_X4_shareOf_82 (a1 : Int32) (a2 : Int32) (S : St) (k : Int32 → Prop) : Nat → Int32 → Int32 → Int32 → Int32 → Int32 → Prop := fun n_ => Nat.rec (motive := fun _ => Int32 → Int32 → Int32 → Int32 → Int32 → Prop) (fun _ _ _ _ _ => False) (fun _ ih => fun x3 x4 x5 x6 x7 => ((nI 6) ≤ x7 → (vp_in a2 6 ∧ (¬ x3 = (nI 0) ∧ ((x5 ≤ x6 → (k (((a1 * (S.1 (9 + a2.toNatClampNeg) 3)) / x3) + (nI 0)))) ∧ (¬ x5 ≤ x6 → (k (((a1 * (S.1 (9 + a2.toNatClampNeg) 3)) / x3) + (nI 1)))))))) ∧ (¬ (nI 6) ≤ x7 → (q_X4_isToldKite S x7 (fun r_5 => ((r_5 = (nI 0) → (q_X4_shareOf_163 a1 a2 S k ih x3 x4 x5 x6 x7)) ∧ (¬ r_5 = (nI 0) → (vp_in x7 6 ∧ (¬ x3 = (nI 0) ∧ (∀ x8_9 : Int32, x8_9 = ((a1 * (S.1 (9 + x7.toNatClampNeg) 3)) - (a1 * (S.1 (9 + x7.toNatClampNeg) 3)) / x3 * x3) → (vp_in x7 6 ∧ (¬ x3 = (nI 0) ∧ (∀ x5_12 : Int32, x5_12 = (x5 - ((a1 * (S.1 (9 + x7.toNatClampNeg) 3)) / x3)) → ((x4 < x8_9 → (q_X4_shareOf_155 a1 a2 S k ih x3 x4 x5_12 x7 x6)) ∧ (¬ x4 < x8_9 → ((x8_9 = x4 → ((a2 ≤ x7 → (q_X4_shareOf_159 a1 a2 S k ih x3 x4 x5_12 x7 x6)) ∧ (¬ a2 ≤ x7 → (q_X4_shareOf_155 a1 a2 S k ih x3 x4 x5_12 x7 x6)))) ∧ (¬ x8_9 = x4 → (q_X4_shareOf_159 a1 a2 S k ih x3 x4 x5_12 x7 x6))))))))))))))))) n_
theorem q_X4_shareOf_82_s (a1 : Int32) (a2 : Int32) (S : St) (k : Int32 → Prop) (n_ : Nat) (x3 : Int32) (x4 : Int32) (x5 : Int32) (x6 : Int32) (x7 : Int32) : q_X4_shareOf_82 a1 a2 S k (n_ + 1) x3 x4 x5 x6 x7 = (((nI 6) ≤ x7 → (vp_in a2 6 ∧ (¬ x3 = (nI 0) ∧ ((x5 ≤ x6 → (k (((a1 * (S.1 (9 + a2.toNatClampNeg) 3)) / x3) + (nI 0)))) ∧ (¬ x5 ≤ x6 → (k (((a1 * (S.1 (9 + a2.toNatClampNeg) 3)) / x3) + (nI 1)))))))) ∧ (¬ (nI 6) ≤ x7 → (q_X4_isToldKite S x7 (fun r_5 => ((r_5 = (nI 0) → (q_X4_shareOf_163 a1 a2 S k (q_X4_shareOf_82 a1 a2 S k n_) x3 x4 x5 x6 x7)) ∧ (¬ r_5 = (nI 0) → (vp_in x7 6 ∧ (¬ x3 = (nI 0) ∧ (∀ x8_9 : Int32, x8_9 = ((a1 * (S.1 (9 + x7.toNatClampNeg) 3)) - (a1 * (S.1 (9 + x7.toNatClampNeg) 3)) / x3 * x3) → (vp_in x7 6 ∧ (¬ x3 = (nI 0) ∧ (∀ x5_12 : Int32, x5_12 = (x5 - ((a1 * (S.1 (9 + x7.toNatClampNeg) 3)) / x3)) → ((x4 < x8_9 → (q_X4_shareOf_155 a1 a2 S k (q_X4_shareOf_82 a1 a2 S k n_) x3 x4 x5_12 x7 x6)) ∧ (¬ x4 < x8_9 → ((x8_9 = x4 → ((a2 ≤ x7 → (q_X4_shareOf_159 a1 a2 S k (q_X4_shareOf_82 a1 a2 S k n_) x3 x4 x5_12 x7 x6)) ∧ (¬ a2 ≤ x7 → (q_X4_shareOf_155 a1 a2 S k (q_X4_shareOf_82 a1 a2 S k n_) x3 x4 x5_12 x7 x6)))) ∧ (¬ x8_9 = x4 → (q_X4_shareOf_159 a1 a2 S k (q_X4_shareOf_82 a1 a2 S k n_) x3 x4 x5_12 x7 x6))))))))))))))))) := rfl
set_option maxRecDepth 100000 in
set_option maxHeartbeats 4000000 in
theorem b_X4_shareOf_82 {p : Program} {l : Launch} {e : Env} {s : State} {m : MethodId} {args : Array Value} {below : List Frame} {meth : Method} {c : Code} {Z : ZT} (hi : injZ 68 Z) (C : Cxt (gX Z) p s m meth c args yX4_shareOf cX4_shareOf 9 (Option.some .int)) {a1 : Int32} {a2 : Int32} {S : St} {k : Int32 → Prop}   : ∀ (n_ : Nat) (x3 : Int32) (x4 : Int32) (x5 : Int32) (x6 : Int32) (x7 : Int32) (H : Heap) (locs : List Loc) (ls : Array Slot), va_P Z.1 vwCl (wl shX 68 Z S) H → va_S (aa 68 Z) s.heap H locs → lv_has ls 9 [(0, .ref (Z.2.2.1 4)), (1, .int a1), (2, .int a2), (3, .int x3), (4, .int x4), (5, .int x5), (6, .int x6), (7, .int x7)] → q_X4_shareOf_82 a1 a2 S k n_ x3 x4 x5 x6 x7 → W p l e (rmk 1 21) s m args below meth c H locs 0 0 (Qi below shX 68 Z args s (fun r S' => S' = S ∧ k r)) (F0 m 82 ls []) := by
  have g := gokX hi
  have hx := C.1.1
  have hb := C.1.2.1
  intro n_
  induction n_ with
  | zero => intro x3 x4 x5 x6 x7 H locs ls hP hS hl h; exact h.elim
  | succ n_ ih =>
    intro x3 x4 x5 x6 x7 H locs ls hP hS hl h
    rw [q_X4_shareOf_82_s] at h
    refine lv_iload hx hb dX4_shareOf_82 (lv_at hl 7 rfl) ?_
    refine lv_bipush (v := (nI 6)) hx hb dX4_shareOf_84 (by decide) ?_
    refine lv_icmp_ge (tgt := 169) hx hb dX4_shareOf_86 (by decide) (fun c_1 => ?_) (fun c_1 => ?_)
    · have h := h.1 c_1
      refine lv_iload_n hx hb dX4_shareOf_169 rfl (lv_at hl 1 rfl) ?_
      refine lv_aload_n hx hb dX4_shareOf_170 rfl (lv_at hl 0 rfl) ?_
      refine s_gR g C hP 4 0 5 (by decide) rfl rfl cfX4 (by decide) kFL_X4_11 dX4_shareOf_171 ?_
      refine lv_iload_n hx hb dX4_shareOf_174 rfl (lv_at hl 2 rfl) ?_
      have hv_2 := h.1
      have h := h.2
      refine s_aR g C hP 5 (t := 0) (by decide) rfl rfl hv_2 dX4_shareOf_175 ?_
      refine s_gI g C hP (9 + a2.toNatClampNeg) 3 (ltX_kite (vin_lt hv_2)) (shX_kite (vin_lt hv_2)) rfl cfX2 (by decide) kFL_X4_77 dX4_shareOf_176 ?_
      refine lv_imul hx hb dX4_shareOf_179 ?_
      refine lv_iload_n hx hb dX4_shareOf_180 rfl (lv_at hl 3 rfl) ?_
      have hn_3 := h.1
      have h := h.2
      refine lv_idiv hx hb dX4_shareOf_181 hn_3 ?_
      refine lv_iload hx hb dX4_shareOf_182 (lv_at hl 6 rfl) ?_
      refine lv_iload hx hb dX4_shareOf_184 (lv_at hl 5 rfl) ?_
      refine lv_icmp_ge (tgt := 193) hx hb dX4_shareOf_186 (by decide) (fun c_4 => ?_) (fun c_4 => ?_)
      · have h := h.1 c_4
        refine lv_iconst (v := (nI 0)) hx hb dX4_shareOf_193 (by decide) ?_
        refine lv_iadd hx hb dX4_shareOf_194 ?_
        exact s_ri C hP hS ⟨rfl, h⟩ dX4_shareOf_195
      · have h := h.2 c_4
        refine lv_iconst (v := (nI 1)) hx hb dX4_shareOf_189 (by decide) ?_
        refine lv_goto (tgt := 194) hx hb dX4_shareOf_190 (by decide) ?_
        refine lv_iadd hx hb dX4_shareOf_194 ?_
        exact s_ri C hP hS ⟨rfl, h⟩ dX4_shareOf_195
    · have h := h.2 c_1
      refine lv_aload_n hx hb dX4_shareOf_89 rfl (lv_at hl 0 rfl) ?_
      refine lv_iload hx hb dX4_shareOf_90 (lv_at hl 7 rfl) ?_
      refine go_ip (run_V g C hP hS (c0 := 4) (As := [.int x7]) (rest := []) (c_X4_isToldKite hi S x7 _ h) cal_X4_isToldKite kML_X4_118 (by decide) rfl cfX4 ⟨rfl, rfl, Nat.le_of_ble_eq_true rfl, Nat.le_of_ble_eq_true rfl⟩ rfl rfl hl.1 (Nat.le_of_ble_eq_true rfl) dX4_shareOf_92) hS (fun r_5 H locs h hP hS => ?_)
      obtain ⟨hbr_5, h⟩ := h
      refine lv_if_eq (tgt := 163) hx hb dX4_shareOf_95 (by decide) (fun c_6 => ?_) (fun c_6 => ?_)
      · have h := h.1 c_6
        exact b_X4_shareOf_163 hi C ih _ _ _ _ _ _ _ _ hP hS (lv_sub hl [0, 1, 2, 3, 4, 5, 6, 7] rfl) h
      · have h := h.2 c_6
        refine lv_iload_n hx hb dX4_shareOf_98 rfl (lv_at hl 1 rfl) ?_
        refine lv_aload_n hx hb dX4_shareOf_99 rfl (lv_at hl 0 rfl) ?_
        refine s_gR g C hP 4 0 5 (by decide) rfl rfl cfX4 (by decide) kFL_X4_11 dX4_shareOf_100 ?_
        refine lv_iload hx hb dX4_shareOf_103 (lv_at hl 7 rfl) ?_
        have hv_7 := h.1
        have h := h.2
        refine s_aR g C hP 5 (t := 0) (by decide) rfl rfl hv_7 dX4_shareOf_105 ?_
        refine s_gI g C hP (9 + x7.toNatClampNeg) 3 (ltX_kite (vin_lt hv_7)) (shX_kite (vin_lt hv_7)) rfl cfX2 (by decide) kFL_X4_77 dX4_shareOf_106 ?_
        refine lv_imul hx hb dX4_shareOf_109 ?_
        refine lv_iload_n hx hb dX4_shareOf_110 rfl (lv_at hl 3 rfl) ?_
        have hn_8 := h.1
        have h := h.2
        refine lv_irem hx hb dX4_shareOf_111 hn_8 ?_
        refine lv_topi (fun x8_9 ex8_9 => ?_)
        have h := h x8_9 ex8_9
        refine lv_istore (lv' := [(8, .int x8_9), (0, .ref (Z.2.2.1 4)), (1, .int a1), (2, .int a2), (3, .int x3), (4, .int x4), (5, .int x5), (6, .int x6), (7, .int x7)]) hx hb dX4_shareOf_112 hl (by decide) rfl (fun ls hl => ?_)
        refine lv_iload hx hb dX4_shareOf_114 (lv_at hl 6 rfl) ?_
        refine lv_iload_n hx hb dX4_shareOf_116 rfl (lv_at hl 2 rfl) ?_
        refine lv_aload_n hx hb dX4_shareOf_117 rfl (lv_at hl 1 rfl) ?_
        refine s_gR g C hP 4 0 5 (by decide) rfl rfl cfX4 (by decide) kFL_X4_11 dX4_shareOf_118 ?_
        refine lv_iload hx hb dX4_shareOf_121 (lv_at hl 8 rfl) ?_
        have hv_10 := h.1
        have h := h.2
        refine s_aR g C hP 5 (t := 0) (by decide) rfl rfl hv_10 dX4_shareOf_123 ?_
        refine s_gI g C hP (9 + x7.toNatClampNeg) 3 (ltX_kite (vin_lt hv_10)) (shX_kite (vin_lt hv_10)) rfl cfX2 (by decide) kFL_X4_77 dX4_shareOf_124 ?_
        refine lv_imul hx hb dX4_shareOf_127 ?_
        refine lv_iload_n hx hb dX4_shareOf_128 rfl (lv_at hl 4 rfl) ?_
        have hn_11 := h.1
        have h := h.2
        refine lv_idiv hx hb dX4_shareOf_129 hn_11 ?_
        refine lv_isub hx hb dX4_shareOf_130 ?_
        refine lv_topi (fun x5_12 ex5_12 => ?_)
        have h := h x5_12 ex5_12
        refine lv_istore (lv' := [(5, .int x5_12), (8, .int x8_9), (0, .ref (Z.2.2.1 4)), (1, .int a1), (2, .int a2), (3, .int x3), (4, .int x4), (6, .int x6), (7, .int x7)]) hx hb dX4_shareOf_131 hl (by decide) rfl (fun ls hl => ?_)
        refine lv_iload hx hb dX4_shareOf_133 (lv_at hl 7 rfl) ?_
        refine lv_iload hx hb dX4_shareOf_135 (lv_at hl 1 rfl) ?_
        refine lv_iload hx hb dX4_shareOf_137 (lv_at hl 6 rfl) ?_
        refine lv_icmp_gt (tgt := 155) hx hb dX4_shareOf_139 (by decide) (fun c_13 => ?_) (fun c_13 => ?_)
        · have h := h.1 c_13
          exact b_X4_shareOf_155 hi C ih _ _ _ _ _ _ _ _ hP hS (lv_sub hl [2, 3, 4, 5, 6, 0, 8] rfl) h
        · have h := h.2 c_13
          refine lv_iload hx hb dX4_shareOf_142 (lv_at hl 1 rfl) ?_
          refine lv_iload hx hb dX4_shareOf_144 (lv_at hl 6 rfl) ?_
          refine lv_icmp_ne (tgt := 159) hx hb dX4_shareOf_146 (by decide) (fun c_14 => ?_) (fun c_14 => ?_)
          · have h := h.2 c_14
            exact b_X4_shareOf_159 hi C ih _ _ _ _ _ _ _ _ hP hS (lv_sub hl [2, 3, 4, 5, 6, 0, 8] rfl) h
          · have h := h.1 c_14
            refine lv_iload hx hb dX4_shareOf_149 (lv_at hl 8 rfl) ?_
            refine lv_iload_n hx hb dX4_shareOf_151 rfl (lv_at hl 4 rfl) ?_
            refine lv_icmp_ge (tgt := 159) hx hb dX4_shareOf_152 (by decide) (fun c_15 => ?_) (fun c_15 => ?_)
            · have h := h.1 c_15
              exact b_X4_shareOf_159 hi C ih _ _ _ _ _ _ _ _ hP hS (lv_sub hl [2, 3, 4, 5, 6, 0, 8] rfl) h
            · have h := h.2 c_15
              exact b_X4_shareOf_155 hi C ih _ _ _ _ _ _ _ _ hP hS (lv_sub hl [2, 3, 4, 5, 6, 0, 8] rfl) h
def q_X4_shareOf_36 (a1 : Int32) (a2 : Int32) (S : St) (k : Int32 → Prop) (e_5 : Int32 → Int32 → Prop) (x4 : Int32) (t0 : Int32) (t1 : Int32) : Prop := ∀ x3_1 : Int32, x3_1 = (t1 + t0) → (∀ x4_2 : Int32, x4_2 = x4 + (nI 1) → (e_5 x3_1 x4_2))
set_option maxRecDepth 100000 in
set_option maxHeartbeats 4000000 in
theorem b_X4_shareOf_36 {p : Program} {l : Launch} {e : Env} {s : State} {m : MethodId} {args : Array Value} {below : List Frame} {meth : Method} {c : Code} {Z : ZT} (hi : injZ 68 Z) (C : Cxt (gX Z) p s m meth c args yX4_shareOf cX4_shareOf 9 (Option.some .int)) {a1 : Int32} {a2 : Int32} {S : St} {k : Int32 → Prop} {e_5 : Int32 → Int32 → Prop}  (he_5 : ∀ (x3 : Int32) (x4 : Int32) (H : Heap) (locs : List Loc) (ls : Array Slot), va_P Z.1 vwCl (wl shX 68 Z S) H → va_S (aa 68 Z) s.heap H locs → lv_has ls 9 [(0, .ref (Z.2.2.1 4)), (1, .int a1), (2, .int a2), (3, .int x3), (4, .int x4)] → e_5 x3 x4 → W p l e (rmk 1 21) s m args below meth c H locs 0 0 (Qi below shX 68 Z args s (fun r S' => S' = S ∧ k r)) (F0 m 5 ls [])) (x4 : Int32) (t0 : Int32) (t1 : Int32) (H : Heap) (locs : List Loc) (ls : Array Slot) (hP : va_P Z.1 vwCl (wl shX 68 Z S) H) (hS : va_S (aa 68 Z) s.heap H locs) (hl : lv_has ls 9 [(0, .ref (Z.2.2.1 4)), (1, .int a1), (2, .int a2), (4, .int x4)]) (h : q_X4_shareOf_36 a1 a2 S k e_5 x4 t0 t1) : W p l e (rmk 1 21) s m args below meth c H locs 0 0 (Qi below shX 68 Z args s (fun r S' => S' = S ∧ k r)) (F0 m 36 ls [.int t0, .int t1]) := by
  have g := gokX hi
  have hx := C.1.1
  have hb := C.1.2.1
  unfold q_X4_shareOf_36 at h
  refine lv_iadd hx hb dX4_shareOf_36 ?_
  refine lv_topi (fun x3_1 ex3_1 => ?_)
  have h := h x3_1 ex3_1
  refine lv_istore_n (lv' := [(3, .int x3_1), (0, .ref (Z.2.2.1 4)), (1, .int a1), (2, .int a2), (4, .int x4)]) hx hb dX4_shareOf_37 rfl hl (by decide) rfl (fun ls hl => ?_)
  obtain ⟨x4_2, ex4_2⟩ : ∃ y_ : Int32, y_ = x4 + (nI 1) := ⟨_, rfl⟩
  have h := h x4_2 ex4_2
  refine lv_iinc (v := x4_2) (lv' := [(4, .int x4_2), (3, .int x3_1), (0, .ref (Z.2.2.1 4)), (1, .int a1), (2, .int a2)]) hx hb dX4_shareOf_38 hl (k := 4) rfl (by rw [ex4_2]; rfl) (by decide) rfl (fun ls hl => ?_)
  refine lv_goto (tgt := 5) hx hb dX4_shareOf_41 (by decide) ?_
  exact he_5 _ _ _ _ _ hP hS (lv_sub hl [2, 3, 4, 1, 0] rfl) h
def q_X4_shareOf_5 (a1 : Int32) (a2 : Int32) (S : St) (k : Int32 → Prop) : Nat → Int32 → Int32 → Prop := fun n_ => Nat.rec (motive := fun _ => Int32 → Int32 → Prop) (fun _ _ => False) (fun _ ih => fun x3 x4 => ((nI 6) ≤ x4 → ((x3 ≤ (nI 0) → (k (nI 0))) ∧ (¬ x3 ≤ (nI 0) → (q_X4_isToldKite S a2 (fun r_3 => ((r_3 = (nI 0) → (k (nI 0))) ∧ (¬ r_3 = (nI 0) → (vp_in a2 6 ∧ (¬ x3 = (nI 0) ∧ (∀ x4_7 : Int32, x4_7 = ((a1 * (S.1 (9 + a2.toNatClampNeg) 3)) - (a1 * (S.1 (9 + a2.toNatClampNeg) 3)) / x3 * x3) → (∃ f_82, q_X4_shareOf_82 a1 a2 S k f_82 x3 x4_7 a1 (nI 0) (nI 0)))))))))))) ∧ (¬ (nI 6) ≤ x4 → (q_X4_isToldKite S x4 (fun r_8 => ((r_8 = (nI 0) → (q_X4_shareOf_36 a1 a2 S k ih x4 (nI 0) x3)) ∧ (¬ r_8 = (nI 0) → (vp_in x4 6 ∧ (q_X4_shareOf_36 a1 a2 S k ih x4 (S.1 (9 + x4.toNatClampNeg) 3) x3)))))))) n_
theorem q_X4_shareOf_5_s (a1 : Int32) (a2 : Int32) (S : St) (k : Int32 → Prop) (n_ : Nat) (x3 : Int32) (x4 : Int32) : q_X4_shareOf_5 a1 a2 S k (n_ + 1) x3 x4 = (((nI 6) ≤ x4 → ((x3 ≤ (nI 0) → (k (nI 0))) ∧ (¬ x3 ≤ (nI 0) → (q_X4_isToldKite S a2 (fun r_3 => ((r_3 = (nI 0) → (k (nI 0))) ∧ (¬ r_3 = (nI 0) → (vp_in a2 6 ∧ (¬ x3 = (nI 0) ∧ (∀ x4_7 : Int32, x4_7 = ((a1 * (S.1 (9 + a2.toNatClampNeg) 3)) - (a1 * (S.1 (9 + a2.toNatClampNeg) 3)) / x3 * x3) → (∃ f_82, q_X4_shareOf_82 a1 a2 S k f_82 x3 x4_7 a1 (nI 0) (nI 0)))))))))))) ∧ (¬ (nI 6) ≤ x4 → (q_X4_isToldKite S x4 (fun r_8 => ((r_8 = (nI 0) → (q_X4_shareOf_36 a1 a2 S k (q_X4_shareOf_5 a1 a2 S k n_) x4 (nI 0) x3)) ∧ (¬ r_8 = (nI 0) → (vp_in x4 6 ∧ (q_X4_shareOf_36 a1 a2 S k (q_X4_shareOf_5 a1 a2 S k n_) x4 (S.1 (9 + x4.toNatClampNeg) 3) x3)))))))) := rfl
set_option maxRecDepth 100000 in
set_option maxHeartbeats 4000000 in
theorem b_X4_shareOf_5 {p : Program} {l : Launch} {e : Env} {s : State} {m : MethodId} {args : Array Value} {below : List Frame} {meth : Method} {c : Code} {Z : ZT} (hi : injZ 68 Z) (C : Cxt (gX Z) p s m meth c args yX4_shareOf cX4_shareOf 9 (Option.some .int)) {a1 : Int32} {a2 : Int32} {S : St} {k : Int32 → Prop}   : ∀ (n_ : Nat) (x3 : Int32) (x4 : Int32) (H : Heap) (locs : List Loc) (ls : Array Slot), va_P Z.1 vwCl (wl shX 68 Z S) H → va_S (aa 68 Z) s.heap H locs → lv_has ls 9 [(0, .ref (Z.2.2.1 4)), (1, .int a1), (2, .int a2), (3, .int x3), (4, .int x4)] → q_X4_shareOf_5 a1 a2 S k n_ x3 x4 → W p l e (rmk 1 21) s m args below meth c H locs 0 0 (Qi below shX 68 Z args s (fun r S' => S' = S ∧ k r)) (F0 m 5 ls []) := by
  have g := gokX hi
  have hx := C.1.1
  have hb := C.1.2.1
  intro n_
  induction n_ with
  | zero => intro x3 x4 H locs ls hP hS hl h; exact h.elim
  | succ n_ ih =>
    intro x3 x4 H locs ls hP hS hl h
    rw [q_X4_shareOf_5_s] at h
    refine lv_iload hx hb dX4_shareOf_5 (lv_at hl 4 rfl) ?_
    refine lv_bipush (v := (nI 6)) hx hb dX4_shareOf_7 (by decide) ?_
    refine lv_icmp_ge (tgt := 44) hx hb dX4_shareOf_9 (by decide) (fun c_1 => ?_) (fun c_1 => ?_)
    · have h := h.1 c_1
      refine lv_iload_n hx hb dX4_shareOf_44 rfl (lv_at hl 3 rfl) ?_
      refine lv_if_le (tgt := 56) hx hb dX4_shareOf_45 (by decide) (fun c_2 => ?_) (fun c_2 => ?_)
      · have h := h.1 c_2
        refine lv_iconst (v := (nI 0)) hx hb dX4_shareOf_56 (by decide) ?_
        exact s_ri C hP hS ⟨rfl, h⟩ dX4_shareOf_57
      · have h := h.2 c_2
        refine lv_aload_n hx hb dX4_shareOf_48 rfl (lv_at hl 0 rfl) ?_
        refine lv_iload_n hx hb dX4_shareOf_49 rfl (lv_at hl 2 rfl) ?_
        refine go_ip (run_V g C hP hS (c0 := 4) (As := [.int a2]) (rest := []) (c_X4_isToldKite hi S a2 _ h) cal_X4_isToldKite kML_X4_118 (by decide) rfl cfX4 ⟨rfl, rfl, Nat.le_of_ble_eq_true rfl, Nat.le_of_ble_eq_true rfl⟩ rfl rfl hl.1 (Nat.le_of_ble_eq_true rfl) dX4_shareOf_50) hS (fun r_3 H locs h hP hS => ?_)
        obtain ⟨hbr_3, h⟩ := h
        refine lv_if_ne (tgt := 58) hx hb dX4_shareOf_53 (by decide) (fun c_4 => ?_) (fun c_4 => ?_)
        · have h := h.2 c_4
          refine lv_iload_n hx hb dX4_shareOf_58 rfl (lv_at hl 1 rfl) ?_
          refine lv_aload_n hx hb dX4_shareOf_59 rfl (lv_at hl 0 rfl) ?_
          refine s_gR g C hP 4 0 5 (by decide) rfl rfl cfX4 (by decide) kFL_X4_11 dX4_shareOf_60 ?_
          refine lv_iload_n hx hb dX4_shareOf_63 rfl (lv_at hl 2 rfl) ?_
          have hv_5 := h.1
          have h := h.2
          refine s_aR g C hP 5 (t := 0) (by decide) rfl rfl hv_5 dX4_shareOf_64 ?_
          refine s_gI g C hP (9 + a2.toNatClampNeg) 3 (ltX_kite (vin_lt hv_5)) (shX_kite (vin_lt hv_5)) rfl cfX2 (by decide) kFL_X4_77 dX4_shareOf_65 ?_
          refine lv_imul hx hb dX4_shareOf_68 ?_
          refine lv_iload_n hx hb dX4_shareOf_69 rfl (lv_at hl 3 rfl) ?_
          have hn_6 := h.1
          have h := h.2
          refine lv_irem hx hb dX4_shareOf_70 hn_6 ?_
          refine lv_topi (fun x4_7 ex4_7 => ?_)
          have h := h x4_7 ex4_7
          refine lv_istore (lv' := [(4, .int x4_7), (0, .ref (Z.2.2.1 4)), (1, .int a1), (2, .int a2), (3, .int x3)]) hx hb dX4_shareOf_71 hl (by decide) rfl (fun ls hl => ?_)
          refine lv_iload_n hx hb dX4_shareOf_73 rfl (lv_at hl 2 rfl) ?_
          refine lv_istore (lv' := [(5, .int a1), (4, .int x4_7), (0, .ref (Z.2.2.1 4)), (1, .int a1), (2, .int a2), (3, .int x3)]) hx hb dX4_shareOf_74 hl (by decide) rfl (fun ls hl => ?_)
          refine lv_iconst (v := (nI 0)) hx hb dX4_shareOf_76 (by decide) ?_
          refine lv_istore (lv' := [(6, .int (nI 0)), (5, .int a1), (4, .int x4_7), (0, .ref (Z.2.2.1 4)), (1, .int a1), (2, .int a2), (3, .int x3)]) hx hb dX4_shareOf_77 hl (by decide) rfl (fun ls hl => ?_)
          refine lv_iconst (v := (nI 0)) hx hb dX4_shareOf_79 (by decide) ?_
          refine lv_istore (lv' := [(7, .int (nI 0)), (6, .int (nI 0)), (5, .int a1), (4, .int x4_7), (0, .ref (Z.2.2.1 4)), (1, .int a1), (2, .int a2), (3, .int x3)]) hx hb dX4_shareOf_80 hl (by decide) rfl (fun ls hl => ?_)
          obtain ⟨f_82, h⟩ := h
          exact b_X4_shareOf_82 hi C  f_82 _ _ _ _ _ _ _ _ hP hS (lv_sub hl [4, 5, 6, 7, 3, 2, 1, 0] rfl) h
        · have h := h.1 c_4
          refine lv_iconst (v := (nI 0)) hx hb dX4_shareOf_56 (by decide) ?_
          exact s_ri C hP hS ⟨rfl, h⟩ dX4_shareOf_57
    · have h := h.2 c_1
      refine lv_iload_n hx hb dX4_shareOf_12 rfl (lv_at hl 3 rfl) ?_
      refine lv_aload_n hx hb dX4_shareOf_13 rfl (lv_at hl 0 rfl) ?_
      refine lv_iload hx hb dX4_shareOf_14 (lv_at hl 4 rfl) ?_
      refine go_ip (run_V g C hP hS (c0 := 4) (As := [.int x4]) (rest := [.int x3]) (c_X4_isToldKite hi S x4 _ h) cal_X4_isToldKite kML_X4_118 (by decide) rfl cfX4 ⟨rfl, rfl, Nat.le_of_ble_eq_true rfl, Nat.le_of_ble_eq_true rfl⟩ rfl rfl hl.1 (Nat.le_of_ble_eq_true rfl) dX4_shareOf_16) hS (fun r_8 H locs h hP hS => ?_)
      obtain ⟨hbr_8, h⟩ := h
      refine lv_if_eq (tgt := 35) hx hb dX4_shareOf_19 (by decide) (fun c_9 => ?_) (fun c_9 => ?_)
      · have h := h.1 c_9
        refine lv_iconst (v := (nI 0)) hx hb dX4_shareOf_35 (by decide) ?_
        exact b_X4_shareOf_36 hi C ih _ _ _ _ _ _ hP hS (lv_sub hl [0, 1, 2, 4] rfl) h
      · have h := h.2 c_9
        refine lv_aload_n hx hb dX4_shareOf_22 rfl (lv_at hl 0 rfl) ?_
        refine s_gR g C hP 4 0 5 (by decide) rfl rfl cfX4 (by decide) kFL_X4_11 dX4_shareOf_23 ?_
        refine lv_iload hx hb dX4_shareOf_26 (lv_at hl 4 rfl) ?_
        have hv_10 := h.1
        have h := h.2
        refine s_aR g C hP 5 (t := 0) (by decide) rfl rfl hv_10 dX4_shareOf_28 ?_
        refine s_gI g C hP (9 + x4.toNatClampNeg) 3 (ltX_kite (vin_lt hv_10)) (shX_kite (vin_lt hv_10)) rfl cfX2 (by decide) kFL_X4_77 dX4_shareOf_29 ?_
        refine lv_goto (tgt := 36) hx hb dX4_shareOf_32 (by decide) ?_
        exact b_X4_shareOf_36 hi C ih _ _ _ _ _ _ hP hS (lv_sub hl [0, 1, 2, 4] rfl) h
def q_X4_shareOf (S : St) (a1 : Int32) (a2 : Int32) (k : Int32 → Prop) : Prop := ∃ f_5, q_X4_shareOf_5 a1 a2 S k f_5 (nI 0) (nI 0)
set_option maxRecDepth 100000 in
set_option maxHeartbeats 4000000 in
theorem c_X4_shareOf {l : Launch} {Z : ZT} (hi : injZ 68 Z) (S : St) (a1 : Int32) (a2 : Int32) (k : Int32 → Prop) (h : q_X4_shareOf S a1 a2 k) : Mi l shX 68 Z (gX Z) yX4_shareOf cX4_shareOf 9 (Option.some .int) (rmk 1 21) [.ref (Z.2.2.1 4), .int a1, .int a2] S (fun r S' => S' = S ∧ k r) := by
  have g := gokX hi
  refine e_i (by decide) (Nat.le_of_ble_eq_true rfl) (lv := [(0, .ref (Z.2.2.1 4)), (1, .int a1), (2, .int a2)]) rfl (fun p e s m args below meth c C hP hS ls hl => ?_)
  have hx := C.1.1
  have hb := C.1.2.1
  unfold q_X4_shareOf at h
  refine lv_iconst (v := (nI 0)) hx hb dX4_shareOf_0 (by decide) ?_
  refine lv_istore_n (lv' := [(3, .int (nI 0)), (0, .ref (Z.2.2.1 4)), (1, .int a1), (2, .int a2)]) hx hb dX4_shareOf_1 rfl hl (by decide) rfl (fun ls hl => ?_)
  refine lv_iconst (v := (nI 0)) hx hb dX4_shareOf_2 (by decide) ?_
  refine lv_istore (lv' := [(4, .int (nI 0)), (3, .int (nI 0)), (0, .ref (Z.2.2.1 4)), (1, .int a1), (2, .int a2)]) hx hb dX4_shareOf_3 hl (by decide) rfl (fun ls hl => ?_)
  obtain ⟨f_5, h⟩ := h
  exact b_X4_shareOf_5 hi C  f_5 _ _ _ _ _ hP hS (lv_sub hl [2, 3, 4, 1, 0] rfl) h
